theorem dX7_init_0 : decode cX7_init 0 = .ok (.aload_n 0, 1) := by decide +kernel
theorem dX7_init_1 : decode cX7_init 1 = .ok (.invokespecial 1, 3) := by decide +kernel
theorem dX7_init_4 : decode cX7_init 4 = .ok (.aload_n 0, 1) := by decide +kernel
theorem dX7_init_5 : decode cX7_init 5 = .ok (.sipush 250, 3) := by decide +kernel
theorem dX7_init_8 : decode cX7_init 8 = .ok (.newarray .int, 2) := by decide +kernel
theorem dX7_init_10 : decode cX7_init 10 = .ok (.putfield 7, 3) := by decide +kernel
theorem dX7_init_13 : decode cX7_init 13 = .ok (.aload_n 0, 1) := by decide +kernel
theorem dX7_init_14 : decode cX7_init 14 = .ok (.bipush 50, 2) := by decide +kernel
theorem dX7_init_16 : decode cX7_init 16 = .ok (.newarray .int, 2) := by decide +kernel
theorem dX7_init_18 : decode cX7_init 18 = .ok (.putfield 13, 3) := by decide +kernel
theorem dX7_init_21 : decode cX7_init 21 = .ok (.aload_n 0, 1) := by decide +kernel
theorem dX7_init_22 : decode cX7_init 22 = .ok (.sipush 160, 3) := by decide +kernel
theorem dX7_init_25 : decode cX7_init 25 = .ok (.newarray .int, 2) := by decide +kernel
theorem dX7_init_27 : decode cX7_init 27 = .ok (.putfield 16, 3) := by decide +kernel
theorem dX7_init_30 : decode cX7_init 30 = .ok (.aload_n 0, 1) := by decide +kernel
theorem dX7_init_31 : decode cX7_init 31 = .ok (.bipush 11, 2) := by decide +kernel
theorem dX7_init_33 : decode cX7_init 33 = .ok (.newarray .int, 2) := by decide +kernel
theorem dX7_init_35 : decode cX7_init 35 = .ok (.dup, 1) := by decide +kernel
theorem dX7_init_36 : decode cX7_init 36 = .ok (.iconst 0, 1) := by decide +kernel
theorem dX7_init_37 : decode cX7_init 37 = .ok (.iconst 0, 1) := by decide +kernel
theorem dX7_init_38 : decode cX7_init 38 = .ok (.iastore, 1) := by decide +kernel
theorem dX7_init_39 : decode cX7_init 39 = .ok (.dup, 1) := by decide +kernel
theorem dX7_init_40 : decode cX7_init 40 = .ok (.iconst 1, 1) := by decide +kernel
theorem dX7_init_41 : decode cX7_init 41 = .ok (.iconst 5, 1) := by decide +kernel
theorem dX7_init_42 : decode cX7_init 42 = .ok (.iastore, 1) := by decide +kernel
theorem dX7_init_43 : decode cX7_init 43 = .ok (.dup, 1) := by decide +kernel
theorem dX7_init_44 : decode cX7_init 44 = .ok (.iconst 2, 1) := by decide +kernel
theorem dX7_init_45 : decode cX7_init 45 = .ok (.bipush 11, 2) := by decide +kernel
theorem dX7_init_47 : decode cX7_init 47 = .ok (.iastore, 1) := by decide +kernel
theorem dX7_init_48 : decode cX7_init 48 = .ok (.dup, 1) := by decide +kernel
theorem dX7_init_49 : decode cX7_init 49 = .ok (.iconst 3, 1) := by decide +kernel
theorem dX7_init_50 : decode cX7_init 50 = .ok (.bipush 15, 2) := by decide +kernel
theorem dX7_init_52 : decode cX7_init 52 = .ok (.iastore, 1) := by decide +kernel
theorem dX7_init_53 : decode cX7_init 53 = .ok (.dup, 1) := by decide +kernel
theorem dX7_init_54 : decode cX7_init 54 = .ok (.iconst 4, 1) := by decide +kernel
theorem dX7_init_55 : decode cX7_init 55 = .ok (.bipush 23, 2) := by decide +kernel
theorem dX7_init_57 : decode cX7_init 57 = .ok (.iastore, 1) := by decide +kernel
theorem dX7_init_58 : decode cX7_init 58 = .ok (.dup, 1) := by decide +kernel
theorem dX7_init_59 : decode cX7_init 59 = .ok (.iconst 5, 1) := by decide +kernel
theorem dX7_init_60 : decode cX7_init 60 = .ok (.bipush 26, 2) := by decide +kernel
theorem dX7_init_62 : decode cX7_init 62 = .ok (.iastore, 1) := by decide +kernel
theorem dX7_init_63 : decode cX7_init 63 = .ok (.dup, 1) := by decide +kernel
theorem dX7_init_64 : decode cX7_init 64 = .ok (.bipush 6, 2) := by decide +kernel
theorem dX7_init_66 : decode cX7_init 66 = .ok (.bipush 29, 2) := by decide +kernel
theorem dX7_init_68 : decode cX7_init 68 = .ok (.iastore, 1) := by decide +kernel
theorem dX7_init_69 : decode cX7_init 69 = .ok (.dup, 1) := by decide +kernel
theorem dX7_init_70 : decode cX7_init 70 = .ok (.bipush 7, 2) := by decide +kernel
theorem dX7_init_72 : decode cX7_init 72 = .ok (.bipush 33, 2) := by decide +kernel
theorem dX7_init_74 : decode cX7_init 74 = .ok (.iastore, 1) := by decide +kernel
theorem dX7_init_75 : decode cX7_init 75 = .ok (.dup, 1) := by decide +kernel
theorem dX7_init_76 : decode cX7_init 76 = .ok (.bipush 8, 2) := by decide +kernel
theorem dX7_init_78 : decode cX7_init 78 = .ok (.bipush 36, 2) := by decide +kernel
theorem dX7_init_80 : decode cX7_init 80 = .ok (.iastore, 1) := by decide +kernel
theorem dX7_init_81 : decode cX7_init 81 = .ok (.dup, 1) := by decide +kernel
theorem dX7_init_82 : decode cX7_init 82 = .ok (.bipush 9, 2) := by decide +kernel
theorem dX7_init_84 : decode cX7_init 84 = .ok (.bipush 40, 2) := by decide +kernel
theorem dX7_init_86 : decode cX7_init 86 = .ok (.iastore, 1) := by decide +kernel
theorem dX7_init_87 : decode cX7_init 87 = .ok (.dup, 1) := by decide +kernel
theorem dX7_init_88 : decode cX7_init 88 = .ok (.bipush 10, 2) := by decide +kernel
theorem dX7_init_90 : decode cX7_init 90 = .ok (.bipush 45, 2) := by decide +kernel
theorem dX7_init_92 : decode cX7_init 92 = .ok (.iastore, 1) := by decide +kernel
theorem dX7_init_93 : decode cX7_init 93 = .ok (.putfield 19, 3) := by decide +kernel
theorem dX7_init_96 : decode cX7_init 96 = .ok (.aload_n 0, 1) := by decide +kernel
theorem dX7_init_97 : decode cX7_init 97 = .ok (.bipush 45, 2) := by decide +kernel
theorem dX7_init_99 : decode cX7_init 99 = .ok (.newarray .int, 2) := by decide +kernel
theorem dX7_init_101 : decode cX7_init 101 = .ok (.dup, 1) := by decide +kernel
theorem dX7_init_102 : decode cX7_init 102 = .ok (.iconst 0, 1) := by decide +kernel
theorem dX7_init_103 : decode cX7_init 103 = .ok (.bipush 112, 2) := by decide +kernel
theorem dX7_init_105 : decode cX7_init 105 = .ok (.iastore, 1) := by decide +kernel
theorem dX7_init_106 : decode cX7_init 106 = .ok (.dup, 1) := by decide +kernel
theorem dX7_init_107 : decode cX7_init 107 = .ok (.iconst 1, 1) := by decide +kernel
theorem dX7_init_108 : decode cX7_init 108 = .ok (.bipush 108, 2) := by decide +kernel
theorem dX7_init_110 : decode cX7_init 110 = .ok (.iastore, 1) := by decide +kernel
theorem dX7_init_111 : decode cX7_init 111 = .ok (.dup, 1) := by decide +kernel
theorem dX7_init_112 : decode cX7_init 112 = .ok (.iconst 2, 1) := by decide +kernel
theorem dX7_init_113 : decode cX7_init 113 = .ok (.bipush 97, 2) := by decide +kernel
theorem dX7_init_115 : decode cX7_init 115 = .ok (.iastore, 1) := by decide +kernel
theorem dX7_init_116 : decode cX7_init 116 = .ok (.dup, 1) := by decide +kernel
theorem dX7_init_117 : decode cX7_init 117 = .ok (.iconst 3, 1) := by decide +kernel
theorem dX7_init_118 : decode cX7_init 118 = .ok (.bipush 105, 2) := by decide +kernel
theorem dX7_init_120 : decode cX7_init 120 = .ok (.iastore, 1) := by decide +kernel
theorem dX7_init_121 : decode cX7_init 121 = .ok (.dup, 1) := by decide +kernel
theorem dX7_init_122 : decode cX7_init 122 = .ok (.iconst 4, 1) := by decide +kernel
theorem dX7_init_123 : decode cX7_init 123 = .ok (.bipush 110, 2) := by decide +kernel
theorem dX7_init_125 : decode cX7_init 125 = .ok (.iastore, 1) := by decide +kernel
theorem dX7_init_126 : decode cX7_init 126 = .ok (.dup, 1) := by decide +kernel
theorem dX7_init_127 : decode cX7_init 127 = .ok (.iconst 5, 1) := by decide +kernel
theorem dX7_init_128 : decode cX7_init 128 = .ok (.bipush 116, 2) := by decide +kernel
theorem dX7_init_130 : decode cX7_init 130 = .ok (.iastore, 1) := by decide +kernel
theorem dX7_init_131 : decode cX7_init 131 = .ok (.dup, 1) := by decide +kernel
theorem dX7_init_132 : decode cX7_init 132 = .ok (.bipush 6, 2) := by decide +kernel
theorem dX7_init_134 : decode cX7_init 134 = .ok (.bipush 97, 2) := by decide +kernel
theorem dX7_init_136 : decode cX7_init 136 = .ok (.iastore, 1) := by decide +kernel
theorem dX7_init_137 : decode cX7_init 137 = .ok (.dup, 1) := by decide +kernel
theorem dX7_init_138 : decode cX7_init 138 = .ok (.bipush 7, 2) := by decide +kernel
theorem dX7_init_140 : decode cX7_init 140 = .ok (.bipush 117, 2) := by decide +kernel
theorem dX7_init_142 : decode cX7_init 142 = .ok (.iastore, 1) := by decide +kernel
theorem dX7_init_143 : decode cX7_init 143 = .ok (.dup, 1) := by decide +kernel
theorem dX7_init_144 : decode cX7_init 144 = .ok (.bipush 8, 2) := by decide +kernel
theorem dX7_init_146 : decode cX7_init 146 = .ok (.bipush 103, 2) := by decide +kernel
theorem dX7_init_148 : decode cX7_init 148 = .ok (.iastore, 1) := by decide +kernel
theorem dX7_init_149 : decode cX7_init 149 = .ok (.dup, 1) := by decide +kernel
theorem dX7_init_150 : decode cX7_init 150 = .ok (.bipush 9, 2) := by decide +kernel
theorem dX7_init_152 : decode cX7_init 152 = .ok (.bipush 104, 2) := by decide +kernel
theorem dX7_init_154 : decode cX7_init 154 = .ok (.iastore, 1) := by decide +kernel
theorem dX7_init_155 : decode cX7_init 155 = .ok (.dup, 1) := by decide +kernel
theorem dX7_init_156 : decode cX7_init 156 = .ok (.bipush 10, 2) := by decide +kernel
theorem dX7_init_158 : decode cX7_init 158 = .ok (.bipush 116, 2) := by decide +kernel
theorem dX7_init_160 : decode cX7_init 160 = .ok (.iastore, 1) := by decide +kernel
theorem dX7_init_161 : decode cX7_init 161 = .ok (.dup, 1) := by decide +kernel
theorem dX7_init_162 : decode cX7_init 162 = .ok (.bipush 11, 2) := by decide +kernel
theorem dX7_init_164 : decode cX7_init 164 = .ok (.bipush 118, 2) := by decide +kernel
theorem dX7_init_166 : decode cX7_init 166 = .ok (.iastore, 1) := by decide +kernel
theorem dX7_init_167 : decode cX7_init 167 = .ok (.dup, 1) := by decide +kernel
theorem dX7_init_168 : decode cX7_init 168 = .ok (.bipush 12, 2) := by decide +kernel
theorem dX7_init_170 : decode cX7_init 170 = .ok (.bipush 97, 2) := by decide +kernel
theorem dX7_init_172 : decode cX7_init 172 = .ok (.iastore, 1) := by decide +kernel
theorem dX7_init_173 : decode cX7_init 173 = .ok (.dup, 1) := by decide +kernel
theorem dX7_init_174 : decode cX7_init 174 = .ok (.bipush 13, 2) := by decide +kernel
theorem dX7_init_176 : decode cX7_init 176 = .ok (.bipush 105, 2) := by decide +kernel
theorem dX7_init_178 : decode cX7_init 178 = .ok (.iastore, 1) := by decide +kernel
theorem dX7_init_179 : decode cX7_init 179 = .ok (.dup, 1) := by decide +kernel
theorem dX7_init_180 : decode cX7_init 180 = .ok (.bipush 14, 2) := by decide +kernel
theorem dX7_init_182 : decode cX7_init 182 = .ok (.bipush 110, 2) := by decide +kernel
theorem dX7_init_184 : decode cX7_init 184 = .ok (.iastore, 1) := by decide +kernel
theorem dX7_init_185 : decode cX7_init 185 = .ok (.dup, 1) := by decide +kernel
theorem dX7_init_186 : decode cX7_init 186 = .ok (.bipush 15, 2) := by decide +kernel
theorem dX7_init_188 : decode cX7_init 188 = .ok (.bipush 116, 2) := by decide +kernel
theorem dX7_init_190 : decode cX7_init 190 = .ok (.iastore, 1) := by decide +kernel
theorem dX7_init_191 : decode cX7_init 191 = .ok (.dup, 1) := by decide +kernel
theorem dX7_init_192 : decode cX7_init 192 = .ok (.bipush 16, 2) := by decide +kernel
theorem dX7_init_194 : decode cX7_init 194 = .ok (.bipush 114, 2) := by decide +kernel
theorem dX7_init_196 : decode cX7_init 196 = .ok (.iastore, 1) := by decide +kernel
theorem dX7_init_197 : decode cX7_init 197 = .ok (.dup, 1) := by decide +kernel
theorem dX7_init_198 : decode cX7_init 198 = .ok (.bipush 17, 2) := by decide +kernel
theorem dX7_init_200 : decode cX7_init 200 = .ok (.bipush 101, 2) := by decide +kernel
theorem dX7_init_202 : decode cX7_init 202 = .ok (.iastore, 1) := by decide +kernel
theorem dX7_init_203 : decode cX7_init 203 = .ok (.dup, 1) := by decide +kernel
theorem dX7_init_204 : decode cX7_init 204 = .ok (.bipush 18, 2) := by decide +kernel
theorem dX7_init_206 : decode cX7_init 206 = .ok (.bipush 109, 2) := by decide +kernel
theorem dX7_init_208 : decode cX7_init 208 = .ok (.iastore, 1) := by decide +kernel
theorem dX7_init_209 : decode cX7_init 209 = .ok (.dup, 1) := by decide +kernel
theorem dX7_init_210 : decode cX7_init 210 = .ok (.bipush 19, 2) := by decide +kernel
theorem dX7_init_212 : decode cX7_init 212 = .ok (.bipush 98, 2) := by decide +kernel
theorem dX7_init_214 : decode cX7_init 214 = .ok (.iastore, 1) := by decide +kernel
theorem dX7_init_215 : decode cX7_init 215 = .ok (.dup, 1) := by decide +kernel
theorem dX7_init_216 : decode cX7_init 216 = .ok (.bipush 20, 2) := by decide +kernel
theorem dX7_init_218 : decode cX7_init 218 = .ok (.bipush 108, 2) := by decide +kernel
theorem dX7_init_220 : decode cX7_init 220 = .ok (.iastore, 1) := by decide +kernel
theorem dX7_init_221 : decode cX7_init 221 = .ok (.dup, 1) := by decide +kernel
theorem dX7_init_222 : decode cX7_init 222 = .ok (.bipush 21, 2) := by decide +kernel
theorem dX7_init_224 : decode cX7_init 224 = .ok (.bipush 101, 2) := by decide +kernel
theorem dX7_init_226 : decode cX7_init 226 = .ok (.iastore, 1) := by decide +kernel
theorem dX7_init_227 : decode cX7_init 227 = .ok (.dup, 1) := by decide +kernel
theorem dX7_init_228 : decode cX7_init 228 = .ok (.bipush 22, 2) := by decide +kernel
theorem dX7_init_230 : decode cX7_init 230 = .ok (.bipush 114, 2) := by decide +kernel
theorem dX7_init_232 : decode cX7_init 232 = .ok (.iastore, 1) := by decide +kernel
theorem dX7_init_233 : decode cX7_init 233 = .ok (.dup, 1) := by decide +kernel
theorem dX7_init_234 : decode cX7_init 234 = .ok (.bipush 23, 2) := by decide +kernel
theorem dX7_init_236 : decode cX7_init 236 = .ok (.bipush 112, 2) := by decide +kernel
theorem dX7_init_238 : decode cX7_init 238 = .ok (.iastore, 1) := by decide +kernel
theorem dX7_init_239 : decode cX7_init 239 = .ok (.dup, 1) := by decide +kernel
theorem dX7_init_240 : decode cX7_init 240 = .ok (.bipush 24, 2) := by decide +kernel
theorem dX7_init_242 : decode cX7_init 242 = .ok (.bipush 101, 2) := by decide +kernel
theorem dX7_init_244 : decode cX7_init 244 = .ok (.iastore, 1) := by decide +kernel
theorem dX7_init_245 : decode cX7_init 245 = .ok (.dup, 1) := by decide +kernel
theorem dX7_init_246 : decode cX7_init 246 = .ok (.bipush 25, 2) := by decide +kernel
theorem dX7_init_248 : decode cX7_init 248 = .ok (.bipush 110, 2) := by decide +kernel
theorem dX7_init_250 : decode cX7_init 250 = .ok (.iastore, 1) := by decide +kernel
theorem dX7_init_251 : decode cX7_init 251 = .ok (.dup, 1) := by decide +kernel
theorem dX7_init_252 : decode cX7_init 252 = .ok (.bipush 26, 2) := by decide +kernel
theorem dX7_init_254 : decode cX7_init 254 = .ok (.bipush 114, 2) := by decide +kernel
theorem dX7_init_256 : decode cX7_init 256 = .ok (.iastore, 1) := by decide +kernel
theorem dX7_init_257 : decode cX7_init 257 = .ok (.dup, 1) := by decide +kernel
theorem dX7_init_258 : decode cX7_init 258 = .ok (.bipush 27, 2) := by decide +kernel
theorem dX7_init_260 : decode cX7_init 260 = .ok (.bipush 117, 2) := by decide +kernel
theorem dX7_init_262 : decode cX7_init 262 = .ok (.iastore, 1) := by decide +kernel
theorem dX7_init_263 : decode cX7_init 263 = .ok (.dup, 1) := by decide +kernel
theorem dX7_init_264 : decode cX7_init 264 = .ok (.bipush 28, 2) := by decide +kernel
theorem dX7_init_266 : decode cX7_init 266 = .ok (.bipush 110, 2) := by decide +kernel
theorem dX7_init_268 : decode cX7_init 268 = .ok (.iastore, 1) := by decide +kernel
theorem dX7_init_269 : decode cX7_init 269 = .ok (.dup, 1) := by decide +kernel
theorem dX7_init_270 : decode cX7_init 270 = .ok (.bipush 29, 2) := by decide +kernel
theorem dX7_init_272 : decode cX7_init 272 = .ok (.bipush 102, 2) := by decide +kernel
theorem dX7_init_274 : decode cX7_init 274 = .ok (.iastore, 1) := by decide +kernel
theorem dX7_init_275 : decode cX7_init 275 = .ok (.dup, 1) := by decide +kernel
theorem dX7_init_276 : decode cX7_init 276 = .ok (.bipush 30, 2) := by decide +kernel
theorem dX7_init_278 : decode cX7_init 278 = .ok (.bipush 111, 2) := by decide +kernel
theorem dX7_init_280 : decode cX7_init 280 = .ok (.iastore, 1) := by decide +kernel
theorem dX7_init_281 : decode cX7_init 281 = .ok (.dup, 1) := by decide +kernel
theorem dX7_init_282 : decode cX7_init 282 = .ok (.bipush 31, 2) := by decide +kernel
theorem dX7_init_284 : decode cX7_init 284 = .ok (.bipush 108, 2) := by decide +kernel
theorem dX7_init_286 : decode cX7_init 286 = .ok (.iastore, 1) := by decide +kernel
theorem dX7_init_287 : decode cX7_init 287 = .ok (.dup, 1) := by decide +kernel
theorem dX7_init_288 : decode cX7_init 288 = .ok (.bipush 32, 2) := by decide +kernel
theorem dX7_init_290 : decode cX7_init 290 = .ok (.bipush 100, 2) := by decide +kernel
theorem dX7_init_292 : decode cX7_init 292 = .ok (.iastore, 1) := by decide +kernel
theorem dX7_init_293 : decode cX7_init 293 = .ok (.dup, 1) := by decide +kernel
theorem dX7_init_294 : decode cX7_init 294 = .ok (.bipush 33, 2) := by decide +kernel
theorem dX7_init_296 : decode cX7_init 296 = .ok (.bipush 119, 2) := by decide +kernel
theorem dX7_init_298 : decode cX7_init 298 = .ok (.iastore, 1) := by decide +kernel
theorem dX7_init_299 : decode cX7_init 299 = .ok (.dup, 1) := by decide +kernel
theorem dX7_init_300 : decode cX7_init 300 = .ok (.bipush 34, 2) := by decide +kernel
theorem dX7_init_302 : decode cX7_init 302 = .ok (.bipush 101, 2) := by decide +kernel
theorem dX7_init_304 : decode cX7_init 304 = .ok (.iastore, 1) := by decide +kernel
theorem dX7_init_305 : decode cX7_init 305 = .ok (.dup, 1) := by decide +kernel
theorem dX7_init_306 : decode cX7_init 306 = .ok (.bipush 35, 2) := by decide +kernel
theorem dX7_init_308 : decode cX7_init 308 = .ok (.bipush 100, 2) := by decide +kernel
theorem dX7_init_310 : decode cX7_init 310 = .ok (.iastore, 1) := by decide +kernel
theorem dX7_init_311 : decode cX7_init 311 = .ok (.dup, 1) := by decide +kernel
theorem dX7_init_312 : decode cX7_init 312 = .ok (.bipush 36, 2) := by decide +kernel
theorem dX7_init_314 : decode cX7_init 314 = .ok (.bipush 108, 2) := by decide +kernel
theorem dX7_init_316 : decode cX7_init 316 = .ok (.iastore, 1) := by decide +kernel
theorem dX7_init_317 : decode cX7_init 317 = .ok (.dup, 1) := by decide +kernel
theorem dX7_init_318 : decode cX7_init 318 = .ok (.bipush 37, 2) := by decide +kernel
theorem dX7_init_320 : decode cX7_init 320 = .ok (.bipush 101, 2) := by decide +kernel
theorem dX7_init_322 : decode cX7_init 322 = .ok (.iastore, 1) := by decide +kernel
theorem dX7_init_323 : decode cX7_init 323 = .ok (.dup, 1) := by decide +kernel
theorem dX7_init_324 : decode cX7_init 324 = .ok (.bipush 38, 2) := by decide +kernel
theorem dX7_init_326 : decode cX7_init 326 = .ok (.bipush 102, 2) := by decide +kernel
theorem dX7_init_328 : decode cX7_init 328 = .ok (.iastore, 1) := by decide +kernel
theorem dX7_init_329 : decode cX7_init 329 = .ok (.dup, 1) := by decide +kernel
theorem dX7_init_330 : decode cX7_init 330 = .ok (.bipush 39, 2) := by decide +kernel
theorem dX7_init_332 : decode cX7_init 332 = .ok (.bipush 116, 2) := by decide +kernel
theorem dX7_init_334 : decode cX7_init 334 = .ok (.iastore, 1) := by decide +kernel
theorem dX7_init_335 : decode cX7_init 335 = .ok (.dup, 1) := by decide +kernel
theorem dX7_init_336 : decode cX7_init 336 = .ok (.bipush 40, 2) := by decide +kernel
theorem dX7_init_338 : decode cX7_init 338 = .ok (.bipush 114, 2) := by decide +kernel
theorem dX7_init_340 : decode cX7_init 340 = .ok (.iastore, 1) := by decide +kernel
theorem dX7_init_341 : decode cX7_init 341 = .ok (.dup, 1) := by decide +kernel
theorem dX7_init_342 : decode cX7_init 342 = .ok (.bipush 41, 2) := by decide +kernel
theorem dX7_init_344 : decode cX7_init 344 = .ok (.bipush 105, 2) := by decide +kernel
theorem dX7_init_346 : decode cX7_init 346 = .ok (.iastore, 1) := by decide +kernel
theorem dX7_init_347 : decode cX7_init 347 = .ok (.dup, 1) := by decide +kernel
theorem dX7_init_348 : decode cX7_init 348 = .ok (.bipush 42, 2) := by decide +kernel
theorem dX7_init_350 : decode cX7_init 350 = .ok (.bipush 103, 2) := by decide +kernel
theorem dX7_init_352 : decode cX7_init 352 = .ok (.iastore, 1) := by decide +kernel
theorem dX7_init_353 : decode cX7_init 353 = .ok (.dup, 1) := by decide +kernel
theorem dX7_init_354 : decode cX7_init 354 = .ok (.bipush 43, 2) := by decide +kernel
theorem dX7_init_356 : decode cX7_init 356 = .ok (.bipush 104, 2) := by decide +kernel
theorem dX7_init_358 : decode cX7_init 358 = .ok (.iastore, 1) := by decide +kernel
theorem dX7_init_359 : decode cX7_init 359 = .ok (.dup, 1) := by decide +kernel
theorem dX7_init_360 : decode cX7_init 360 = .ok (.bipush 44, 2) := by decide +kernel
theorem dX7_init_362 : decode cX7_init 362 = .ok (.bipush 116, 2) := by decide +kernel
theorem dX7_init_364 : decode cX7_init 364 = .ok (.iastore, 1) := by decide +kernel
theorem dX7_init_365 : decode cX7_init 365 = .ok (.putfield 22, 3) := by decide +kernel
theorem dX7_init_368 : decode cX7_init 368 = .ok (.aload_n 0, 1) := by decide +kernel
theorem dX7_init_369 : decode cX7_init 369 = .ok (.bipush 64, 2) := by decide +kernel
theorem dX7_init_371 : decode cX7_init 371 = .ok (.newarray .int, 2) := by decide +kernel
theorem dX7_init_373 : decode cX7_init 373 = .ok (.putfield 25, 3) := by decide +kernel
theorem dX7_init_376 : decode cX7_init 376 = .ok (.aload_n 0, 1) := by decide +kernel
theorem dX7_init_377 : decode cX7_init 377 = .ok (.bipush 8, 2) := by decide +kernel
theorem dX7_init_379 : decode cX7_init 379 = .ok (.newarray .int, 2) := by decide +kernel
theorem dX7_init_381 : decode cX7_init 381 = .ok (.putfield 28, 3) := by decide +kernel
theorem dX7_init_384 : decode cX7_init 384 = .ok (.aload_n 0, 1) := by decide +kernel
theorem dX7_init_385 : decode cX7_init 385 = .ok (.bipush 8, 2) := by decide +kernel
theorem dX7_init_387 : decode cX7_init 387 = .ok (.newarray .int, 2) := by decide +kernel
theorem dX7_init_389 : decode cX7_init 389 = .ok (.putfield 31, 3) := by decide +kernel
theorem dX7_init_392 : decode cX7_init 392 = .ok (.aload_n 0, 1) := by decide +kernel
theorem dX7_init_393 : decode cX7_init 393 = .ok (.bipush 8, 2) := by decide +kernel
theorem dX7_init_395 : decode cX7_init 395 = .ok (.newarray .int, 2) := by decide +kernel
theorem dX7_init_397 : decode cX7_init 397 = .ok (.putfield 34, 3) := by decide +kernel
theorem dX7_init_400 : decode cX7_init 400 = .ok (.aload_n 0, 1) := by decide +kernel
theorem dX7_init_401 : decode cX7_init 401 = .ok (.bipush 18, 2) := by decide +kernel
theorem dX7_init_403 : decode cX7_init 403 = .ok (.newarray .int, 2) := by decide +kernel
theorem dX7_init_405 : decode cX7_init 405 = .ok (.putfield 37, 3) := by decide +kernel
theorem dX7_init_408 : decode cX7_init 408 = .ok (.aload_n 0, 1) := by decide +kernel
theorem dX7_init_409 : decode cX7_init 409 = .ok (.bipush 24, 2) := by decide +kernel
theorem dX7_init_411 : decode cX7_init 411 = .ok (.newarray .int, 2) := by decide +kernel
theorem dX7_init_413 : decode cX7_init 413 = .ok (.putfield 40, 3) := by decide +kernel
theorem dX7_init_416 : decode cX7_init 416 = .ok (.aload_n 0, 1) := by decide +kernel
theorem dX7_init_417 : decode cX7_init 417 = .ok (.iconst 2, 1) := by decide +kernel
theorem dX7_init_418 : decode cX7_init 418 = .ok (.newarray .boolean, 2) := by decide +kernel
theorem dX7_init_420 : decode cX7_init 420 = .ok (.putfield 43, 3) := by decide +kernel
theorem dX7_init_423 : decode cX7_init 423 = .ok (.aload_n 0, 1) := by decide +kernel
theorem dX7_init_424 : decode cX7_init 424 = .ok (.iconst 4, 1) := by decide +kernel
theorem dX7_init_425 : decode cX7_init 425 = .ok (.newarray .int, 2) := by decide +kernel
theorem dX7_init_427 : decode cX7_init 427 = .ok (.dup, 1) := by decide +kernel
theorem dX7_init_428 : decode cX7_init 428 = .ok (.iconst 0, 1) := by decide +kernel
theorem dX7_init_429 : decode cX7_init 429 = .ok (.bipush (-4), 2) := by decide +kernel
theorem dX7_init_431 : decode cX7_init 431 = .ok (.iastore, 1) := by decide +kernel
theorem dX7_init_432 : decode cX7_init 432 = .ok (.dup, 1) := by decide +kernel
theorem dX7_init_433 : decode cX7_init 433 = .ok (.iconst 1, 1) := by decide +kernel
theorem dX7_init_434 : decode cX7_init 434 = .ok (.bipush (-4), 2) := by decide +kernel
theorem dX7_init_436 : decode cX7_init 436 = .ok (.iastore, 1) := by decide +kernel
theorem dX7_init_437 : decode cX7_init 437 = .ok (.dup, 1) := by decide +kernel
theorem dX7_init_438 : decode cX7_init 438 = .ok (.iconst 2, 1) := by decide +kernel
theorem dX7_init_439 : decode cX7_init 439 = .ok (.bipush (-4), 2) := by decide +kernel
theorem dX7_init_441 : decode cX7_init 441 = .ok (.iastore, 1) := by decide +kernel
theorem dX7_init_442 : decode cX7_init 442 = .ok (.dup, 1) := by decide +kernel
theorem dX7_init_443 : decode cX7_init 443 = .ok (.iconst 3, 1) := by decide +kernel
theorem dX7_init_444 : decode cX7_init 444 = .ok (.bipush (-4), 2) := by decide +kernel
theorem dX7_init_446 : decode cX7_init 446 = .ok (.iastore, 1) := by decide +kernel
theorem dX7_init_447 : decode cX7_init 447 = .ok (.putfield 47, 3) := by decide +kernel
theorem dX7_init_450 : decode cX7_init 450 = .ok (.aload_n 0, 1) := by decide +kernel
theorem dX7_init_451 : decode cX7_init 451 = .ok (.iconst 4, 1) := by decide +kernel
theorem dX7_init_452 : decode cX7_init 452 = .ok (.newarray .int, 2) := by decide +kernel
theorem dX7_init_454 : decode cX7_init 454 = .ok (.putfield 50, 3) := by decide +kernel
theorem dX7_init_457 : decode cX7_init 457 = .ok (.aload_n 0, 1) := by decide +kernel
theorem dX7_init_458 : decode cX7_init 458 = .ok (.sipush 160, 3) := by decide +kernel
theorem dX7_init_461 : decode cX7_init 461 = .ok (.newarray .int, 2) := by decide +kernel
theorem dX7_init_463 : decode cX7_init 463 = .ok (.putfield 53, 3) := by decide +kernel
theorem dX7_init_466 : decode cX7_init 466 = .ok (.return_, 1) := by decide +kernel
theorem dX7_in_0 : decode cX7_in 0 = .ok (.lload_n 0, 1) := by decide +kernel
theorem dX7_in_1 : decode cX7_in 1 = .ok (.lload_n 2, 1) := by decide +kernel
theorem dX7_in_2 : decode cX7_in 2 = .ok (.lcmp, 1) := by decide +kernel
theorem dX7_in_3 : decode cX7_in 3 = .ok (.ifCond .lt 14, 3) := by decide +kernel
theorem dX7_in_6 : decode cX7_in 6 = .ok (.lload_n 0, 1) := by decide +kernel
theorem dX7_in_7 : decode cX7_in 7 = .ok (.lload 4, 2) := by decide +kernel
theorem dX7_in_9 : decode cX7_in 9 = .ok (.lcmp, 1) := by decide +kernel
theorem dX7_in_10 : decode cX7_in 10 = .ok (.ifCond .gt 7, 3) := by decide +kernel
theorem dX7_in_13 : decode cX7_in 13 = .ok (.iconst 1, 1) := by decide +kernel
theorem dX7_in_14 : decode cX7_in 14 = .ok (.goto 4, 3) := by decide +kernel
theorem dX7_in_17 : decode cX7_in 17 = .ok (.iconst 0, 1) := by decide +kernel
theorem dX7_in_18 : decode cX7_in 18 = .ok (.ireturn, 1) := by decide +kernel
theorem dX7_feed_0 : decode cX7_feed 0 = .ok (.iload_n 1, 1) := by decide +kernel
theorem dX7_feed_1 : decode cX7_feed 1 = .ok (.i2l, 1) := by decide +kernel
theorem dX7_feed_2 : decode cX7_feed 2 = .ok (.lconst 0, 1) := by decide +kernel
theorem dX7_feed_3 : decode cX7_feed 3 = .ok (.ldc2_w 56, 3) := by decide +kernel
theorem dX7_feed_6 : decode cX7_feed 6 = .ok (.invokestatic 58, 3) := by decide +kernel
theorem dX7_feed_9 : decode cX7_feed 9 = .ok (.ifCond .ne 5, 3) := by decide +kernel
theorem dX7_feed_12 : decode cX7_feed 12 = .ok (.iconst (-1), 1) := by decide +kernel
theorem dX7_feed_13 : decode cX7_feed 13 = .ok (.ireturn, 1) := by decide +kernel
theorem dX7_feed_14 : decode cX7_feed 14 = .ok (.aload_n 0, 1) := by decide +kernel
theorem dX7_feed_15 : decode cX7_feed 15 = .ok (.getfield 62, 3) := by decide +kernel
theorem dX7_feed_18 : decode cX7_feed 18 = .ok (.sipush 160, 3) := by decide +kernel
theorem dX7_feed_21 : decode cX7_feed 21 = .ok (.if_icmp .ne 6, 3) := by decide +kernel
theorem dX7_feed_24 : decode cX7_feed 24 = .ok (.bipush (-3), 2) := by decide +kernel
theorem dX7_feed_26 : decode cX7_feed 26 = .ok (.ireturn, 1) := by decide +kernel
theorem dX7_feed_27 : decode cX7_feed 27 = .ok (.aload_n 0, 1) := by decide +kernel
theorem dX7_feed_28 : decode cX7_feed 28 = .ok (.getfield 16, 3) := by decide +kernel
theorem dX7_feed_31 : decode cX7_feed 31 = .ok (.aload_n 0, 1) := by decide +kernel
theorem dX7_feed_32 : decode cX7_feed 32 = .ok (.getfield 62, 3) := by decide +kernel
theorem dX7_feed_35 : decode cX7_feed 35 = .ok (.iload_n 1, 1) := by decide +kernel
theorem dX7_feed_36 : decode cX7_feed 36 = .ok (.iastore, 1) := by decide +kernel
theorem dX7_feed_37 : decode cX7_feed 37 = .ok (.aload_n 0, 1) := by decide +kernel
theorem dX7_feed_38 : decode cX7_feed 38 = .ok (.dup, 1) := by decide +kernel
theorem dX7_feed_39 : decode cX7_feed 39 = .ok (.getfield 62, 3) := by decide +kernel
theorem dX7_feed_42 : decode cX7_feed 42 = .ok (.iconst 1, 1) := by decide +kernel
theorem dX7_feed_43 : decode cX7_feed 43 = .ok (.iadd, 1) := by decide +kernel
theorem dX7_feed_44 : decode cX7_feed 44 = .ok (.putfield 62, 3) := by decide +kernel
theorem dX7_feed_47 : decode cX7_feed 47 = .ok (.aload_n 0, 1) := by decide +kernel
theorem dX7_feed_48 : decode cX7_feed 48 = .ok (.getfield 62, 3) := by decide +kernel
theorem dX7_feed_51 : decode cX7_feed 51 = .ok (.ireturn, 1) := by decide +kernel
theorem dX7_end_0 : decode cX7_end 0 = .ok (.iload_n 1, 1) := by decide +kernel
theorem dX7_end_1 : decode cX7_end 1 = .ok (.i2l, 1) := by decide +kernel
theorem dX7_end_2 : decode cX7_end 2 = .ok (.lconst 0, 1) := by decide +kernel
theorem dX7_end_3 : decode cX7_end 3 = .ok (.aload_n 0, 1) := by decide +kernel
theorem dX7_end_4 : decode cX7_end 4 = .ok (.getfield 62, 3) := by decide +kernel
theorem dX7_end_7 : decode cX7_end 7 = .ok (.i2l, 1) := by decide +kernel
theorem dX7_end_8 : decode cX7_end 8 = .ok (.invokestatic 58, 3) := by decide +kernel
theorem dX7_end_11 : decode cX7_end 11 = .ok (.ifCond .ne 5, 3) := by decide +kernel
theorem dX7_end_14 : decode cX7_end 14 = .ok (.iconst (-1), 1) := by decide +kernel
theorem dX7_end_15 : decode cX7_end 15 = .ok (.ireturn, 1) := by decide +kernel
theorem dX7_end_16 : decode cX7_end 16 = .ok (.aload_n 0, 1) := by decide +kernel
theorem dX7_end_17 : decode cX7_end 17 = .ok (.getfield 62, 3) := by decide +kernel
theorem dX7_end_20 : decode cX7_end 20 = .ok (.istore_n 2, 1) := by decide +kernel
theorem dX7_end_21 : decode cX7_end 21 = .ok (.aload_n 0, 1) := by decide +kernel
theorem dX7_end_22 : decode cX7_end 22 = .ok (.iload_n 1, 1) := by decide +kernel
theorem dX7_end_23 : decode cX7_end 23 = .ok (.putfield 62, 3) := by decide +kernel
theorem dX7_end_26 : decode cX7_end 26 = .ok (.iload_n 2, 1) := by decide +kernel
theorem dX7_end_27 : decode cX7_end 27 = .ok (.ireturn, 1) := by decide +kernel
theorem dX7_byteAt_0 : decode cX7_byteAt 0 = .ok (.iload_n 1, 1) := by decide +kernel
theorem dX7_byteAt_1 : decode cX7_byteAt 1 = .ok (.aload_n 0, 1) := by decide +kernel
theorem dX7_byteAt_2 : decode cX7_byteAt 2 = .ok (.getfield 62, 3) := by decide +kernel
theorem dX7_byteAt_5 : decode cX7_byteAt 5 = .ok (.if_icmp .ge 12, 3) := by decide +kernel
theorem dX7_byteAt_8 : decode cX7_byteAt 8 = .ok (.aload_n 0, 1) := by decide +kernel
theorem dX7_byteAt_9 : decode cX7_byteAt 9 = .ok (.getfield 16, 3) := by decide +kernel
theorem dX7_byteAt_12 : decode cX7_byteAt 12 = .ok (.iload_n 1, 1) := by decide +kernel
theorem dX7_byteAt_13 : decode cX7_byteAt 13 = .ok (.iaload, 1) := by decide +kernel
theorem dX7_byteAt_14 : decode cX7_byteAt 14 = .ok (.goto 5, 3) := by decide +kernel
theorem dX7_byteAt_17 : decode cX7_byteAt 17 = .ok (.bipush (-4), 2) := by decide +kernel
theorem dX7_byteAt_19 : decode cX7_byteAt 19 = .ok (.ireturn, 1) := by decide +kernel
theorem dX7_fails_0 : decode cX7_fails 0 = .ok (.aload_n 0, 1) := by decide +kernel
theorem dX7_fails_1 : decode cX7_fails 1 = .ok (.getfield 66, 3) := by decide +kernel
theorem dX7_fails_4 : decode cX7_fails 4 = .ok (.ifCond .ne 16, 3) := by decide +kernel
theorem dX7_fails_7 : decode cX7_fails 7 = .ok (.aload_n 0, 1) := by decide +kernel
theorem dX7_fails_8 : decode cX7_fails 8 = .ok (.iload_n 1, 1) := by decide +kernel
theorem dX7_fails_9 : decode cX7_fails 9 = .ok (.putfield 66, 3) := by decide +kernel
theorem dX7_fails_12 : decode cX7_fails 12 = .ok (.aload_n 0, 1) := by decide +kernel
theorem dX7_fails_13 : decode cX7_fails 13 = .ok (.aload_n 0, 1) := by decide +kernel
theorem dX7_fails_14 : decode cX7_fails 14 = .ok (.getfield 69, 3) := by decide +kernel
theorem dX7_fails_17 : decode cX7_fails 17 = .ok (.putfield 72, 3) := by decide +kernel
theorem dX7_fails_20 : decode cX7_fails 20 = .ok (.return_, 1) := by decide +kernel
theorem dX7_nameHere_0 : decode cX7_nameHere 0 = .ok (.iconst 0, 1) := by decide +kernel
theorem dX7_nameHere_1 : decode cX7_nameHere 1 = .ok (.istore_n 1, 1) := by decide +kernel
theorem dX7_nameHere_2 : decode cX7_nameHere 2 = .ok (.iload_n 1, 1) := by decide +kernel
theorem dX7_nameHere_3 : decode cX7_nameHere 3 = .ok (.bipush 10, 2) := by decide +kernel
theorem dX7_nameHere_5 : decode cX7_nameHere 5 = .ok (.if_icmp .ge 113, 3) := by decide +kernel
theorem dX7_nameHere_8 : decode cX7_nameHere 8 = .ok (.aload_n 0, 1) := by decide +kernel
theorem dX7_nameHere_9 : decode cX7_nameHere 9 = .ok (.getfield 75, 3) := by decide +kernel
theorem dX7_nameHere_12 : decode cX7_nameHere 12 = .ok (.iconst 1, 1) := by decide +kernel
theorem dX7_nameHere_13 : decode cX7_nameHere 13 = .ok (.if_icmp .ne 105, 3) := by decide +kernel
theorem dX7_nameHere_16 : decode cX7_nameHere 16 = .ok (.aload_n 0, 1) := by decide +kernel
theorem dX7_nameHere_17 : decode cX7_nameHere 17 = .ok (.getfield 78, 3) := by decide +kernel
theorem dX7_nameHere_20 : decode cX7_nameHere 20 = .ok (.aload_n 0, 1) := by decide +kernel
theorem dX7_nameHere_21 : decode cX7_nameHere 21 = .ok (.getfield 69, 3) := by decide +kernel
theorem dX7_nameHere_24 : decode cX7_nameHere 24 = .ok (.isub, 1) := by decide +kernel
theorem dX7_nameHere_25 : decode cX7_nameHere 25 = .ok (.aload_n 0, 1) := by decide +kernel
theorem dX7_nameHere_26 : decode cX7_nameHere 26 = .ok (.getfield 19, 3) := by decide +kernel
theorem dX7_nameHere_29 : decode cX7_nameHere 29 = .ok (.iload_n 1, 1) := by decide +kernel
theorem dX7_nameHere_30 : decode cX7_nameHere 30 = .ok (.iconst 1, 1) := by decide +kernel
theorem dX7_nameHere_31 : decode cX7_nameHere 31 = .ok (.iadd, 1) := by decide +kernel
theorem dX7_nameHere_32 : decode cX7_nameHere 32 = .ok (.iaload, 1) := by decide +kernel
theorem dX7_nameHere_33 : decode cX7_nameHere 33 = .ok (.aload_n 0, 1) := by decide +kernel
theorem dX7_nameHere_34 : decode cX7_nameHere 34 = .ok (.getfield 19, 3) := by decide +kernel
theorem dX7_nameHere_37 : decode cX7_nameHere 37 = .ok (.iload_n 1, 1) := by decide +kernel
theorem dX7_nameHere_38 : decode cX7_nameHere 38 = .ok (.iaload, 1) := by decide +kernel
theorem dX7_nameHere_39 : decode cX7_nameHere 39 = .ok (.isub, 1) := by decide +kernel
theorem dX7_nameHere_40 : decode cX7_nameHere 40 = .ok (.if_icmp .ne 7, 3) := by decide +kernel
theorem dX7_nameHere_43 : decode cX7_nameHere 43 = .ok (.iconst 1, 1) := by decide +kernel
theorem dX7_nameHere_44 : decode cX7_nameHere 44 = .ok (.goto 4, 3) := by decide +kernel
theorem dX7_nameHere_47 : decode cX7_nameHere 47 = .ok (.iconst 0, 1) := by decide +kernel
theorem dX7_nameHere_48 : decode cX7_nameHere 48 = .ok (.istore_n 2, 1) := by decide +kernel
theorem dX7_nameHere_49 : decode cX7_nameHere 49 = .ok (.iconst 0, 1) := by decide +kernel
theorem dX7_nameHere_50 : decode cX7_nameHere 50 = .ok (.istore_n 3, 1) := by decide +kernel
theorem dX7_nameHere_51 : decode cX7_nameHere 51 = .ok (.iload_n 2, 1) := by decide +kernel
theorem dX7_nameHere_52 : decode cX7_nameHere 52 = .ok (.ifCond .eq 54, 3) := by decide +kernel
theorem dX7_nameHere_55 : decode cX7_nameHere 55 = .ok (.iload_n 3, 1) := by decide +kernel
theorem dX7_nameHere_56 : decode cX7_nameHere 56 = .ok (.aload_n 0, 1) := by decide +kernel
theorem dX7_nameHere_57 : decode cX7_nameHere 57 = .ok (.getfield 78, 3) := by decide +kernel
theorem dX7_nameHere_60 : decode cX7_nameHere 60 = .ok (.aload_n 0, 1) := by decide +kernel
theorem dX7_nameHere_61 : decode cX7_nameHere 61 = .ok (.getfield 69, 3) := by decide +kernel
theorem dX7_nameHere_64 : decode cX7_nameHere 64 = .ok (.isub, 1) := by decide +kernel
theorem dX7_nameHere_65 : decode cX7_nameHere 65 = .ok (.if_icmp .ge 41, 3) := by decide +kernel
theorem dX7_nameHere_68 : decode cX7_nameHere 68 = .ok (.aload_n 0, 1) := by decide +kernel
theorem dX7_nameHere_69 : decode cX7_nameHere 69 = .ok (.aload_n 0, 1) := by decide +kernel
theorem dX7_nameHere_70 : decode cX7_nameHere 70 = .ok (.getfield 69, 3) := by decide +kernel
theorem dX7_nameHere_73 : decode cX7_nameHere 73 = .ok (.iload_n 3, 1) := by decide +kernel
theorem dX7_nameHere_74 : decode cX7_nameHere 74 = .ok (.iadd, 1) := by decide +kernel
theorem dX7_nameHere_75 : decode cX7_nameHere 75 = .ok (.invokevirtual 81, 3) := by decide +kernel
theorem dX7_nameHere_78 : decode cX7_nameHere 78 = .ok (.aload_n 0, 1) := by decide +kernel
theorem dX7_nameHere_79 : decode cX7_nameHere 79 = .ok (.getfield 22, 3) := by decide +kernel
theorem dX7_nameHere_82 : decode cX7_nameHere 82 = .ok (.aload_n 0, 1) := by decide +kernel
theorem dX7_nameHere_83 : decode cX7_nameHere 83 = .ok (.getfield 19, 3) := by decide +kernel
theorem dX7_nameHere_86 : decode cX7_nameHere 86 = .ok (.iload_n 1, 1) := by decide +kernel
theorem dX7_nameHere_87 : decode cX7_nameHere 87 = .ok (.iaload, 1) := by decide +kernel
theorem dX7_nameHere_88 : decode cX7_nameHere 88 = .ok (.iload_n 3, 1) := by decide +kernel
theorem dX7_nameHere_89 : decode cX7_nameHere 89 = .ok (.iadd, 1) := by decide +kernel
theorem dX7_nameHere_90 : decode cX7_nameHere 90 = .ok (.iaload, 1) := by decide +kernel
theorem dX7_nameHere_91 : decode cX7_nameHere 91 = .ok (.if_icmp .ne 7, 3) := by decide +kernel
theorem dX7_nameHere_94 : decode cX7_nameHere 94 = .ok (.iconst 1, 1) := by decide +kernel
theorem dX7_nameHere_95 : decode cX7_nameHere 95 = .ok (.goto 4, 3) := by decide +kernel
theorem dX7_nameHere_98 : decode cX7_nameHere 98 = .ok (.iconst 0, 1) := by decide +kernel
theorem dX7_nameHere_99 : decode cX7_nameHere 99 = .ok (.istore_n 2, 1) := by decide +kernel
theorem dX7_nameHere_100 : decode cX7_nameHere 100 = .ok (.iinc 3 1, 3) := by decide +kernel
theorem dX7_nameHere_103 : decode cX7_nameHere 103 = .ok (.goto (-52), 3) := by decide +kernel
theorem dX7_nameHere_106 : decode cX7_nameHere 106 = .ok (.iload_n 2, 1) := by decide +kernel
theorem dX7_nameHere_107 : decode cX7_nameHere 107 = .ok (.ifCond .eq 5, 3) := by decide +kernel
theorem dX7_nameHere_110 : decode cX7_nameHere 110 = .ok (.iload_n 1, 1) := by decide +kernel
theorem dX7_nameHere_111 : decode cX7_nameHere 111 = .ok (.ireturn, 1) := by decide +kernel
theorem dX7_nameHere_112 : decode cX7_nameHere 112 = .ok (.iinc 1 1, 3) := by decide +kernel
theorem dX7_nameHere_115 : decode cX7_nameHere 115 = .ok (.goto (-113), 3) := by decide +kernel
theorem dX7_nameHere_118 : decode cX7_nameHere 118 = .ok (.bipush (-4), 2) := by decide +kernel
theorem dX7_nameHere_120 : decode cX7_nameHere 120 = .ok (.ireturn, 1) := by decide +kernel
theorem dX7_step_0 : decode cX7_step 0 = .ok (.aload_n 0, 1) := by decide +kernel
theorem dX7_step_1 : decode cX7_step 1 = .ok (.getfield 66, 3) := by decide +kernel
theorem dX7_step_4 : decode cX7_step 4 = .ok (.ifCond .le 4, 3) := by decide +kernel
theorem dX7_step_7 : decode cX7_step 7 = .ok (.return_, 1) := by decide +kernel
theorem dX7_step_8 : decode cX7_step 8 = .ok (.aload_n 0, 1) := by decide +kernel
theorem dX7_step_9 : decode cX7_step 9 = .ok (.aload_n 0, 1) := by decide +kernel
theorem dX7_step_10 : decode cX7_step 10 = .ok (.getfield 78, 3) := by decide +kernel
theorem dX7_step_13 : decode cX7_step 13 = .ok (.invokevirtual 81, 3) := by decide +kernel
theorem dX7_step_16 : decode cX7_step 16 = .ok (.bipush 32, 2) := by decide +kernel
theorem dX7_step_18 : decode cX7_step 18 = .ok (.if_icmp .ne 16, 3) := by decide +kernel
theorem dX7_step_21 : decode cX7_step 21 = .ok (.aload_n 0, 1) := by decide +kernel
theorem dX7_step_22 : decode cX7_step 22 = .ok (.dup, 1) := by decide +kernel
theorem dX7_step_23 : decode cX7_step 23 = .ok (.getfield 78, 3) := by decide +kernel
theorem dX7_step_26 : decode cX7_step 26 = .ok (.iconst 1, 1) := by decide +kernel
theorem dX7_step_27 : decode cX7_step 27 = .ok (.iadd, 1) := by decide +kernel
theorem dX7_step_28 : decode cX7_step 28 = .ok (.putfield 78, 3) := by decide +kernel
theorem dX7_step_31 : decode cX7_step 31 = .ok (.goto (-23), 3) := by decide +kernel
theorem dX7_step_34 : decode cX7_step 34 = .ok (.aload_n 0, 1) := by decide +kernel
theorem dX7_step_35 : decode cX7_step 35 = .ok (.aload_n 0, 1) := by decide +kernel
theorem dX7_step_36 : decode cX7_step 36 = .ok (.getfield 78, 3) := by decide +kernel
theorem dX7_step_39 : decode cX7_step 39 = .ok (.putfield 69, 3) := by decide +kernel
theorem dX7_step_42 : decode cX7_step 42 = .ok (.aload_n 0, 1) := by decide +kernel
theorem dX7_step_43 : decode cX7_step 43 = .ok (.aload_n 0, 1) := by decide +kernel
theorem dX7_step_44 : decode cX7_step 44 = .ok (.getfield 78, 3) := by decide +kernel
theorem dX7_step_47 : decode cX7_step 47 = .ok (.invokevirtual 81, 3) := by decide +kernel
theorem dX7_step_50 : decode cX7_step 50 = .ok (.istore_n 1, 1) := by decide +kernel
theorem dX7_step_51 : decode cX7_step 51 = .ok (.aload_n 0, 1) := by decide +kernel
theorem dX7_step_52 : decode cX7_step 52 = .ok (.iconst 0, 1) := by decide +kernel
theorem dX7_step_53 : decode cX7_step 53 = .ok (.putfield 85, 3) := by decide +kernel
theorem dX7_step_56 : decode cX7_step 56 = .ok (.iload_n 1, 1) := by decide +kernel
theorem dX7_step_57 : decode cX7_step 57 = .ok (.bipush (-4), 2) := by decide +kernel
theorem dX7_step_59 : decode cX7_step 59 = .ok (.if_icmp .ne 11, 3) := by decide +kernel
theorem dX7_step_62 : decode cX7_step 62 = .ok (.aload_n 0, 1) := by decide +kernel
theorem dX7_step_63 : decode cX7_step 63 = .ok (.iconst 0, 1) := by decide +kernel
theorem dX7_step_64 : decode cX7_step 64 = .ok (.putfield 75, 3) := by decide +kernel
theorem dX7_step_67 : decode cX7_step 67 = .ok (.goto 202, 3) := by decide +kernel
theorem dX7_step_70 : decode cX7_step 70 = .ok (.iload_n 1, 1) := by decide +kernel
theorem dX7_step_71 : decode cX7_step 71 = .ok (.i2l, 1) := by decide +kernel
theorem dX7_step_72 : decode cX7_step 72 = .ok (.ldc2_w 88, 3) := by decide +kernel
theorem dX7_step_75 : decode cX7_step 75 = .ok (.ldc2_w 90, 3) := by decide +kernel
theorem dX7_step_78 : decode cX7_step 78 = .ok (.invokestatic 58, 3) := by decide +kernel
theorem dX7_step_81 : decode cX7_step 81 = .ok (.ifCond .eq 45, 3) := by decide +kernel
theorem dX7_step_84 : decode cX7_step 84 = .ok (.aload_n 0, 1) := by decide +kernel
theorem dX7_step_85 : decode cX7_step 85 = .ok (.aload_n 0, 1) := by decide +kernel
theorem dX7_step_86 : decode cX7_step 86 = .ok (.getfield 78, 3) := by decide +kernel
theorem dX7_step_89 : decode cX7_step 89 = .ok (.invokevirtual 81, 3) := by decide +kernel
theorem dX7_step_92 : decode cX7_step 92 = .ok (.i2l, 1) := by decide +kernel
theorem dX7_step_93 : decode cX7_step 93 = .ok (.ldc2_w 88, 3) := by decide +kernel
theorem dX7_step_96 : decode cX7_step 96 = .ok (.ldc2_w 90, 3) := by decide +kernel
theorem dX7_step_99 : decode cX7_step 99 = .ok (.invokestatic 58, 3) := by decide +kernel
theorem dX7_step_102 : decode cX7_step 102 = .ok (.ifCond .eq 16, 3) := by decide +kernel
theorem dX7_step_105 : decode cX7_step 105 = .ok (.aload_n 0, 1) := by decide +kernel
theorem dX7_step_106 : decode cX7_step 106 = .ok (.dup, 1) := by decide +kernel
theorem dX7_step_107 : decode cX7_step 107 = .ok (.getfield 78, 3) := by decide +kernel
theorem dX7_step_110 : decode cX7_step 110 = .ok (.iconst 1, 1) := by decide +kernel
theorem dX7_step_111 : decode cX7_step 111 = .ok (.iadd, 1) := by decide +kernel
theorem dX7_step_112 : decode cX7_step 112 = .ok (.putfield 78, 3) := by decide +kernel
theorem dX7_step_115 : decode cX7_step 115 = .ok (.goto (-31), 3) := by decide +kernel
theorem dX7_step_118 : decode cX7_step 118 = .ok (.aload_n 0, 1) := by decide +kernel
theorem dX7_step_119 : decode cX7_step 119 = .ok (.iconst 1, 1) := by decide +kernel
theorem dX7_step_120 : decode cX7_step 120 = .ok (.putfield 75, 3) := by decide +kernel
theorem dX7_step_123 : decode cX7_step 123 = .ok (.goto 146, 3) := by decide +kernel
theorem dX7_step_126 : decode cX7_step 126 = .ok (.iload_n 1, 1) := by decide +kernel
theorem dX7_step_127 : decode cX7_step 127 = .ok (.i2l, 1) := by decide +kernel
theorem dX7_step_128 : decode cX7_step 128 = .ok (.ldc2_w 92, 3) := by decide +kernel
theorem dX7_step_131 : decode cX7_step 131 = .ok (.ldc2_w 94, 3) := by decide +kernel
theorem dX7_step_134 : decode cX7_step 134 = .ok (.invokestatic 58, 3) := by decide +kernel
theorem dX7_step_137 : decode cX7_step 137 = .ok (.ifCond .eq 106, 3) := by decide +kernel
theorem dX7_step_140 : decode cX7_step 140 = .ok (.aload_n 0, 1) := by decide +kernel
theorem dX7_step_141 : decode cX7_step 141 = .ok (.aload_n 0, 1) := by decide +kernel
theorem dX7_step_142 : decode cX7_step 142 = .ok (.getfield 78, 3) := by decide +kernel
theorem dX7_step_145 : decode cX7_step 145 = .ok (.invokevirtual 81, 3) := by decide +kernel
theorem dX7_step_148 : decode cX7_step 148 = .ok (.i2l, 1) := by decide +kernel
theorem dX7_step_149 : decode cX7_step 149 = .ok (.ldc2_w 92, 3) := by decide +kernel
theorem dX7_step_152 : decode cX7_step 152 = .ok (.ldc2_w 94, 3) := by decide +kernel
theorem dX7_step_155 : decode cX7_step 155 = .ok (.invokestatic 58, 3) := by decide +kernel
theorem dX7_step_158 : decode cX7_step 158 = .ok (.ifCond .eq 59, 3) := by decide +kernel
theorem dX7_step_161 : decode cX7_step 161 = .ok (.aload_n 0, 1) := by decide +kernel
theorem dX7_step_162 : decode cX7_step 162 = .ok (.aload_n 0, 1) := by decide +kernel
theorem dX7_step_163 : decode cX7_step 163 = .ok (.getfield 78, 3) := by decide +kernel
theorem dX7_step_166 : decode cX7_step 166 = .ok (.aload_n 0, 1) := by decide +kernel
theorem dX7_step_167 : decode cX7_step 167 = .ok (.getfield 69, 3) := by decide +kernel
theorem dX7_step_170 : decode cX7_step 170 = .ok (.isub, 1) := by decide +kernel
theorem dX7_step_171 : decode cX7_step 171 = .ok (.iconst 2, 1) := by decide +kernel
theorem dX7_step_172 : decode cX7_step 172 = .ok (.if_icmp .ge 25, 3) := by decide +kernel
theorem dX7_step_175 : decode cX7_step 175 = .ok (.bipush 10, 2) := by decide +kernel
theorem dX7_step_177 : decode cX7_step 177 = .ok (.aload_n 0, 1) := by decide +kernel
theorem dX7_step_178 : decode cX7_step 178 = .ok (.getfield 85, 3) := by decide +kernel
theorem dX7_step_181 : decode cX7_step 181 = .ok (.imul, 1) := by decide +kernel
theorem dX7_step_182 : decode cX7_step 182 = .ok (.aload_n 0, 1) := by decide +kernel
theorem dX7_step_183 : decode cX7_step 183 = .ok (.aload_n 0, 1) := by decide +kernel
theorem dX7_step_184 : decode cX7_step 184 = .ok (.getfield 78, 3) := by decide +kernel
theorem dX7_step_187 : decode cX7_step 187 = .ok (.invokevirtual 81, 3) := by decide +kernel
theorem dX7_step_190 : decode cX7_step 190 = .ok (.iadd, 1) := by decide +kernel
theorem dX7_step_191 : decode cX7_step 191 = .ok (.bipush 48, 2) := by decide +kernel
theorem dX7_step_193 : decode cX7_step 193 = .ok (.isub, 1) := by decide +kernel
theorem dX7_step_194 : decode cX7_step 194 = .ok (.goto 7, 3) := by decide +kernel
theorem dX7_step_197 : decode cX7_step 197 = .ok (.aload_n 0, 1) := by decide +kernel
theorem dX7_step_198 : decode cX7_step 198 = .ok (.getfield 85, 3) := by decide +kernel
theorem dX7_step_201 : decode cX7_step 201 = .ok (.putfield 85, 3) := by decide +kernel
theorem dX7_step_204 : decode cX7_step 204 = .ok (.aload_n 0, 1) := by decide +kernel
theorem dX7_step_205 : decode cX7_step 205 = .ok (.dup, 1) := by decide +kernel
theorem dX7_step_206 : decode cX7_step 206 = .ok (.getfield 78, 3) := by decide +kernel
theorem dX7_step_209 : decode cX7_step 209 = .ok (.iconst 1, 1) := by decide +kernel
theorem dX7_step_210 : decode cX7_step 210 = .ok (.iadd, 1) := by decide +kernel
theorem dX7_step_211 : decode cX7_step 211 = .ok (.putfield 78, 3) := by decide +kernel
theorem dX7_step_214 : decode cX7_step 214 = .ok (.goto (-74), 3) := by decide +kernel
theorem dX7_step_217 : decode cX7_step 217 = .ok (.aload_n 0, 1) := by decide +kernel
theorem dX7_step_218 : decode cX7_step 218 = .ok (.iconst 2, 1) := by decide +kernel
theorem dX7_step_219 : decode cX7_step 219 = .ok (.putfield 75, 3) := by decide +kernel
theorem dX7_step_222 : decode cX7_step 222 = .ok (.aload_n 0, 1) := by decide +kernel
theorem dX7_step_223 : decode cX7_step 223 = .ok (.getfield 78, 3) := by decide +kernel
theorem dX7_step_226 : decode cX7_step 226 = .ok (.aload_n 0, 1) := by decide +kernel
theorem dX7_step_227 : decode cX7_step 227 = .ok (.getfield 69, 3) := by decide +kernel
theorem dX7_step_230 : decode cX7_step 230 = .ok (.isub, 1) := by decide +kernel
theorem dX7_step_231 : decode cX7_step 231 = .ok (.iconst 2, 1) := by decide +kernel
theorem dX7_step_232 : decode cX7_step 232 = .ok (.if_icmp .le 37, 3) := by decide +kernel
theorem dX7_step_235 : decode cX7_step 235 = .ok (.aload_n 0, 1) := by decide +kernel
theorem dX7_step_236 : decode cX7_step 236 = .ok (.iconst 1, 1) := by decide +kernel
theorem dX7_step_237 : decode cX7_step 237 = .ok (.invokevirtual 96, 3) := by decide +kernel
theorem dX7_step_240 : decode cX7_step 240 = .ok (.goto 29, 3) := by decide +kernel
theorem dX7_step_243 : decode cX7_step 243 = .ok (.aload_n 0, 1) := by decide +kernel
theorem dX7_step_244 : decode cX7_step 244 = .ok (.iconst 3, 1) := by decide +kernel
theorem dX7_step_245 : decode cX7_step 245 = .ok (.putfield 75, 3) := by decide +kernel
theorem dX7_step_248 : decode cX7_step 248 = .ok (.aload_n 0, 1) := by decide +kernel
theorem dX7_step_249 : decode cX7_step 249 = .ok (.dup, 1) := by decide +kernel
theorem dX7_step_250 : decode cX7_step 250 = .ok (.getfield 78, 3) := by decide +kernel
theorem dX7_step_253 : decode cX7_step 253 = .ok (.iconst 1, 1) := by decide +kernel
theorem dX7_step_254 : decode cX7_step 254 = .ok (.iadd, 1) := by decide +kernel
theorem dX7_step_255 : decode cX7_step 255 = .ok (.putfield 78, 3) := by decide +kernel
theorem dX7_step_258 : decode cX7_step 258 = .ok (.iload_n 1, 1) := by decide +kernel
theorem dX7_step_259 : decode cX7_step 259 = .ok (.bipush 59, 2) := by decide +kernel
theorem dX7_step_261 : decode cX7_step 261 = .ok (.if_icmp .eq 8, 3) := by decide +kernel
theorem dX7_step_264 : decode cX7_step 264 = .ok (.aload_n 0, 1) := by decide +kernel
theorem dX7_step_265 : decode cX7_step 265 = .ok (.iconst 1, 1) := by decide +kernel
theorem dX7_step_266 : decode cX7_step 266 = .ok (.invokevirtual 96, 3) := by decide +kernel
theorem dX7_step_269 : decode cX7_step 269 = .ok (.return_, 1) := by decide +kernel
theorem dX7_other_0 : decode cX7_other 0 = .ok (.aload_n 0, 1) := by decide +kernel
theorem dX7_other_1 : decode cX7_other 1 = .ok (.getfield 66, 3) := by decide +kernel
theorem dX7_other_4 : decode cX7_other 4 = .ok (.ifCond .ne 16, 3) := by decide +kernel
theorem dX7_other_7 : decode cX7_other 7 = .ok (.aload_n 0, 1) := by decide +kernel
theorem dX7_other_8 : decode cX7_other 8 = .ok (.getfield 75, 3) := by decide +kernel
theorem dX7_other_11 : decode cX7_other 11 = .ok (.iconst 2, 1) := by decide +kernel
theorem dX7_other_12 : decode cX7_other 12 = .ok (.if_icmp .eq 8, 3) := by decide +kernel
theorem dX7_other_15 : decode cX7_other 15 = .ok (.aload_n 0, 1) := by decide +kernel
theorem dX7_other_16 : decode cX7_other 16 = .ok (.iconst 2, 1) := by decide +kernel
theorem dX7_other_17 : decode cX7_other 17 = .ok (.invokevirtual 96, 3) := by decide +kernel
theorem dX7_other_20 : decode cX7_other 20 = .ok (.aload_n 0, 1) := by decide +kernel
theorem dX7_other_21 : decode cX7_other 21 = .ok (.getfield 66, 3) := by decide +kernel
theorem dX7_other_24 : decode cX7_other 24 = .ok (.ifCond .ne 23, 3) := by decide +kernel
theorem dX7_other_27 : decode cX7_other 27 = .ok (.aload_n 0, 1) := by decide +kernel
theorem dX7_other_28 : decode cX7_other 28 = .ok (.getfield 85, 3) := by decide +kernel
theorem dX7_other_31 : decode cX7_other 31 = .ok (.i2l, 1) := by decide +kernel
theorem dX7_other_32 : decode cX7_other 32 = .ok (.iload_n 1, 1) := by decide +kernel
theorem dX7_other_33 : decode cX7_other 33 = .ok (.i2l, 1) := by decide +kernel
theorem dX7_other_34 : decode cX7_other 34 = .ok (.iload_n 2, 1) := by decide +kernel
theorem dX7_other_35 : decode cX7_other 35 = .ok (.i2l, 1) := by decide +kernel
theorem dX7_other_36 : decode cX7_other 36 = .ok (.invokestatic 58, 3) := by decide +kernel
theorem dX7_other_39 : decode cX7_other 39 = .ok (.ifCond .ne 8, 3) := by decide +kernel
theorem dX7_other_42 : decode cX7_other 42 = .ok (.aload_n 0, 1) := by decide +kernel
theorem dX7_other_43 : decode cX7_other 43 = .ok (.iconst 3, 1) := by decide +kernel
theorem dX7_other_44 : decode cX7_other 44 = .ok (.invokevirtual 96, 3) := by decide +kernel
theorem dX7_other_47 : decode cX7_other 47 = .ok (.aload_n 0, 1) := by decide +kernel
theorem dX7_other_48 : decode cX7_other 48 = .ok (.getfield 66, 3) := by decide +kernel
theorem dX7_other_51 : decode cX7_other 51 = .ok (.ifCond .ne 20, 3) := by decide +kernel
theorem dX7_other_54 : decode cX7_other 54 = .ok (.iload_n 3, 1) := by decide +kernel
theorem dX7_other_55 : decode cX7_other 55 = .ok (.aload_n 0, 1) := by decide +kernel
theorem dX7_other_56 : decode cX7_other 56 = .ok (.getfield 85, 3) := by decide +kernel
theorem dX7_other_59 : decode cX7_other 59 = .ok (.ishr, 1) := by decide +kernel
theorem dX7_other_60 : decode cX7_other 60 = .ok (.iconst 1, 1) := by decide +kernel
theorem dX7_other_61 : decode cX7_other 61 = .ok (.iand, 1) := by decide +kernel
theorem dX7_other_62 : decode cX7_other 62 = .ok (.iconst 1, 1) := by decide +kernel
theorem dX7_other_63 : decode cX7_other 63 = .ok (.if_icmp .ne 8, 3) := by decide +kernel
theorem dX7_other_66 : decode cX7_other 66 = .ok (.aload_n 0, 1) := by decide +kernel
theorem dX7_other_67 : decode cX7_other 67 = .ok (.iconst 4, 1) := by decide +kernel
theorem dX7_other_68 : decode cX7_other 68 = .ok (.invokevirtual 96, 3) := by decide +kernel
theorem dX7_other_71 : decode cX7_other 71 = .ok (.aload_n 0, 1) := by decide +kernel
theorem dX7_other_72 : decode cX7_other 72 = .ok (.getfield 66, 3) := by decide +kernel
theorem dX7_other_75 : decode cX7_other 75 = .ok (.ifCond .ne 10, 3) := by decide +kernel
theorem dX7_other_78 : decode cX7_other 78 = .ok (.aload_n 0, 1) := by decide +kernel
theorem dX7_other_79 : decode cX7_other 79 = .ok (.getfield 85, 3) := by decide +kernel
theorem dX7_other_82 : decode cX7_other 82 = .ok (.goto 4, 3) := by decide +kernel
theorem dX7_other_85 : decode cX7_other 85 = .ok (.iload_n 1, 1) := by decide +kernel
theorem dX7_other_86 : decode cX7_other 86 = .ok (.istore 4, 2) := by decide +kernel
theorem dX7_other_88 : decode cX7_other 88 = .ok (.aload_n 0, 1) := by decide +kernel
theorem dX7_other_89 : decode cX7_other 89 = .ok (.invokevirtual 100, 3) := by decide +kernel
theorem dX7_other_92 : decode cX7_other 92 = .ok (.iload 4, 2) := by decide +kernel
theorem dX7_other_94 : decode cX7_other 94 = .ok (.ireturn, 1) := by decide +kernel
theorem dX7_handHere_0 : decode cX7_handHere 0 = .ok (.aload_n 0, 1) := by decide +kernel
theorem dX7_handHere_1 : decode cX7_handHere 1 = .ok (.iload_n 1, 1) := by decide +kernel
theorem dX7_handHere_2 : decode cX7_handHere 2 = .ok (.iload_n 2, 1) := by decide +kernel
theorem dX7_handHere_3 : decode cX7_handHere 3 = .ok (.iload_n 3, 1) := by decide +kernel
theorem dX7_handHere_4 : decode cX7_handHere 4 = .ok (.invokevirtual 103, 3) := by decide +kernel
theorem dX7_handHere_7 : decode cX7_handHere 7 = .ok (.istore 4, 2) := by decide +kernel
theorem dX7_handHere_9 : decode cX7_handHere 9 = .ok (.aload_n 0, 1) := by decide +kernel
theorem dX7_handHere_10 : decode cX7_handHere 10 = .ok (.dup, 1) := by decide +kernel
theorem dX7_handHere_11 : decode cX7_handHere 11 = .ok (.getfield 107, 3) := by decide +kernel
theorem dX7_handHere_14 : decode cX7_handHere 14 = .ok (.iconst 1, 1) := by decide +kernel
theorem dX7_handHere_15 : decode cX7_handHere 15 = .ok (.iload 4, 2) := by decide +kernel
theorem dX7_handHere_17 : decode cX7_handHere 17 = .ok (.ishl, 1) := by decide +kernel
theorem dX7_handHere_18 : decode cX7_handHere 18 = .ok (.ior, 1) := by decide +kernel
theorem dX7_handHere_19 : decode cX7_handHere 19 = .ok (.putfield 107, 3) := by decide +kernel
theorem dX7_handHere_22 : decode cX7_handHere 22 = .ok (.iload 4, 2) := by decide +kernel
theorem dX7_handHere_24 : decode cX7_handHere 24 = .ok (.ireturn, 1) := by decide +kernel
theorem dX7_readHand_0 : decode cX7_readHand 0 = .ok (.aload_n 0, 1) := by decide +kernel
theorem dX7_readHand_1 : decode cX7_readHand 1 = .ok (.invokevirtual 110, 3) := by decide +kernel
theorem dX7_readHand_4 : decode cX7_readHand 4 = .ok (.bipush 8, 2) := by decide +kernel
theorem dX7_readHand_6 : decode cX7_readHand 6 = .ok (.isub, 1) := by decide +kernel
theorem dX7_readHand_7 : decode cX7_readHand 7 = .ok (.istore_n 2, 1) := by decide +kernel
theorem dX7_readHand_8 : decode cX7_readHand 8 = .ok (.aload_n 0, 1) := by decide +kernel
theorem dX7_readHand_9 : decode cX7_readHand 9 = .ok (.getfield 66, 3) := by decide +kernel
theorem dX7_readHand_12 : decode cX7_readHand 12 = .ok (.ifCond .ne 18, 3) := by decide +kernel
theorem dX7_readHand_15 : decode cX7_readHand 15 = .ok (.iload_n 2, 1) := by decide +kernel
theorem dX7_readHand_16 : decode cX7_readHand 16 = .ok (.i2l, 1) := by decide +kernel
theorem dX7_readHand_17 : decode cX7_readHand 17 = .ok (.lconst 0, 1) := by decide +kernel
theorem dX7_readHand_18 : decode cX7_readHand 18 = .ok (.lconst 1, 1) := by decide +kernel
theorem dX7_readHand_19 : decode cX7_readHand 19 = .ok (.invokestatic 58, 3) := by decide +kernel
theorem dX7_readHand_22 : decode cX7_readHand 22 = .ok (.ifCond .ne 8, 3) := by decide +kernel
theorem dX7_readHand_25 : decode cX7_readHand 25 = .ok (.aload_n 0, 1) := by decide +kernel
theorem dX7_readHand_26 : decode cX7_readHand 26 = .ok (.iconst 2, 1) := by decide +kernel
theorem dX7_readHand_27 : decode cX7_readHand 27 = .ok (.invokevirtual 96, 3) := by decide +kernel
theorem dX7_readHand_30 : decode cX7_readHand 30 = .ok (.aload_n 0, 1) := by decide +kernel
theorem dX7_readHand_31 : decode cX7_readHand 31 = .ok (.getfield 66, 3) := by decide +kernel
theorem dX7_readHand_34 : decode cX7_readHand 34 = .ok (.ifCond .ne 27, 3) := by decide +kernel
theorem dX7_readHand_37 : decode cX7_readHand 37 = .ok (.iload_n 2, 1) := by decide +kernel
theorem dX7_readHand_38 : decode cX7_readHand 38 = .ok (.ifCond .ne 10, 3) := by decide +kernel
theorem dX7_readHand_41 : decode cX7_readHand 41 = .ok (.aload_n 0, 1) := by decide +kernel
theorem dX7_readHand_42 : decode cX7_readHand 42 = .ok (.getfield 114, 3) := by decide +kernel
theorem dX7_readHand_45 : decode cX7_readHand 45 = .ok (.goto 7, 3) := by decide +kernel
theorem dX7_readHand_48 : decode cX7_readHand 48 = .ok (.aload_n 0, 1) := by decide +kernel
theorem dX7_readHand_49 : decode cX7_readHand 49 = .ok (.getfield 117, 3) := by decide +kernel
theorem dX7_readHand_52 : decode cX7_readHand 52 = .ok (.iconst 4, 1) := by decide +kernel
theorem dX7_readHand_53 : decode cX7_readHand 53 = .ok (.if_icmp .ne 8, 3) := by decide +kernel
theorem dX7_readHand_56 : decode cX7_readHand 56 = .ok (.aload_n 0, 1) := by decide +kernel
theorem dX7_readHand_57 : decode cX7_readHand 57 = .ok (.iconst 5, 1) := by decide +kernel
theorem dX7_readHand_58 : decode cX7_readHand 58 = .ok (.invokevirtual 96, 3) := by decide +kernel
theorem dX7_readHand_61 : decode cX7_readHand 61 = .ok (.aload_n 0, 1) := by decide +kernel
theorem dX7_readHand_62 : decode cX7_readHand 62 = .ok (.getfield 66, 3) := by decide +kernel
theorem dX7_readHand_65 : decode cX7_readHand 65 = .ok (.ifCond .le 4, 3) := by decide +kernel
theorem dX7_readHand_68 : decode cX7_readHand 68 = .ok (.return_, 1) := by decide +kernel
theorem dX7_readHand_69 : decode cX7_readHand 69 = .ok (.aload_n 0, 1) := by decide +kernel
theorem dX7_readHand_70 : decode cX7_readHand 70 = .ok (.invokevirtual 100, 3) := by decide +kernel
theorem dX7_readHand_73 : decode cX7_readHand 73 = .ok (.iload_n 2, 1) := by decide +kernel
theorem dX7_readHand_74 : decode cX7_readHand 74 = .ok (.ifCond .ne 10, 3) := by decide +kernel
theorem dX7_readHand_77 : decode cX7_readHand 77 = .ok (.aload_n 0, 1) := by decide +kernel
theorem dX7_readHand_78 : decode cX7_readHand 78 = .ok (.getfield 114, 3) := by decide +kernel
theorem dX7_readHand_81 : decode cX7_readHand 81 = .ok (.goto 9, 3) := by decide +kernel
theorem dX7_readHand_84 : decode cX7_readHand 84 = .ok (.iconst 4, 1) := by decide +kernel
theorem dX7_readHand_85 : decode cX7_readHand 85 = .ok (.aload_n 0, 1) := by decide +kernel
theorem dX7_readHand_86 : decode cX7_readHand 86 = .ok (.getfield 117, 3) := by decide +kernel
theorem dX7_readHand_89 : decode cX7_readHand 89 = .ok (.iadd, 1) := by decide +kernel
theorem dX7_readHand_90 : decode cX7_readHand 90 = .ok (.istore_n 3, 1) := by decide +kernel
theorem dX7_readHand_91 : decode cX7_readHand 91 = .ok (.aload_n 0, 1) := by decide +kernel
theorem dX7_readHand_92 : decode cX7_readHand 92 = .ok (.getfield 13, 3) := by decide +kernel
theorem dX7_readHand_95 : decode cX7_readHand 95 = .ok (.iload_n 3, 1) := by decide +kernel
theorem dX7_readHand_96 : decode cX7_readHand 96 = .ok (.iload_n 1, 1) := by decide +kernel
theorem dX7_readHand_97 : decode cX7_readHand 97 = .ok (.iastore, 1) := by decide +kernel
theorem dX7_readHand_98 : decode cX7_readHand 98 = .ok (.aload_n 0, 1) := by decide +kernel
theorem dX7_readHand_99 : decode cX7_readHand 99 = .ok (.getfield 13, 3) := by decide +kernel
theorem dX7_readHand_102 : decode cX7_readHand 102 = .ok (.bipush 8, 2) := by decide +kernel
theorem dX7_readHand_104 : decode cX7_readHand 104 = .ok (.iload_n 3, 1) := by decide +kernel
theorem dX7_readHand_105 : decode cX7_readHand 105 = .ok (.iadd, 1) := by decide +kernel
theorem dX7_readHand_106 : decode cX7_readHand 106 = .ok (.aload_n 0, 1) := by decide +kernel
theorem dX7_readHand_107 : decode cX7_readHand 107 = .ok (.iconst 0, 1) := by decide +kernel
theorem dX7_readHand_108 : decode cX7_readHand 108 = .ok (.bipush 9, 2) := by decide +kernel
theorem dX7_readHand_110 : decode cX7_readHand 110 = .ok (.iconst 0, 1) := by decide +kernel
theorem dX7_readHand_111 : decode cX7_readHand 111 = .ok (.invokevirtual 103, 3) := by decide +kernel
theorem dX7_readHand_114 : decode cX7_readHand 114 = .ok (.iastore, 1) := by decide +kernel
theorem dX7_readHand_115 : decode cX7_readHand 115 = .ok (.aload_n 0, 1) := by decide +kernel
theorem dX7_readHand_116 : decode cX7_readHand 116 = .ok (.getfield 13, 3) := by decide +kernel
theorem dX7_readHand_119 : decode cX7_readHand 119 = .ok (.bipush 16, 2) := by decide +kernel
theorem dX7_readHand_121 : decode cX7_readHand 121 = .ok (.iload_n 3, 1) := by decide +kernel
theorem dX7_readHand_122 : decode cX7_readHand 122 = .ok (.iadd, 1) := by decide +kernel
theorem dX7_readHand_123 : decode cX7_readHand 123 = .ok (.aload_n 0, 1) := by decide +kernel
theorem dX7_readHand_124 : decode cX7_readHand 124 = .ok (.iconst 0, 1) := by decide +kernel
theorem dX7_readHand_125 : decode cX7_readHand 125 = .ok (.bipush 9, 2) := by decide +kernel
theorem dX7_readHand_127 : decode cX7_readHand 127 = .ok (.iconst 0, 1) := by decide +kernel
theorem dX7_readHand_128 : decode cX7_readHand 128 = .ok (.invokevirtual 103, 3) := by decide +kernel
theorem dX7_readHand_131 : decode cX7_readHand 131 = .ok (.iastore, 1) := by decide +kernel
theorem dX7_readHand_132 : decode cX7_readHand 132 = .ok (.aload_n 0, 1) := by decide +kernel
theorem dX7_readHand_133 : decode cX7_readHand 133 = .ok (.getfield 13, 3) := by decide +kernel
theorem dX7_readHand_136 : decode cX7_readHand 136 = .ok (.bipush 24, 2) := by decide +kernel
theorem dX7_readHand_138 : decode cX7_readHand 138 = .ok (.iload_n 3, 1) := by decide +kernel
theorem dX7_readHand_139 : decode cX7_readHand 139 = .ok (.iadd, 1) := by decide +kernel
theorem dX7_readHand_140 : decode cX7_readHand 140 = .ok (.aload_n 0, 1) := by decide +kernel
theorem dX7_readHand_141 : decode cX7_readHand 141 = .ok (.iconst 0, 1) := by decide +kernel
theorem dX7_readHand_142 : decode cX7_readHand 142 = .ok (.iconst 2, 1) := by decide +kernel
theorem dX7_readHand_143 : decode cX7_readHand 143 = .ok (.iconst 0, 1) := by decide +kernel
theorem dX7_readHand_144 : decode cX7_readHand 144 = .ok (.invokevirtual 103, 3) := by decide +kernel
theorem dX7_readHand_147 : decode cX7_readHand 147 = .ok (.iastore, 1) := by decide +kernel
theorem dX7_readHand_148 : decode cX7_readHand 148 = .ok (.aload_n 0, 1) := by decide +kernel
theorem dX7_readHand_149 : decode cX7_readHand 149 = .ok (.dup, 1) := by decide +kernel
theorem dX7_readHand_150 : decode cX7_readHand 150 = .ok (.getfield 114, 3) := by decide +kernel
theorem dX7_readHand_153 : decode cX7_readHand 153 = .ok (.iload_n 2, 1) := by decide +kernel
theorem dX7_readHand_154 : decode cX7_readHand 154 = .ok (.ifCond .ne 7, 3) := by decide +kernel
theorem dX7_readHand_157 : decode cX7_readHand 157 = .ok (.iconst 1, 1) := by decide +kernel
theorem dX7_readHand_158 : decode cX7_readHand 158 = .ok (.goto 4, 3) := by decide +kernel
theorem dX7_readHand_161 : decode cX7_readHand 161 = .ok (.iconst 0, 1) := by decide +kernel
theorem dX7_readHand_162 : decode cX7_readHand 162 = .ok (.iadd, 1) := by decide +kernel
theorem dX7_readHand_163 : decode cX7_readHand 163 = .ok (.putfield 114, 3) := by decide +kernel
theorem dX7_readHand_166 : decode cX7_readHand 166 = .ok (.aload_n 0, 1) := by decide +kernel
theorem dX7_readHand_167 : decode cX7_readHand 167 = .ok (.dup, 1) := by decide +kernel
theorem dX7_readHand_168 : decode cX7_readHand 168 = .ok (.getfield 117, 3) := by decide +kernel
theorem dX7_readHand_171 : decode cX7_readHand 171 = .ok (.iload_n 2, 1) := by decide +kernel
theorem dX7_readHand_172 : decode cX7_readHand 172 = .ok (.iadd, 1) := by decide +kernel
theorem dX7_readHand_173 : decode cX7_readHand 173 = .ok (.putfield 117, 3) := by decide +kernel
theorem dX7_readHand_176 : decode cX7_readHand 176 = .ok (.return_, 1) := by decide +kernel
theorem dX7_readMore_0 : decode cX7_readMore 0 = .ok (.iload_n 1, 1) := by decide +kernel
theorem dX7_readMore_1 : decode cX7_readMore 1 = .ok (.iconst 3, 1) := by decide +kernel
theorem dX7_readMore_2 : decode cX7_readMore 2 = .ok (.if_icmp .gt 11, 3) := by decide +kernel
theorem dX7_readMore_5 : decode cX7_readMore 5 = .ok (.aload_n 0, 1) := by decide +kernel
theorem dX7_readMore_6 : decode cX7_readMore 6 = .ok (.iload_n 1, 1) := by decide +kernel
theorem dX7_readMore_7 : decode cX7_readMore 7 = .ok (.invokevirtual 120, 3) := by decide +kernel
theorem dX7_readMore_10 : decode cX7_readMore 10 = .ok (.goto 184, 3) := by decide +kernel
theorem dX7_readMore_13 : decode cX7_readMore 13 = .ok (.iload_n 1, 1) := by decide +kernel
theorem dX7_readMore_14 : decode cX7_readMore 14 = .ok (.iconst 4, 1) := by decide +kernel
theorem dX7_readMore_15 : decode cX7_readMore 15 = .ok (.if_icmp .ne 49, 3) := by decide +kernel
theorem dX7_readMore_18 : decode cX7_readMore 18 = .ok (.aload_n 0, 1) := by decide +kernel
theorem dX7_readMore_19 : decode cX7_readMore 19 = .ok (.iconst 0, 1) := by decide +kernel
theorem dX7_readMore_20 : decode cX7_readMore 20 = .ok (.bipush 7, 2) := by decide +kernel
theorem dX7_readMore_22 : decode cX7_readMore 22 = .ok (.aload_n 0, 1) := by decide +kernel
theorem dX7_readMore_23 : decode cX7_readMore 23 = .ok (.getfield 123, 3) := by decide +kernel
theorem dX7_readMore_26 : decode cX7_readMore 26 = .ok (.invokevirtual 126, 3) := by decide +kernel
theorem dX7_readMore_29 : decode cX7_readMore 29 = .ok (.istore_n 2, 1) := by decide +kernel
theorem dX7_readMore_30 : decode cX7_readMore 30 = .ok (.aload_n 0, 1) := by decide +kernel
theorem dX7_readMore_31 : decode cX7_readMore 31 = .ok (.dup, 1) := by decide +kernel
theorem dX7_readMore_32 : decode cX7_readMore 32 = .ok (.getfield 123, 3) := by decide +kernel
theorem dX7_readMore_35 : decode cX7_readMore 35 = .ok (.iconst 1, 1) := by decide +kernel
theorem dX7_readMore_36 : decode cX7_readMore 36 = .ok (.iload_n 2, 1) := by decide +kernel
theorem dX7_readMore_37 : decode cX7_readMore 37 = .ok (.ishl, 1) := by decide +kernel
theorem dX7_readMore_38 : decode cX7_readMore 38 = .ok (.ior, 1) := by decide +kernel
theorem dX7_readMore_39 : decode cX7_readMore 39 = .ok (.putfield 123, 3) := by decide +kernel
theorem dX7_readMore_42 : decode cX7_readMore 42 = .ok (.aload_n 0, 1) := by decide +kernel
theorem dX7_readMore_43 : decode cX7_readMore 43 = .ok (.getfield 13, 3) := by decide +kernel
theorem dX7_readMore_46 : decode cX7_readMore 46 = .ok (.bipush 32, 2) := by decide +kernel
theorem dX7_readMore_48 : decode cX7_readMore 48 = .ok (.iload_n 2, 1) := by decide +kernel
theorem dX7_readMore_49 : decode cX7_readMore 49 = .ok (.iadd, 1) := by decide +kernel
theorem dX7_readMore_50 : decode cX7_readMore 50 = .ok (.aload_n 0, 1) := by decide +kernel
theorem dX7_readMore_51 : decode cX7_readMore 51 = .ok (.iconst 0, 1) := by decide +kernel
theorem dX7_readMore_52 : decode cX7_readMore 52 = .ok (.bipush 7, 2) := by decide +kernel
theorem dX7_readMore_54 : decode cX7_readMore 54 = .ok (.iconst 0, 1) := by decide +kernel
theorem dX7_readMore_55 : decode cX7_readMore 55 = .ok (.invokevirtual 126, 3) := by decide +kernel
theorem dX7_readMore_58 : decode cX7_readMore 58 = .ok (.iload_n 2, 1) := by decide +kernel
theorem dX7_readMore_59 : decode cX7_readMore 59 = .ok (.isub, 1) := by decide +kernel
theorem dX7_readMore_60 : decode cX7_readMore 60 = .ok (.iastore, 1) := by decide +kernel
theorem dX7_readMore_61 : decode cX7_readMore 61 = .ok (.goto 133, 3) := by decide +kernel
theorem dX7_readMore_64 : decode cX7_readMore 64 = .ok (.iload_n 1, 1) := by decide +kernel
theorem dX7_readMore_65 : decode cX7_readMore 65 = .ok (.iconst 5, 1) := by decide +kernel
theorem dX7_readMore_66 : decode cX7_readMore 66 = .ok (.if_icmp .ne 32, 3) := by decide +kernel
theorem dX7_readMore_69 : decode cX7_readMore 69 = .ok (.aload_n 0, 1) := by decide +kernel
theorem dX7_readMore_70 : decode cX7_readMore 70 = .ok (.getfield 13, 3) := by decide +kernel
theorem dX7_readMore_73 : decode cX7_readMore 73 = .ok (.bipush 44, 2) := by decide +kernel
theorem dX7_readMore_75 : decode cX7_readMore 75 = .ok (.dup2, 1) := by decide +kernel
theorem dX7_readMore_76 : decode cX7_readMore 76 = .ok (.iaload, 1) := by decide +kernel
theorem dX7_readMore_77 : decode cX7_readMore 77 = .ok (.iconst 1, 1) := by decide +kernel
theorem dX7_readMore_78 : decode cX7_readMore 78 = .ok (.aload_n 0, 1) := by decide +kernel
theorem dX7_readMore_79 : decode cX7_readMore 79 = .ok (.iconst 0, 1) := by decide +kernel
theorem dX7_readMore_80 : decode cX7_readMore 80 = .ok (.bipush 7, 2) := by decide +kernel
theorem dX7_readMore_82 : decode cX7_readMore 82 = .ok (.aload_n 0, 1) := by decide +kernel
theorem dX7_readMore_83 : decode cX7_readMore 83 = .ok (.getfield 13, 3) := by decide +kernel
theorem dX7_readMore_86 : decode cX7_readMore 86 = .ok (.bipush 44, 2) := by decide +kernel
theorem dX7_readMore_88 : decode cX7_readMore 88 = .ok (.iaload, 1) := by decide +kernel
theorem dX7_readMore_89 : decode cX7_readMore 89 = .ok (.invokevirtual 126, 3) := by decide +kernel
theorem dX7_readMore_92 : decode cX7_readMore 92 = .ok (.ishl, 1) := by decide +kernel
theorem dX7_readMore_93 : decode cX7_readMore 93 = .ok (.ior, 1) := by decide +kernel
theorem dX7_readMore_94 : decode cX7_readMore 94 = .ok (.iastore, 1) := by decide +kernel
theorem dX7_readMore_95 : decode cX7_readMore 95 = .ok (.goto 99, 3) := by decide +kernel
theorem dX7_readMore_98 : decode cX7_readMore 98 = .ok (.iload_n 1, 1) := by decide +kernel
theorem dX7_readMore_99 : decode cX7_readMore 99 = .ok (.bipush 6, 2) := by decide +kernel
theorem dX7_readMore_101 : decode cX7_readMore 101 = .ok (.if_icmp .ne 44, 3) := by decide +kernel
theorem dX7_readMore_104 : decode cX7_readMore 104 = .ok (.aload_n 0, 1) := by decide +kernel
theorem dX7_readMore_105 : decode cX7_readMore 105 = .ok (.iconst 0, 1) := by decide +kernel
theorem dX7_readMore_106 : decode cX7_readMore 106 = .ok (.iconst 3, 1) := by decide +kernel
theorem dX7_readMore_107 : decode cX7_readMore 107 = .ok (.iconst 0, 1) := by decide +kernel
theorem dX7_readMore_108 : decode cX7_readMore 108 = .ok (.invokevirtual 126, 3) := by decide +kernel
theorem dX7_readMore_111 : decode cX7_readMore 111 = .ok (.istore_n 2, 1) := by decide +kernel
theorem dX7_readMore_112 : decode cX7_readMore 112 = .ok (.aload_n 0, 1) := by decide +kernel
theorem dX7_readMore_113 : decode cX7_readMore 113 = .ok (.getfield 13, 3) := by decide +kernel
theorem dX7_readMore_116 : decode cX7_readMore 116 = .ok (.bipush 40, 2) := by decide +kernel
theorem dX7_readMore_118 : decode cX7_readMore 118 = .ok (.iload_n 2, 1) := by decide +kernel
theorem dX7_readMore_119 : decode cX7_readMore 119 = .ok (.iadd, 1) := by decide +kernel
theorem dX7_readMore_120 : decode cX7_readMore 120 = .ok (.dup2, 1) := by decide +kernel
theorem dX7_readMore_121 : decode cX7_readMore 121 = .ok (.iaload, 1) := by decide +kernel
theorem dX7_readMore_122 : decode cX7_readMore 122 = .ok (.iconst 1, 1) := by decide +kernel
theorem dX7_readMore_123 : decode cX7_readMore 123 = .ok (.aload_n 0, 1) := by decide +kernel
theorem dX7_readMore_124 : decode cX7_readMore 124 = .ok (.iconst 4, 1) := by decide +kernel
theorem dX7_readMore_125 : decode cX7_readMore 125 = .ok (.bipush 7, 2) := by decide +kernel
theorem dX7_readMore_127 : decode cX7_readMore 127 = .ok (.aload_n 0, 1) := by decide +kernel
theorem dX7_readMore_128 : decode cX7_readMore 128 = .ok (.getfield 13, 3) := by decide +kernel
theorem dX7_readMore_131 : decode cX7_readMore 131 = .ok (.bipush 40, 2) := by decide +kernel
theorem dX7_readMore_133 : decode cX7_readMore 133 = .ok (.iload_n 2, 1) := by decide +kernel
theorem dX7_readMore_134 : decode cX7_readMore 134 = .ok (.iadd, 1) := by decide +kernel
theorem dX7_readMore_135 : decode cX7_readMore 135 = .ok (.iaload, 1) := by decide +kernel
theorem dX7_readMore_136 : decode cX7_readMore 136 = .ok (.invokevirtual 126, 3) := by decide +kernel
theorem dX7_readMore_139 : decode cX7_readMore 139 = .ok (.ishl, 1) := by decide +kernel
theorem dX7_readMore_140 : decode cX7_readMore 140 = .ok (.ior, 1) := by decide +kernel
theorem dX7_readMore_141 : decode cX7_readMore 141 = .ok (.iastore, 1) := by decide +kernel
theorem dX7_readMore_142 : decode cX7_readMore 142 = .ok (.goto 52, 3) := by decide +kernel
theorem dX7_readMore_145 : decode cX7_readMore 145 = .ok (.aload_n 0, 1) := by decide +kernel
theorem dX7_readMore_146 : decode cX7_readMore 146 = .ok (.iconst 0, 1) := by decide +kernel
theorem dX7_readMore_147 : decode cX7_readMore 147 = .ok (.iconst 3, 1) := by decide +kernel
theorem dX7_readMore_148 : decode cX7_readMore 148 = .ok (.aload_n 0, 1) := by decide +kernel
theorem dX7_readMore_149 : decode cX7_readMore 149 = .ok (.getfield 129, 3) := by decide +kernel
theorem dX7_readMore_152 : decode cX7_readMore 152 = .ok (.invokevirtual 126, 3) := by decide +kernel
theorem dX7_readMore_155 : decode cX7_readMore 155 = .ok (.istore_n 2, 1) := by decide +kernel
theorem dX7_readMore_156 : decode cX7_readMore 156 = .ok (.aload_n 0, 1) := by decide +kernel
theorem dX7_readMore_157 : decode cX7_readMore 157 = .ok (.iconst 4, 1) := by decide +kernel
theorem dX7_readMore_158 : decode cX7_readMore 158 = .ok (.bipush 7, 2) := by decide +kernel
theorem dX7_readMore_160 : decode cX7_readMore 160 = .ok (.aload_n 0, 1) := by decide +kernel
theorem dX7_readMore_161 : decode cX7_readMore 161 = .ok (.getfield 129, 3) := by decide +kernel
theorem dX7_readMore_164 : decode cX7_readMore 164 = .ok (.invokevirtual 126, 3) := by decide +kernel
theorem dX7_readMore_167 : decode cX7_readMore 167 = .ok (.istore_n 3, 1) := by decide +kernel
theorem dX7_readMore_168 : decode cX7_readMore 168 = .ok (.aload_n 0, 1) := by decide +kernel
theorem dX7_readMore_169 : decode cX7_readMore 169 = .ok (.dup, 1) := by decide +kernel
theorem dX7_readMore_170 : decode cX7_readMore 170 = .ok (.getfield 129, 3) := by decide +kernel
theorem dX7_readMore_173 : decode cX7_readMore 173 = .ok (.iconst 1, 1) := by decide +kernel
theorem dX7_readMore_174 : decode cX7_readMore 174 = .ok (.iload_n 2, 1) := by decide +kernel
theorem dX7_readMore_175 : decode cX7_readMore 175 = .ok (.ishl, 1) := by decide +kernel
theorem dX7_readMore_176 : decode cX7_readMore 176 = .ok (.iconst 1, 1) := by decide +kernel
theorem dX7_readMore_177 : decode cX7_readMore 177 = .ok (.iload_n 3, 1) := by decide +kernel
theorem dX7_readMore_178 : decode cX7_readMore 178 = .ok (.ishl, 1) := by decide +kernel
theorem dX7_readMore_179 : decode cX7_readMore 179 = .ok (.ior, 1) := by decide +kernel
theorem dX7_readMore_180 : decode cX7_readMore 180 = .ok (.ior, 1) := by decide +kernel
theorem dX7_readMore_181 : decode cX7_readMore 181 = .ok (.putfield 129, 3) := by decide +kernel
theorem dX7_readMore_184 : decode cX7_readMore 184 = .ok (.aload_n 0, 1) := by decide +kernel
theorem dX7_readMore_185 : decode cX7_readMore 185 = .ok (.getfield 13, 3) := by decide +kernel
theorem dX7_readMore_188 : decode cX7_readMore 188 = .ok (.bipush 45, 2) := by decide +kernel
theorem dX7_readMore_190 : decode cX7_readMore 190 = .ok (.iload_n 2, 1) := by decide +kernel
theorem dX7_readMore_191 : decode cX7_readMore 191 = .ok (.iadd, 1) := by decide +kernel
theorem dX7_readMore_192 : decode cX7_readMore 192 = .ok (.iload_n 3, 1) := by decide +kernel
theorem dX7_readMore_193 : decode cX7_readMore 193 = .ok (.iastore, 1) := by decide +kernel
theorem dX7_readMore_194 : decode cX7_readMore 194 = .ok (.return_, 1) := by decide +kernel
theorem dX7_readLine_0 : decode cX7_readLine 0 = .ok (.aload_n 0, 1) := by decide +kernel
theorem dX7_readLine_1 : decode cX7_readLine 1 = .ok (.invokevirtual 110, 3) := by decide +kernel
theorem dX7_readLine_4 : decode cX7_readLine 4 = .ok (.istore_n 1, 1) := by decide +kernel
theorem dX7_readLine_5 : decode cX7_readLine 5 = .ok (.iload_n 1, 1) := by decide +kernel
theorem dX7_readLine_6 : decode cX7_readLine 6 = .ok (.i2l, 1) := by decide +kernel
theorem dX7_readLine_7 : decode cX7_readLine 7 = .ok (.lconst 0, 1) := by decide +kernel
theorem dX7_readLine_8 : decode cX7_readLine 8 = .ok (.ldc2_w 132, 3) := by decide +kernel
theorem dX7_readLine_11 : decode cX7_readLine 11 = .ok (.invokestatic 58, 3) := by decide +kernel
theorem dX7_readLine_14 : decode cX7_readLine 14 = .ok (.ifCond .ne 9, 3) := by decide +kernel
theorem dX7_readLine_17 : decode cX7_readLine 17 = .ok (.aload_n 0, 1) := by decide +kernel
theorem dX7_readLine_18 : decode cX7_readLine 18 = .ok (.iconst 2, 1) := by decide +kernel
theorem dX7_readLine_19 : decode cX7_readLine 19 = .ok (.invokevirtual 96, 3) := by decide +kernel
theorem dX7_readLine_22 : decode cX7_readLine 22 = .ok (.return_, 1) := by decide +kernel
theorem dX7_readLine_23 : decode cX7_readLine 23 = .ok (.aload_n 0, 1) := by decide +kernel
theorem dX7_readLine_24 : decode cX7_readLine 24 = .ok (.invokevirtual 100, 3) := by decide +kernel
theorem dX7_readLine_27 : decode cX7_readLine 27 = .ok (.aload_n 0, 1) := by decide +kernel
theorem dX7_readLine_28 : decode cX7_readLine 28 = .ok (.getfield 66, 3) := by decide +kernel
theorem dX7_readLine_31 : decode cX7_readLine 31 = .ok (.ifCond .le 4, 3) := by decide +kernel
theorem dX7_readLine_34 : decode cX7_readLine 34 = .ok (.return_, 1) := by decide +kernel
theorem dX7_readLine_35 : decode cX7_readLine 35 = .ok (.aload_n 0, 1) := by decide +kernel
theorem dX7_readLine_36 : decode cX7_readLine 36 = .ok (.iload_n 1, 1) := by decide +kernel
theorem dX7_readLine_37 : decode cX7_readLine 37 = .ok (.invokevirtual 134, 3) := by decide +kernel
theorem dX7_readLine_40 : decode cX7_readLine 40 = .ok (.aload_n 0, 1) := by decide +kernel
theorem dX7_readLine_41 : decode cX7_readLine 41 = .ok (.getfield 66, 3) := by decide +kernel
theorem dX7_readLine_44 : decode cX7_readLine 44 = .ok (.ifCond .ne 16, 3) := by decide +kernel
theorem dX7_readLine_47 : decode cX7_readLine 47 = .ok (.aload_n 0, 1) := by decide +kernel
theorem dX7_readLine_48 : decode cX7_readLine 48 = .ok (.getfield 75, 3) := by decide +kernel
theorem dX7_readLine_51 : decode cX7_readLine 51 = .ok (.iconst 3, 1) := by decide +kernel
theorem dX7_readLine_52 : decode cX7_readLine 52 = .ok (.if_icmp .eq 8, 3) := by decide +kernel
theorem dX7_readLine_55 : decode cX7_readLine 55 = .ok (.aload_n 0, 1) := by decide +kernel
theorem dX7_readLine_56 : decode cX7_readLine 56 = .ok (.iconst 2, 1) := by decide +kernel
theorem dX7_readLine_57 : decode cX7_readLine 57 = .ok (.invokevirtual 96, 3) := by decide +kernel
theorem dX7_readLine_60 : decode cX7_readLine 60 = .ok (.aload_n 0, 1) := by decide +kernel
theorem dX7_readLine_61 : decode cX7_readLine 61 = .ok (.invokevirtual 100, 3) := by decide +kernel
theorem dX7_readLine_64 : decode cX7_readLine 64 = .ok (.return_, 1) := by decide +kernel
theorem dX7_handsOf_0 : decode cX7_handsOf 0 = .ok (.iconst 1, 1) := by decide +kernel
theorem dX7_handsOf_1 : decode cX7_handsOf 1 = .ok (.iload_n 0, 1) := by decide +kernel
theorem dX7_handsOf_2 : decode cX7_handsOf 2 = .ok (.ishl, 1) := by decide +kernel
theorem dX7_handsOf_3 : decode cX7_handsOf 3 = .ok (.iconst 1, 1) := by decide +kernel
theorem dX7_handsOf_4 : decode cX7_handsOf 4 = .ok (.isub, 1) := by decide +kernel
theorem dX7_handsOf_5 : decode cX7_handsOf 5 = .ok (.iconst 1, 1) := by decide +kernel
theorem dX7_handsOf_6 : decode cX7_handsOf 6 = .ok (.iload_n 1, 1) := by decide +kernel
theorem dX7_handsOf_7 : decode cX7_handsOf 7 = .ok (.ishl, 1) := by decide +kernel
theorem dX7_handsOf_8 : decode cX7_handsOf 8 = .ok (.iconst 1, 1) := by decide +kernel
theorem dX7_handsOf_9 : decode cX7_handsOf 9 = .ok (.isub, 1) := by decide +kernel
theorem dX7_handsOf_10 : decode cX7_handsOf 10 = .ok (.iconst 4, 1) := by decide +kernel
theorem dX7_handsOf_11 : decode cX7_handsOf 11 = .ok (.ishl, 1) := by decide +kernel
theorem dX7_handsOf_12 : decode cX7_handsOf 12 = .ok (.ior, 1) := by decide +kernel
theorem dX7_handsOf_13 : decode cX7_handsOf 13 = .ok (.ireturn, 1) := by decide +kernel
theorem dX7_text_0 : decode cX7_text 0 = .ok (.aload_n 0, 1) := by decide +kernel
theorem dX7_text_1 : decode cX7_text 1 = .ok (.iconst 0, 1) := by decide +kernel
theorem dX7_text_2 : decode cX7_text 2 = .ok (.putfield 66, 3) := by decide +kernel
theorem dX7_text_5 : decode cX7_text 5 = .ok (.aload_n 0, 1) := by decide +kernel
theorem dX7_text_6 : decode cX7_text 6 = .ok (.iconst 0, 1) := by decide +kernel
theorem dX7_text_7 : decode cX7_text 7 = .ok (.putfield 78, 3) := by decide +kernel
theorem dX7_text_10 : decode cX7_text 10 = .ok (.aload_n 0, 1) := by decide +kernel
theorem dX7_text_11 : decode cX7_text 11 = .ok (.iconst 0, 1) := by decide +kernel
theorem dX7_text_12 : decode cX7_text 12 = .ok (.putfield 114, 3) := by decide +kernel
theorem dX7_text_15 : decode cX7_text 15 = .ok (.aload_n 0, 1) := by decide +kernel
theorem dX7_text_16 : decode cX7_text 16 = .ok (.iconst 0, 1) := by decide +kernel
theorem dX7_text_17 : decode cX7_text 17 = .ok (.putfield 117, 3) := by decide +kernel
theorem dX7_text_20 : decode cX7_text 20 = .ok (.aload_n 0, 1) := by decide +kernel
theorem dX7_text_21 : decode cX7_text 21 = .ok (.iconst 0, 1) := by decide +kernel
theorem dX7_text_22 : decode cX7_text 22 = .ok (.putfield 123, 3) := by decide +kernel
theorem dX7_text_25 : decode cX7_text 25 = .ok (.aload_n 0, 1) := by decide +kernel
theorem dX7_text_26 : decode cX7_text 26 = .ok (.iconst 0, 1) := by decide +kernel
theorem dX7_text_27 : decode cX7_text 27 = .ok (.putfield 129, 3) := by decide +kernel
theorem dX7_text_30 : decode cX7_text 30 = .ok (.aload_n 0, 1) := by decide +kernel
theorem dX7_text_31 : decode cX7_text 31 = .ok (.iconst 0, 1) := by decide +kernel
theorem dX7_text_32 : decode cX7_text 32 = .ok (.putfield 107, 3) := by decide +kernel
theorem dX7_text_35 : decode cX7_text 35 = .ok (.iconst 0, 1) := by decide +kernel
theorem dX7_text_36 : decode cX7_text 36 = .ok (.istore_n 1, 1) := by decide +kernel
theorem dX7_text_37 : decode cX7_text 37 = .ok (.iconst 0, 1) := by decide +kernel
theorem dX7_text_38 : decode cX7_text 38 = .ok (.istore_n 2, 1) := by decide +kernel
theorem dX7_text_39 : decode cX7_text 39 = .ok (.iload_n 2, 1) := by decide +kernel
theorem dX7_text_40 : decode cX7_text 40 = .ok (.bipush 50, 2) := by decide +kernel
theorem dX7_text_42 : decode cX7_text 42 = .ok (.if_icmp .ge 16, 3) := by decide +kernel
theorem dX7_text_45 : decode cX7_text 45 = .ok (.aload_n 0, 1) := by decide +kernel
theorem dX7_text_46 : decode cX7_text 46 = .ok (.getfield 13, 3) := by decide +kernel
theorem dX7_text_49 : decode cX7_text 49 = .ok (.iload_n 2, 1) := by decide +kernel
theorem dX7_text_50 : decode cX7_text 50 = .ok (.iconst 0, 1) := by decide +kernel
theorem dX7_text_51 : decode cX7_text 51 = .ok (.iastore, 1) := by decide +kernel
theorem dX7_text_52 : decode cX7_text 52 = .ok (.iinc 2 1, 3) := by decide +kernel
theorem dX7_text_55 : decode cX7_text 55 = .ok (.goto (-16), 3) := by decide +kernel
theorem dX7_text_58 : decode cX7_text 58 = .ok (.aload_n 0, 1) := by decide +kernel
theorem dX7_text_59 : decode cX7_text 59 = .ok (.invokevirtual 100, 3) := by decide +kernel
theorem dX7_text_62 : decode cX7_text 62 = .ok (.aload_n 0, 1) := by decide +kernel
theorem dX7_text_63 : decode cX7_text 63 = .ok (.getfield 66, 3) := by decide +kernel
theorem dX7_text_66 : decode cX7_text 66 = .ok (.ifCond .ne 20, 3) := by decide +kernel
theorem dX7_text_69 : decode cX7_text 69 = .ok (.aload_n 0, 1) := by decide +kernel
theorem dX7_text_70 : decode cX7_text 70 = .ok (.getfield 75, 3) := by decide +kernel
theorem dX7_text_73 : decode cX7_text 73 = .ok (.ifCond .eq 13, 3) := by decide +kernel
theorem dX7_text_76 : decode cX7_text 76 = .ok (.aload_n 0, 1) := by decide +kernel
theorem dX7_text_77 : decode cX7_text 77 = .ok (.invokevirtual 137, 3) := by decide +kernel
theorem dX7_text_80 : decode cX7_text 80 = .ok (.iinc 1 1, 3) := by decide +kernel
theorem dX7_text_83 : decode cX7_text 83 = .ok (.goto (-21), 3) := by decide +kernel
theorem dX7_text_86 : decode cX7_text 86 = .ok (.aload_n 0, 1) := by decide +kernel
theorem dX7_text_87 : decode cX7_text 87 = .ok (.getfield 66, 3) := by decide +kernel
theorem dX7_text_90 : decode cX7_text 90 = .ok (.ifCond .ne 30, 3) := by decide +kernel
theorem dX7_text_93 : decode cX7_text 93 = .ok (.aload_n 0, 1) := by decide +kernel
theorem dX7_text_94 : decode cX7_text 94 = .ok (.getfield 107, 3) := by decide +kernel
theorem dX7_text_97 : decode cX7_text 97 = .ok (.aload_n 0, 1) := by decide +kernel
theorem dX7_text_98 : decode cX7_text 98 = .ok (.getfield 114, 3) := by decide +kernel
theorem dX7_text_101 : decode cX7_text 101 = .ok (.aload_n 0, 1) := by decide +kernel
theorem dX7_text_102 : decode cX7_text 102 = .ok (.getfield 117, 3) := by decide +kernel
theorem dX7_text_105 : decode cX7_text 105 = .ok (.invokestatic 140, 3) := by decide +kernel
theorem dX7_text_108 : decode cX7_text 108 = .ok (.iconst (-1), 1) := by decide +kernel
theorem dX7_text_109 : decode cX7_text 109 = .ok (.ixor, 1) := by decide +kernel
theorem dX7_text_110 : decode cX7_text 110 = .ok (.iand, 1) := by decide +kernel
theorem dX7_text_111 : decode cX7_text 111 = .ok (.ifCond .eq 9, 3) := by decide +kernel
theorem dX7_text_114 : decode cX7_text 114 = .ok (.aload_n 0, 1) := by decide +kernel
theorem dX7_text_115 : decode cX7_text 115 = .ok (.bipush 6, 2) := by decide +kernel
theorem dX7_text_117 : decode cX7_text 117 = .ok (.invokevirtual 96, 3) := by decide +kernel
theorem dX7_text_120 : decode cX7_text 120 = .ok (.aload_n 0, 1) := by decide +kernel
theorem dX7_text_121 : decode cX7_text 121 = .ok (.iconst 0, 1) := by decide +kernel
theorem dX7_text_122 : decode cX7_text 122 = .ok (.putfield 62, 3) := by decide +kernel
theorem dX7_text_125 : decode cX7_text 125 = .ok (.aload_n 0, 1) := by decide +kernel
theorem dX7_text_126 : decode cX7_text 126 = .ok (.aload_n 0, 1) := by decide +kernel
theorem dX7_text_127 : decode cX7_text 127 = .ok (.getfield 66, 3) := by decide +kernel
theorem dX7_text_130 : decode cX7_text 130 = .ok (.putfield 144, 3) := by decide +kernel
theorem dX7_text_133 : decode cX7_text 133 = .ok (.aload_n 0, 1) := by decide +kernel
theorem dX7_text_134 : decode cX7_text 134 = .ok (.getfield 66, 3) := by decide +kernel
theorem dX7_text_137 : decode cX7_text 137 = .ok (.ifCond .le 11, 3) := by decide +kernel
theorem dX7_text_140 : decode cX7_text 140 = .ok (.bipush (-10), 2) := by decide +kernel
theorem dX7_text_142 : decode cX7_text 142 = .ok (.aload_n 0, 1) := by decide +kernel
theorem dX7_text_143 : decode cX7_text 143 = .ok (.getfield 72, 3) := by decide +kernel
theorem dX7_text_146 : decode cX7_text 146 = .ok (.isub, 1) := by decide +kernel
theorem dX7_text_147 : decode cX7_text 147 = .ok (.ireturn, 1) := by decide +kernel
theorem dX7_text_148 : decode cX7_text 148 = .ok (.iconst 0, 1) := by decide +kernel
theorem dX7_text_149 : decode cX7_text 149 = .ok (.istore_n 2, 1) := by decide +kernel
theorem dX7_text_150 : decode cX7_text 150 = .ok (.iload_n 2, 1) := by decide +kernel
theorem dX7_text_151 : decode cX7_text 151 = .ok (.bipush 50, 2) := by decide +kernel
theorem dX7_text_153 : decode cX7_text 153 = .ok (.if_icmp .ge 21, 3) := by decide +kernel
theorem dX7_text_156 : decode cX7_text 156 = .ok (.aload_n 0, 1) := by decide +kernel
theorem dX7_text_157 : decode cX7_text 157 = .ok (.getfield 7, 3) := by decide +kernel
theorem dX7_text_160 : decode cX7_text 160 = .ok (.iload_n 2, 1) := by decide +kernel
theorem dX7_text_161 : decode cX7_text 161 = .ok (.aload_n 0, 1) := by decide +kernel
theorem dX7_text_162 : decode cX7_text 162 = .ok (.getfield 13, 3) := by decide +kernel
theorem dX7_text_165 : decode cX7_text 165 = .ok (.iload_n 2, 1) := by decide +kernel
theorem dX7_text_166 : decode cX7_text 166 = .ok (.iaload, 1) := by decide +kernel
theorem dX7_text_167 : decode cX7_text 167 = .ok (.iastore, 1) := by decide +kernel
theorem dX7_text_168 : decode cX7_text 168 = .ok (.iinc 2 1, 3) := by decide +kernel
theorem dX7_text_171 : decode cX7_text 171 = .ok (.goto (-21), 3) := by decide +kernel
theorem dX7_text_174 : decode cX7_text 174 = .ok (.aload_n 0, 1) := by decide +kernel
theorem dX7_text_175 : decode cX7_text 175 = .ok (.aload_n 0, 1) := by decide +kernel
theorem dX7_text_176 : decode cX7_text 176 = .ok (.getfield 114, 3) := by decide +kernel
theorem dX7_text_179 : decode cX7_text 179 = .ok (.putfield 147, 3) := by decide +kernel
theorem dX7_text_182 : decode cX7_text 182 = .ok (.aload_n 0, 1) := by decide +kernel
theorem dX7_text_183 : decode cX7_text 183 = .ok (.aload_n 0, 1) := by decide +kernel
theorem dX7_text_184 : decode cX7_text 184 = .ok (.getfield 117, 3) := by decide +kernel
theorem dX7_text_187 : decode cX7_text 187 = .ok (.putfield 150, 3) := by decide +kernel
theorem dX7_text_190 : decode cX7_text 190 = .ok (.aload_n 0, 1) := by decide +kernel
theorem dX7_text_191 : decode cX7_text 191 = .ok (.iconst 0, 1) := by decide +kernel
theorem dX7_text_192 : decode cX7_text 192 = .ok (.putfield 153, 3) := by decide +kernel
theorem dX7_text_195 : decode cX7_text 195 = .ok (.aload_n 0, 1) := by decide +kernel
theorem dX7_text_196 : decode cX7_text 196 = .ok (.getfield 43, 3) := by decide +kernel
theorem dX7_text_199 : decode cX7_text 199 = .ok (.iconst 0, 1) := by decide +kernel
theorem dX7_text_200 : decode cX7_text 200 = .ok (.iconst 0, 1) := by decide +kernel
theorem dX7_text_201 : decode cX7_text 201 = .ok (.bastore, 1) := by decide +kernel
theorem dX7_text_202 : decode cX7_text 202 = .ok (.aload_n 0, 1) := by decide +kernel
theorem dX7_text_203 : decode cX7_text 203 = .ok (.getfield 43, 3) := by decide +kernel
theorem dX7_text_206 : decode cX7_text 206 = .ok (.iconst 1, 1) := by decide +kernel
theorem dX7_text_207 : decode cX7_text 207 = .ok (.iconst 0, 1) := by decide +kernel
theorem dX7_text_208 : decode cX7_text 208 = .ok (.bastore, 1) := by decide +kernel
theorem dX7_text_209 : decode cX7_text 209 = .ok (.iload_n 1, 1) := by decide +kernel
theorem dX7_text_210 : decode cX7_text 210 = .ok (.ireturn, 1) := by decide +kernel
theorem dX7_fault_0 : decode cX7_fault 0 = .ok (.aload_n 0, 1) := by decide +kernel
theorem dX7_fault_1 : decode cX7_fault 1 = .ok (.getfield 144, 3) := by decide +kernel
theorem dX7_fault_4 : decode cX7_fault 4 = .ok (.ireturn, 1) := by decide +kernel
theorem dX7_isHand_0 : decode cX7_isHand 0 = .ok (.iload_n 1, 1) := by decide +kernel
theorem dX7_isHand_1 : decode cX7_isHand 1 = .ok (.i2l, 1) := by decide +kernel
theorem dX7_isHand_2 : decode cX7_isHand 2 = .ok (.lconst 0, 1) := by decide +kernel
theorem dX7_isHand_3 : decode cX7_isHand 3 = .ok (.aload_n 0, 1) := by decide +kernel
theorem dX7_isHand_4 : decode cX7_isHand 4 = .ok (.getfield 147, 3) := by decide +kernel
theorem dX7_isHand_7 : decode cX7_isHand 7 = .ok (.iconst 1, 1) := by decide +kernel
theorem dX7_isHand_8 : decode cX7_isHand 8 = .ok (.isub, 1) := by decide +kernel
theorem dX7_isHand_9 : decode cX7_isHand 9 = .ok (.i2l, 1) := by decide +kernel
theorem dX7_isHand_10 : decode cX7_isHand 10 = .ok (.invokestatic 58, 3) := by decide +kernel
theorem dX7_isHand_13 : decode cX7_isHand 13 = .ok (.ifCond .ne 23, 3) := by decide +kernel
theorem dX7_isHand_16 : decode cX7_isHand 16 = .ok (.iload_n 1, 1) := by decide +kernel
theorem dX7_isHand_17 : decode cX7_isHand 17 = .ok (.i2l, 1) := by decide +kernel
theorem dX7_isHand_18 : decode cX7_isHand 18 = .ok (.ldc2_w 156, 3) := by decide +kernel
theorem dX7_isHand_21 : decode cX7_isHand 21 = .ok (.iconst 4, 1) := by decide +kernel
theorem dX7_isHand_22 : decode cX7_isHand 22 = .ok (.aload_n 0, 1) := by decide +kernel
theorem dX7_isHand_23 : decode cX7_isHand 23 = .ok (.getfield 150, 3) := by decide +kernel
theorem dX7_isHand_26 : decode cX7_isHand 26 = .ok (.iadd, 1) := by decide +kernel
theorem dX7_isHand_27 : decode cX7_isHand 27 = .ok (.iconst 1, 1) := by decide +kernel
theorem dX7_isHand_28 : decode cX7_isHand 28 = .ok (.isub, 1) := by decide +kernel
theorem dX7_isHand_29 : decode cX7_isHand 29 = .ok (.i2l, 1) := by decide +kernel
theorem dX7_isHand_30 : decode cX7_isHand 30 = .ok (.invokestatic 58, 3) := by decide +kernel
theorem dX7_isHand_33 : decode cX7_isHand 33 = .ok (.ifCond .eq 7, 3) := by decide +kernel
theorem dX7_isHand_36 : decode cX7_isHand 36 = .ok (.iconst 1, 1) := by decide +kernel
theorem dX7_isHand_37 : decode cX7_isHand 37 = .ok (.goto 4, 3) := by decide +kernel
theorem dX7_isHand_40 : decode cX7_isHand 40 = .ok (.iconst 0, 1) := by decide +kernel
theorem dX7_isHand_41 : decode cX7_isHand 41 = .ok (.ireturn, 1) := by decide +kernel
theorem dX7_areTwo_0 : decode cX7_areTwo 0 = .ok (.aload_n 0, 1) := by decide +kernel
theorem dX7_areTwo_1 : decode cX7_areTwo 1 = .ok (.iload_n 1, 1) := by decide +kernel
theorem dX7_areTwo_2 : decode cX7_areTwo 2 = .ok (.invokevirtual 158, 3) := by decide +kernel
theorem dX7_areTwo_5 : decode cX7_areTwo 5 = .ok (.ifCond .eq 25, 3) := by decide +kernel
theorem dX7_areTwo_8 : decode cX7_areTwo 8 = .ok (.aload_n 0, 1) := by decide +kernel
theorem dX7_areTwo_9 : decode cX7_areTwo 9 = .ok (.iload_n 2, 1) := by decide +kernel
theorem dX7_areTwo_10 : decode cX7_areTwo 10 = .ok (.invokevirtual 158, 3) := by decide +kernel
theorem dX7_areTwo_13 : decode cX7_areTwo 13 = .ok (.ifCond .eq 17, 3) := by decide +kernel
theorem dX7_areTwo_16 : decode cX7_areTwo 16 = .ok (.iload_n 1, 1) := by decide +kernel
theorem dX7_areTwo_17 : decode cX7_areTwo 17 = .ok (.iconst 4, 1) := by decide +kernel
theorem dX7_areTwo_18 : decode cX7_areTwo 18 = .ok (.if_icmp .ge 12, 3) := by decide +kernel
theorem dX7_areTwo_21 : decode cX7_areTwo 21 = .ok (.iload_n 2, 1) := by decide +kernel
theorem dX7_areTwo_22 : decode cX7_areTwo 22 = .ok (.iconst 4, 1) := by decide +kernel
theorem dX7_areTwo_23 : decode cX7_areTwo 23 = .ok (.if_icmp .lt 7, 3) := by decide +kernel
theorem dX7_areTwo_26 : decode cX7_areTwo 26 = .ok (.iconst 1, 1) := by decide +kernel
theorem dX7_areTwo_27 : decode cX7_areTwo 27 = .ok (.goto 4, 3) := by decide +kernel
theorem dX7_areTwo_30 : decode cX7_areTwo 30 = .ok (.iconst 0, 1) := by decide +kernel
theorem dX7_areTwo_31 : decode cX7_areTwo 31 = .ok (.ireturn, 1) := by decide +kernel
theorem dX7_bitsOf_0 : decode cX7_bitsOf 0 = .ok (.iconst 0, 1) := by decide +kernel
theorem dX7_bitsOf_1 : decode cX7_bitsOf 1 = .ok (.istore_n 1, 1) := by decide +kernel
theorem dX7_bitsOf_2 : decode cX7_bitsOf 2 = .ok (.iconst 0, 1) := by decide +kernel
theorem dX7_bitsOf_3 : decode cX7_bitsOf 3 = .ok (.istore_n 2, 1) := by decide +kernel
theorem dX7_bitsOf_4 : decode cX7_bitsOf 4 = .ok (.iload_n 2, 1) := by decide +kernel
theorem dX7_bitsOf_5 : decode cX7_bitsOf 5 = .ok (.bipush 8, 2) := by decide +kernel
theorem dX7_bitsOf_7 : decode cX7_bitsOf 7 = .ok (.if_icmp .ge 17, 3) := by decide +kernel
theorem dX7_bitsOf_10 : decode cX7_bitsOf 10 = .ok (.iload_n 1, 1) := by decide +kernel
theorem dX7_bitsOf_11 : decode cX7_bitsOf 11 = .ok (.iload_n 0, 1) := by decide +kernel
theorem dX7_bitsOf_12 : decode cX7_bitsOf 12 = .ok (.iload_n 2, 1) := by decide +kernel
theorem dX7_bitsOf_13 : decode cX7_bitsOf 13 = .ok (.ishr, 1) := by decide +kernel
theorem dX7_bitsOf_14 : decode cX7_bitsOf 14 = .ok (.iconst 1, 1) := by decide +kernel
theorem dX7_bitsOf_15 : decode cX7_bitsOf 15 = .ok (.iand, 1) := by decide +kernel
theorem dX7_bitsOf_16 : decode cX7_bitsOf 16 = .ok (.iadd, 1) := by decide +kernel
theorem dX7_bitsOf_17 : decode cX7_bitsOf 17 = .ok (.istore_n 1, 1) := by decide +kernel
theorem dX7_bitsOf_18 : decode cX7_bitsOf 18 = .ok (.iinc 2 1, 3) := by decide +kernel
theorem dX7_bitsOf_21 : decode cX7_bitsOf 21 = .ok (.goto (-17), 3) := by decide +kernel
theorem dX7_bitsOf_24 : decode cX7_bitsOf 24 = .ok (.iload_n 1, 1) := by decide +kernel
theorem dX7_bitsOf_25 : decode cX7_bitsOf 25 = .ok (.ireturn, 1) := by decide +kernel
theorem dX7_wedTo_0 : decode cX7_wedTo 0 = .ok (.iload_n 1, 1) := by decide +kernel
theorem dX7_wedTo_1 : decode cX7_wedTo 1 = .ok (.iconst 4, 1) := by decide +kernel
theorem dX7_wedTo_2 : decode cX7_wedTo 2 = .ok (.if_icmp .ge 30, 3) := by decide +kernel
theorem dX7_wedTo_5 : decode cX7_wedTo 5 = .ok (.aload_n 0, 1) := by decide +kernel
theorem dX7_wedTo_6 : decode cX7_wedTo 6 = .ok (.getfield 7, 3) := by decide +kernel
theorem dX7_wedTo_9 : decode cX7_wedTo 9 = .ok (.bipush 45, 2) := by decide +kernel
theorem dX7_wedTo_11 : decode cX7_wedTo 11 = .ok (.iload_n 1, 1) := by decide +kernel
theorem dX7_wedTo_12 : decode cX7_wedTo 12 = .ok (.iadd, 1) := by decide +kernel
theorem dX7_wedTo_13 : decode cX7_wedTo 13 = .ok (.iaload, 1) := by decide +kernel
theorem dX7_wedTo_14 : decode cX7_wedTo 14 = .ok (.ifCond .ne 8, 3) := by decide +kernel
theorem dX7_wedTo_17 : decode cX7_wedTo 17 = .ok (.bipush (-4), 2) := by decide +kernel
theorem dX7_wedTo_19 : decode cX7_wedTo 19 = .ok (.goto 12, 3) := by decide +kernel
theorem dX7_wedTo_22 : decode cX7_wedTo 22 = .ok (.aload_n 0, 1) := by decide +kernel
theorem dX7_wedTo_23 : decode cX7_wedTo 23 = .ok (.getfield 7, 3) := by decide +kernel
theorem dX7_wedTo_26 : decode cX7_wedTo 26 = .ok (.bipush 45, 2) := by decide +kernel
theorem dX7_wedTo_28 : decode cX7_wedTo 28 = .ok (.iload_n 1, 1) := by decide +kernel
theorem dX7_wedTo_29 : decode cX7_wedTo 29 = .ok (.iadd, 1) := by decide +kernel
theorem dX7_wedTo_30 : decode cX7_wedTo 30 = .ok (.iaload, 1) := by decide +kernel
theorem dX7_wedTo_31 : decode cX7_wedTo 31 = .ok (.ireturn, 1) := by decide +kernel
theorem dX7_wedTo_32 : decode cX7_wedTo 32 = .ok (.iconst 0, 1) := by decide +kernel
theorem dX7_wedTo_33 : decode cX7_wedTo 33 = .ok (.istore_n 2, 1) := by decide +kernel
theorem dX7_wedTo_34 : decode cX7_wedTo 34 = .ok (.iload_n 2, 1) := by decide +kernel
theorem dX7_wedTo_35 : decode cX7_wedTo 35 = .ok (.iconst 4, 1) := by decide +kernel
theorem dX7_wedTo_36 : decode cX7_wedTo 36 = .ok (.if_icmp .ge 24, 3) := by decide +kernel
theorem dX7_wedTo_39 : decode cX7_wedTo 39 = .ok (.aload_n 0, 1) := by decide +kernel
theorem dX7_wedTo_40 : decode cX7_wedTo 40 = .ok (.getfield 7, 3) := by decide +kernel
theorem dX7_wedTo_43 : decode cX7_wedTo 43 = .ok (.bipush 45, 2) := by decide +kernel
theorem dX7_wedTo_45 : decode cX7_wedTo 45 = .ok (.iload_n 2, 1) := by decide +kernel
theorem dX7_wedTo_46 : decode cX7_wedTo 46 = .ok (.iadd, 1) := by decide +kernel
theorem dX7_wedTo_47 : decode cX7_wedTo 47 = .ok (.iaload, 1) := by decide +kernel
theorem dX7_wedTo_48 : decode cX7_wedTo 48 = .ok (.iload_n 1, 1) := by decide +kernel
theorem dX7_wedTo_49 : decode cX7_wedTo 49 = .ok (.if_icmp .ne 5, 3) := by decide +kernel
theorem dX7_wedTo_52 : decode cX7_wedTo 52 = .ok (.iload_n 2, 1) := by decide +kernel
theorem dX7_wedTo_53 : decode cX7_wedTo 53 = .ok (.ireturn, 1) := by decide +kernel
theorem dX7_wedTo_54 : decode cX7_wedTo 54 = .ok (.iinc 2 1, 3) := by decide +kernel
theorem dX7_wedTo_57 : decode cX7_wedTo 57 = .ok (.goto (-23), 3) := by decide +kernel
theorem dX7_wedTo_60 : decode cX7_wedTo 60 = .ok (.bipush (-4), 2) := by decide +kernel
theorem dX7_wedTo_62 : decode cX7_wedTo 62 = .ok (.ireturn, 1) := by decide +kernel
theorem dX7_wedOnes_0 : decode cX7_wedOnes 0 = .ok (.iconst 0, 1) := by decide +kernel
theorem dX7_wedOnes_1 : decode cX7_wedOnes 1 = .ok (.istore_n 1, 1) := by decide +kernel
theorem dX7_wedOnes_2 : decode cX7_wedOnes 2 = .ok (.iconst 0, 1) := by decide +kernel
theorem dX7_wedOnes_3 : decode cX7_wedOnes 3 = .ok (.istore_n 2, 1) := by decide +kernel
theorem dX7_wedOnes_4 : decode cX7_wedOnes 4 = .ok (.iload_n 2, 1) := by decide +kernel
theorem dX7_wedOnes_5 : decode cX7_wedOnes 5 = .ok (.bipush 8, 2) := by decide +kernel
theorem dX7_wedOnes_7 : decode cX7_wedOnes 7 = .ok (.if_icmp .ge 29, 3) := by decide +kernel
theorem dX7_wedOnes_10 : decode cX7_wedOnes 10 = .ok (.iload_n 1, 1) := by decide +kernel
theorem dX7_wedOnes_11 : decode cX7_wedOnes 11 = .ok (.aload_n 0, 1) := by decide +kernel
theorem dX7_wedOnes_12 : decode cX7_wedOnes 12 = .ok (.iload_n 2, 1) := by decide +kernel
theorem dX7_wedOnes_13 : decode cX7_wedOnes 13 = .ok (.invokevirtual 162, 3) := by decide +kernel
theorem dX7_wedOnes_16 : decode cX7_wedOnes 16 = .ok (.bipush (-4), 2) := by decide +kernel
theorem dX7_wedOnes_18 : decode cX7_wedOnes 18 = .ok (.if_icmp .ne 7, 3) := by decide +kernel
theorem dX7_wedOnes_21 : decode cX7_wedOnes 21 = .ok (.iconst 0, 1) := by decide +kernel
theorem dX7_wedOnes_22 : decode cX7_wedOnes 22 = .ok (.goto 6, 3) := by decide +kernel
theorem dX7_wedOnes_25 : decode cX7_wedOnes 25 = .ok (.iconst 1, 1) := by decide +kernel
theorem dX7_wedOnes_26 : decode cX7_wedOnes 26 = .ok (.iload_n 2, 1) := by decide +kernel
theorem dX7_wedOnes_27 : decode cX7_wedOnes 27 = .ok (.ishl, 1) := by decide +kernel
theorem dX7_wedOnes_28 : decode cX7_wedOnes 28 = .ok (.ior, 1) := by decide +kernel
theorem dX7_wedOnes_29 : decode cX7_wedOnes 29 = .ok (.istore_n 1, 1) := by decide +kernel
theorem dX7_wedOnes_30 : decode cX7_wedOnes 30 = .ok (.iinc 2 1, 3) := by decide +kernel
theorem dX7_wedOnes_33 : decode cX7_wedOnes 33 = .ok (.goto (-29), 3) := by decide +kernel
theorem dX7_wedOnes_36 : decode cX7_wedOnes 36 = .ok (.iload_n 1, 1) := by decide +kernel
theorem dX7_wedOnes_37 : decode cX7_wedOnes 37 = .ok (.ireturn, 1) := by decide +kernel
theorem dX7_rule_0 : decode cX7_rule 0 = .ok (.iload_n 1, 1) := by decide +kernel
theorem dX7_rule_1 : decode cX7_rule 1 = .ok (.tableswitch 66 0 4 #[35, 40, 45, 53, 58], 35) := by decide +kernel
theorem dX7_rule_36 : decode cX7_rule 36 = .ok (.aload_n 0, 1) := by decide +kernel
theorem dX7_rule_37 : decode cX7_rule 37 = .ok (.getfield 147, 3) := by decide +kernel
theorem dX7_rule_40 : decode cX7_rule 40 = .ok (.ireturn, 1) := by decide +kernel
theorem dX7_rule_41 : decode cX7_rule 41 = .ok (.aload_n 0, 1) := by decide +kernel
theorem dX7_rule_42 : decode cX7_rule 42 = .ok (.getfield 150, 3) := by decide +kernel
theorem dX7_rule_45 : decode cX7_rule 45 = .ok (.ireturn, 1) := by decide +kernel
theorem dX7_rule_46 : decode cX7_rule 46 = .ok (.aload_n 0, 1) := by decide +kernel
theorem dX7_rule_47 : decode cX7_rule 47 = .ok (.getfield 7, 3) := by decide +kernel
theorem dX7_rule_50 : decode cX7_rule 50 = .ok (.bipush 44, 2) := by decide +kernel
theorem dX7_rule_52 : decode cX7_rule 52 = .ok (.iaload, 1) := by decide +kernel
theorem dX7_rule_53 : decode cX7_rule 53 = .ok (.ireturn, 1) := by decide +kernel
theorem dX7_rule_54 : decode cX7_rule 54 = .ok (.aload_n 0, 1) := by decide +kernel
theorem dX7_rule_55 : decode cX7_rule 55 = .ok (.invokevirtual 165, 3) := by decide +kernel
theorem dX7_rule_58 : decode cX7_rule 58 = .ok (.ireturn, 1) := by decide +kernel
theorem dX7_rule_59 : decode cX7_rule 59 = .ok (.aload_n 0, 1) := by decide +kernel
theorem dX7_rule_60 : decode cX7_rule 60 = .ok (.getfield 7, 3) := by decide +kernel
theorem dX7_rule_63 : decode cX7_rule 63 = .ok (.bipush 49, 2) := by decide +kernel
theorem dX7_rule_65 : decode cX7_rule 65 = .ok (.iaload, 1) := by decide +kernel
theorem dX7_rule_66 : decode cX7_rule 66 = .ok (.ireturn, 1) := by decide +kernel
theorem dX7_rule_67 : decode cX7_rule 67 = .ok (.iconst (-1), 1) := by decide +kernel
theorem dX7_rule_68 : decode cX7_rule 68 = .ok (.ireturn, 1) := by decide +kernel
theorem dX7_areFolded_0 : decode cX7_areFolded 0 = .ok (.iload_n 1, 1) := by decide +kernel
theorem dX7_areFolded_1 : decode cX7_areFolded 1 = .ok (.iload_n 2, 1) := by decide +kernel
theorem dX7_areFolded_2 : decode cX7_areFolded 2 = .ok (.if_icmp .ge 7, 3) := by decide +kernel
theorem dX7_areFolded_5 : decode cX7_areFolded 5 = .ok (.iload_n 1, 1) := by decide +kernel
theorem dX7_areFolded_6 : decode cX7_areFolded 6 = .ok (.goto 4, 3) := by decide +kernel
theorem dX7_areFolded_9 : decode cX7_areFolded 9 = .ok (.iload_n 2, 1) := by decide +kernel
theorem dX7_areFolded_10 : decode cX7_areFolded 10 = .ok (.istore_n 3, 1) := by decide +kernel
theorem dX7_areFolded_11 : decode cX7_areFolded 11 = .ok (.iload_n 1, 1) := by decide +kernel
theorem dX7_areFolded_12 : decode cX7_areFolded 12 = .ok (.iload_n 2, 1) := by decide +kernel
theorem dX7_areFolded_13 : decode cX7_areFolded 13 = .ok (.if_icmp .ge 7, 3) := by decide +kernel
theorem dX7_areFolded_16 : decode cX7_areFolded 16 = .ok (.iload_n 2, 1) := by decide +kernel
theorem dX7_areFolded_17 : decode cX7_areFolded 17 = .ok (.goto 4, 3) := by decide +kernel
theorem dX7_areFolded_20 : decode cX7_areFolded 20 = .ok (.iload_n 1, 1) := by decide +kernel
theorem dX7_areFolded_21 : decode cX7_areFolded 21 = .ok (.istore 4, 2) := by decide +kernel
theorem dX7_areFolded_23 : decode cX7_areFolded 23 = .ok (.aload_n 0, 1) := by decide +kernel
theorem dX7_areFolded_24 : decode cX7_areFolded 24 = .ok (.getfield 7, 3) := by decide +kernel
theorem dX7_areFolded_27 : decode cX7_areFolded 27 = .ok (.bipush 40, 2) := by decide +kernel
theorem dX7_areFolded_29 : decode cX7_areFolded 29 = .ok (.iload_n 3, 1) := by decide +kernel
theorem dX7_areFolded_30 : decode cX7_areFolded 30 = .ok (.iadd, 1) := by decide +kernel
theorem dX7_areFolded_31 : decode cX7_areFolded 31 = .ok (.iaload, 1) := by decide +kernel
theorem dX7_areFolded_32 : decode cX7_areFolded 32 = .ok (.iload 4, 2) := by decide +kernel
theorem dX7_areFolded_34 : decode cX7_areFolded 34 = .ok (.ishr, 1) := by decide +kernel
theorem dX7_areFolded_35 : decode cX7_areFolded 35 = .ok (.iconst 1, 1) := by decide +kernel
theorem dX7_areFolded_36 : decode cX7_areFolded 36 = .ok (.iand, 1) := by decide +kernel
theorem dX7_areFolded_37 : decode cX7_areFolded 37 = .ok (.iconst 1, 1) := by decide +kernel
theorem dX7_areFolded_38 : decode cX7_areFolded 38 = .ok (.if_icmp .ne 7, 3) := by decide +kernel
theorem dX7_areFolded_41 : decode cX7_areFolded 41 = .ok (.iconst 1, 1) := by decide +kernel
theorem dX7_areFolded_42 : decode cX7_areFolded 42 = .ok (.goto 4, 3) := by decide +kernel
theorem dX7_areFolded_45 : decode cX7_areFolded 45 = .ok (.iconst 0, 1) := by decide +kernel
theorem dX7_areFolded_46 : decode cX7_areFolded 46 = .ok (.ireturn, 1) := by decide +kernel
theorem dX7_foldedWith_0 : decode cX7_foldedWith 0 = .ok (.iconst 0, 1) := by decide +kernel
theorem dX7_foldedWith_1 : decode cX7_foldedWith 1 = .ok (.istore_n 2, 1) := by decide +kernel
theorem dX7_foldedWith_2 : decode cX7_foldedWith 2 = .ok (.iconst 0, 1) := by decide +kernel
theorem dX7_foldedWith_3 : decode cX7_foldedWith 3 = .ok (.istore_n 3, 1) := by decide +kernel
theorem dX7_foldedWith_4 : decode cX7_foldedWith 4 = .ok (.iload_n 3, 1) := by decide +kernel
theorem dX7_foldedWith_5 : decode cX7_foldedWith 5 = .ok (.bipush 8, 2) := by decide +kernel
theorem dX7_foldedWith_7 : decode cX7_foldedWith 7 = .ok (.if_icmp .ge 37, 3) := by decide +kernel
theorem dX7_foldedWith_10 : decode cX7_foldedWith 10 = .ok (.iload_n 2, 1) := by decide +kernel
theorem dX7_foldedWith_11 : decode cX7_foldedWith 11 = .ok (.iload_n 1, 1) := by decide +kernel
theorem dX7_foldedWith_12 : decode cX7_foldedWith 12 = .ok (.iconst 4, 1) := by decide +kernel
theorem dX7_foldedWith_13 : decode cX7_foldedWith 13 = .ok (.idiv, 1) := by decide +kernel
theorem dX7_foldedWith_14 : decode cX7_foldedWith 14 = .ok (.iload_n 3, 1) := by decide +kernel
theorem dX7_foldedWith_15 : decode cX7_foldedWith 15 = .ok (.iconst 4, 1) := by decide +kernel
theorem dX7_foldedWith_16 : decode cX7_foldedWith 16 = .ok (.idiv, 1) := by decide +kernel
theorem dX7_foldedWith_17 : decode cX7_foldedWith 17 = .ok (.if_icmp .eq 18, 3) := by decide +kernel
theorem dX7_foldedWith_20 : decode cX7_foldedWith 20 = .ok (.aload_n 0, 1) := by decide +kernel
theorem dX7_foldedWith_21 : decode cX7_foldedWith 21 = .ok (.iload_n 1, 1) := by decide +kernel
theorem dX7_foldedWith_22 : decode cX7_foldedWith 22 = .ok (.iload_n 3, 1) := by decide +kernel
theorem dX7_foldedWith_23 : decode cX7_foldedWith 23 = .ok (.invokevirtual 168, 3) := by decide +kernel
theorem dX7_foldedWith_26 : decode cX7_foldedWith 26 = .ok (.ifCond .eq 9, 3) := by decide +kernel
theorem dX7_foldedWith_29 : decode cX7_foldedWith 29 = .ok (.iconst 1, 1) := by decide +kernel
theorem dX7_foldedWith_30 : decode cX7_foldedWith 30 = .ok (.iload_n 3, 1) := by decide +kernel
theorem dX7_foldedWith_31 : decode cX7_foldedWith 31 = .ok (.ishl, 1) := by decide +kernel
theorem dX7_foldedWith_32 : decode cX7_foldedWith 32 = .ok (.goto 4, 3) := by decide +kernel
theorem dX7_foldedWith_35 : decode cX7_foldedWith 35 = .ok (.iconst 0, 1) := by decide +kernel
theorem dX7_foldedWith_36 : decode cX7_foldedWith 36 = .ok (.ior, 1) := by decide +kernel
theorem dX7_foldedWith_37 : decode cX7_foldedWith 37 = .ok (.istore_n 2, 1) := by decide +kernel
theorem dX7_foldedWith_38 : decode cX7_foldedWith 38 = .ok (.iinc 3 1, 3) := by decide +kernel
theorem dX7_foldedWith_41 : decode cX7_foldedWith 41 = .ok (.goto (-37), 3) := by decide +kernel
theorem dX7_foldedWith_44 : decode cX7_foldedWith 44 = .ok (.iload_n 2, 1) := by decide +kernel
theorem dX7_foldedWith_45 : decode cX7_foldedWith 45 = .ok (.ireturn, 1) := by decide +kernel
theorem dX7_penOf_0 : decode cX7_penOf 0 = .ok (.aload_n 0, 1) := by decide +kernel
theorem dX7_penOf_1 : decode cX7_penOf 1 = .ok (.getfield 7, 3) := by decide +kernel
theorem dX7_penOf_4 : decode cX7_penOf 4 = .ok (.bipush 32, 2) := by decide +kernel
theorem dX7_penOf_6 : decode cX7_penOf 6 = .ok (.iload_n 1, 1) := by decide +kernel
theorem dX7_penOf_7 : decode cX7_penOf 7 = .ok (.iadd, 1) := by decide +kernel
theorem dX7_penOf_8 : decode cX7_penOf 8 = .ok (.iaload, 1) := by decide +kernel
theorem dX7_penOf_9 : decode cX7_penOf 9 = .ok (.iload_n 1, 1) := by decide +kernel
theorem dX7_penOf_10 : decode cX7_penOf 10 = .ok (.iadd, 1) := by decide +kernel
theorem dX7_penOf_11 : decode cX7_penOf 11 = .ok (.ireturn, 1) := by decide +kernel
theorem dX7_hand_0 : decode cX7_hand 0 = .ok (.aload_n 0, 1) := by decide +kernel
theorem dX7_hand_1 : decode cX7_hand 1 = .ok (.iload_n 1, 1) := by decide +kernel
theorem dX7_hand_2 : decode cX7_hand 2 = .ok (.invokevirtual 158, 3) := by decide +kernel
theorem dX7_hand_5 : decode cX7_hand 5 = .ok (.ifCond .ne 5, 3) := by decide +kernel
theorem dX7_hand_8 : decode cX7_hand 8 = .ok (.iconst (-1), 1) := by decide +kernel
theorem dX7_hand_9 : decode cX7_hand 9 = .ok (.ireturn, 1) := by decide +kernel
theorem dX7_hand_10 : decode cX7_hand 10 = .ok (.iload_n 2, 1) := by decide +kernel
theorem dX7_hand_11 : decode cX7_hand 11 = .ok (.tableswitch 71 0 6 #[41, 41, 41, 41, 53, 59, 65], 41) := by decide +kernel
theorem dX7_hand_52 : decode cX7_hand 52 = .ok (.aload_n 0, 1) := by decide +kernel
theorem dX7_hand_53 : decode cX7_hand 53 = .ok (.getfield 7, 3) := by decide +kernel
theorem dX7_hand_56 : decode cX7_hand 56 = .ok (.bipush 8, 2) := by decide +kernel
theorem dX7_hand_58 : decode cX7_hand 58 = .ok (.iload_n 2, 1) := by decide +kernel
theorem dX7_hand_59 : decode cX7_hand 59 = .ok (.imul, 1) := by decide +kernel
theorem dX7_hand_60 : decode cX7_hand 60 = .ok (.iload_n 1, 1) := by decide +kernel
theorem dX7_hand_61 : decode cX7_hand 61 = .ok (.iadd, 1) := by decide +kernel
theorem dX7_hand_62 : decode cX7_hand 62 = .ok (.iaload, 1) := by decide +kernel
theorem dX7_hand_63 : decode cX7_hand 63 = .ok (.ireturn, 1) := by decide +kernel
theorem dX7_hand_64 : decode cX7_hand 64 = .ok (.aload_n 0, 1) := by decide +kernel
theorem dX7_hand_65 : decode cX7_hand 65 = .ok (.iload_n 1, 1) := by decide +kernel
theorem dX7_hand_66 : decode cX7_hand 66 = .ok (.invokevirtual 172, 3) := by decide +kernel
theorem dX7_hand_69 : decode cX7_hand 69 = .ok (.ireturn, 1) := by decide +kernel
theorem dX7_hand_70 : decode cX7_hand 70 = .ok (.aload_n 0, 1) := by decide +kernel
theorem dX7_hand_71 : decode cX7_hand 71 = .ok (.iload_n 1, 1) := by decide +kernel
theorem dX7_hand_72 : decode cX7_hand 72 = .ok (.invokevirtual 162, 3) := by decide +kernel
theorem dX7_hand_75 : decode cX7_hand 75 = .ok (.ireturn, 1) := by decide +kernel
theorem dX7_hand_76 : decode cX7_hand 76 = .ok (.aload_n 0, 1) := by decide +kernel
theorem dX7_hand_77 : decode cX7_hand 77 = .ok (.iload_n 1, 1) := by decide +kernel
theorem dX7_hand_78 : decode cX7_hand 78 = .ok (.invokevirtual 175, 3) := by decide +kernel
theorem dX7_hand_81 : decode cX7_hand 81 = .ok (.ireturn, 1) := by decide +kernel
theorem dX7_hand_82 : decode cX7_hand 82 = .ok (.iconst (-1), 1) := by decide +kernel
theorem dX7_hand_83 : decode cX7_hand 83 = .ok (.ireturn, 1) := by decide +kernel
theorem dX7_isRun_0 : decode cX7_isRun 0 = .ok (.aload_n 0, 1) := by decide +kernel
theorem dX7_isRun_1 : decode cX7_isRun 1 = .ok (.getfield 7, 3) := by decide +kernel
theorem dX7_isRun_4 : decode cX7_isRun 4 = .ok (.bipush 44, 2) := by decide +kernel
theorem dX7_isRun_6 : decode cX7_isRun 6 = .ok (.iaload, 1) := by decide +kernel
theorem dX7_isRun_7 : decode cX7_isRun 7 = .ok (.iload_n 1, 1) := by decide +kernel
theorem dX7_isRun_8 : decode cX7_isRun 8 = .ok (.ishr, 1) := by decide +kernel
theorem dX7_isRun_9 : decode cX7_isRun 9 = .ok (.iconst 1, 1) := by decide +kernel
theorem dX7_isRun_10 : decode cX7_isRun 10 = .ok (.iand, 1) := by decide +kernel
theorem dX7_isRun_11 : decode cX7_isRun 11 = .ok (.iconst 1, 1) := by decide +kernel
theorem dX7_isRun_12 : decode cX7_isRun 12 = .ok (.if_icmp .ne 7, 3) := by decide +kernel
theorem dX7_isRun_15 : decode cX7_isRun 15 = .ok (.iconst 1, 1) := by decide +kernel
theorem dX7_isRun_16 : decode cX7_isRun 16 = .ok (.goto 4, 3) := by decide +kernel
theorem dX7_isRun_19 : decode cX7_isRun 19 = .ok (.iconst 0, 1) := by decide +kernel
theorem dX7_isRun_20 : decode cX7_isRun 20 = .ok (.ireturn, 1) := by decide +kernel
theorem dX7_runsWith_0 : decode cX7_runsWith 0 = .ok (.iload_n 1, 1) := by decide +kernel
theorem dX7_runsWith_1 : decode cX7_runsWith 1 = .ok (.iconst 4, 1) := by decide +kernel
theorem dX7_runsWith_2 : decode cX7_runsWith 2 = .ok (.irem, 1) := by decide +kernel
theorem dX7_runsWith_3 : decode cX7_runsWith 3 = .ok (.ifCond .le 17, 3) := by decide +kernel
theorem dX7_runsWith_6 : decode cX7_runsWith 6 = .ok (.aload_n 0, 1) := by decide +kernel
theorem dX7_runsWith_7 : decode cX7_runsWith 7 = .ok (.iload_n 1, 1) := by decide +kernel
theorem dX7_runsWith_8 : decode cX7_runsWith 8 = .ok (.iconst 1, 1) := by decide +kernel
theorem dX7_runsWith_9 : decode cX7_runsWith 9 = .ok (.isub, 1) := by decide +kernel
theorem dX7_runsWith_10 : decode cX7_runsWith 10 = .ok (.invokevirtual 178, 3) := by decide +kernel
theorem dX7_runsWith_13 : decode cX7_runsWith 13 = .ok (.ifCond .eq 7, 3) := by decide +kernel
theorem dX7_runsWith_16 : decode cX7_runsWith 16 = .ok (.iload_n 1, 1) := by decide +kernel
theorem dX7_runsWith_17 : decode cX7_runsWith 17 = .ok (.iconst 1, 1) := by decide +kernel
theorem dX7_runsWith_18 : decode cX7_runsWith 18 = .ok (.isub, 1) := by decide +kernel
theorem dX7_runsWith_19 : decode cX7_runsWith 19 = .ok (.ireturn, 1) := by decide +kernel
theorem dX7_runsWith_20 : decode cX7_runsWith 20 = .ok (.aload_n 0, 1) := by decide +kernel
theorem dX7_runsWith_21 : decode cX7_runsWith 21 = .ok (.iload_n 1, 1) := by decide +kernel
theorem dX7_runsWith_22 : decode cX7_runsWith 22 = .ok (.invokevirtual 178, 3) := by decide +kernel
theorem dX7_runsWith_25 : decode cX7_runsWith 25 = .ok (.ifCond .eq 26, 3) := by decide +kernel
theorem dX7_runsWith_28 : decode cX7_runsWith 28 = .ok (.iload_n 1, 1) := by decide +kernel
theorem dX7_runsWith_29 : decode cX7_runsWith 29 = .ok (.iconst 4, 1) := by decide +kernel
theorem dX7_runsWith_30 : decode cX7_runsWith 30 = .ok (.irem, 1) := by decide +kernel
theorem dX7_runsWith_31 : decode cX7_runsWith 31 = .ok (.iconst 3, 1) := by decide +kernel
theorem dX7_runsWith_32 : decode cX7_runsWith 32 = .ok (.if_icmp .ge 19, 3) := by decide +kernel
theorem dX7_runsWith_35 : decode cX7_runsWith 35 = .ok (.aload_n 0, 1) := by decide +kernel
theorem dX7_runsWith_36 : decode cX7_runsWith 36 = .ok (.iload_n 1, 1) := by decide +kernel
theorem dX7_runsWith_37 : decode cX7_runsWith 37 = .ok (.iconst 1, 1) := by decide +kernel
theorem dX7_runsWith_38 : decode cX7_runsWith 38 = .ok (.iadd, 1) := by decide +kernel
theorem dX7_runsWith_39 : decode cX7_runsWith 39 = .ok (.invokevirtual 158, 3) := by decide +kernel
theorem dX7_runsWith_42 : decode cX7_runsWith 42 = .ok (.ifCond .eq 9, 3) := by decide +kernel
theorem dX7_runsWith_45 : decode cX7_runsWith 45 = .ok (.iload_n 1, 1) := by decide +kernel
theorem dX7_runsWith_46 : decode cX7_runsWith 46 = .ok (.iconst 1, 1) := by decide +kernel
theorem dX7_runsWith_47 : decode cX7_runsWith 47 = .ok (.iadd, 1) := by decide +kernel
theorem dX7_runsWith_48 : decode cX7_runsWith 48 = .ok (.goto 4, 3) := by decide +kernel
theorem dX7_runsWith_51 : decode cX7_runsWith 51 = .ok (.iload_n 1, 1) := by decide +kernel
theorem dX7_runsWith_52 : decode cX7_runsWith 52 = .ok (.ireturn, 1) := by decide +kernel
theorem dX7_shows_0 : decode cX7_shows 0 = .ok (.aload_n 0, 1) := by decide +kernel
theorem dX7_shows_1 : decode cX7_shows 1 = .ok (.iload_n 1, 1) := by decide +kernel
theorem dX7_shows_2 : decode cX7_shows 2 = .ok (.invokevirtual 172, 3) := by decide +kernel
theorem dX7_shows_5 : decode cX7_shows 5 = .ok (.istore_n 3, 1) := by decide +kernel
theorem dX7_shows_6 : decode cX7_shows 6 = .ok (.aload_n 0, 1) := by decide +kernel
theorem dX7_shows_7 : decode cX7_shows 7 = .ok (.getfield 7, 3) := by decide +kernel
theorem dX7_shows_10 : decode cX7_shows 10 = .ok (.bipush 8, 2) := by decide +kernel
theorem dX7_shows_12 : decode cX7_shows 12 = .ok (.bipush 8, 2) := by decide +kernel
theorem dX7_shows_14 : decode cX7_shows 14 = .ok (.iload_n 2, 1) := by decide +kernel
theorem dX7_shows_15 : decode cX7_shows 15 = .ok (.imul, 1) := by decide +kernel
theorem dX7_shows_16 : decode cX7_shows 16 = .ok (.iadd, 1) := by decide +kernel
theorem dX7_shows_17 : decode cX7_shows 17 = .ok (.iload_n 3, 1) := by decide +kernel
theorem dX7_shows_18 : decode cX7_shows 18 = .ok (.iadd, 1) := by decide +kernel
theorem dX7_shows_19 : decode cX7_shows 19 = .ok (.iaload, 1) := by decide +kernel
theorem dX7_shows_20 : decode cX7_shows 20 = .ok (.istore 4, 2) := by decide +kernel
theorem dX7_shows_22 : decode cX7_shows 22 = .ok (.aload_n 0, 1) := by decide +kernel
theorem dX7_shows_23 : decode cX7_shows 23 = .ok (.iload_n 1, 1) := by decide +kernel
theorem dX7_shows_24 : decode cX7_shows 24 = .ok (.invokevirtual 181, 3) := by decide +kernel
theorem dX7_shows_27 : decode cX7_shows 27 = .ok (.istore 5, 2) := by decide +kernel
theorem dX7_shows_29 : decode cX7_shows 29 = .ok (.iload 5, 2) := by decide +kernel
theorem dX7_shows_31 : decode cX7_shows 31 = .ok (.iload_n 1, 1) := by decide +kernel
theorem dX7_shows_32 : decode cX7_shows 32 = .ok (.if_icmp .eq 8, 3) := by decide +kernel
theorem dX7_shows_35 : decode cX7_shows 35 = .ok (.iload_n 2, 1) := by decide +kernel
theorem dX7_shows_36 : decode cX7_shows 36 = .ok (.iconst 2, 1) := by decide +kernel
theorem dX7_shows_37 : decode cX7_shows 37 = .ok (.if_icmp .ne 8, 3) := by decide +kernel
theorem dX7_shows_40 : decode cX7_shows 40 = .ok (.iload 4, 2) := by decide +kernel
theorem dX7_shows_42 : decode cX7_shows 42 = .ok (.goto 27, 3) := by decide +kernel
theorem dX7_shows_45 : decode cX7_shows 45 = .ok (.iload 4, 2) := by decide +kernel
theorem dX7_shows_47 : decode cX7_shows 47 = .ok (.aload_n 0, 1) := by decide +kernel
theorem dX7_shows_48 : decode cX7_shows 48 = .ok (.getfield 7, 3) := by decide +kernel
theorem dX7_shows_51 : decode cX7_shows 51 = .ok (.bipush 8, 2) := by decide +kernel
theorem dX7_shows_53 : decode cX7_shows 53 = .ok (.bipush 8, 2) := by decide +kernel
theorem dX7_shows_55 : decode cX7_shows 55 = .ok (.iload_n 2, 1) := by decide +kernel
theorem dX7_shows_56 : decode cX7_shows 56 = .ok (.imul, 1) := by decide +kernel
theorem dX7_shows_57 : decode cX7_shows 57 = .ok (.iadd, 1) := by decide +kernel
theorem dX7_shows_58 : decode cX7_shows 58 = .ok (.aload_n 0, 1) := by decide +kernel
theorem dX7_shows_59 : decode cX7_shows 59 = .ok (.iload 5, 2) := by decide +kernel
theorem dX7_shows_61 : decode cX7_shows 61 = .ok (.invokevirtual 172, 3) := by decide +kernel
theorem dX7_shows_64 : decode cX7_shows 64 = .ok (.iadd, 1) := by decide +kernel
theorem dX7_shows_65 : decode cX7_shows 65 = .ok (.iaload, 1) := by decide +kernel
theorem dX7_shows_66 : decode cX7_shows 66 = .ok (.iadd, 1) := by decide +kernel
theorem dX7_shows_67 : decode cX7_shows 67 = .ok (.iconst 2, 1) := by decide +kernel
theorem dX7_shows_68 : decode cX7_shows 68 = .ok (.idiv, 1) := by decide +kernel
theorem dX7_shows_69 : decode cX7_shows 69 = .ok (.ireturn, 1) := by decide +kernel
theorem dX7_page_0 : decode cX7_page 0 = .ok (.aload_n 0, 1) := by decide +kernel
theorem dX7_page_1 : decode cX7_page 1 = .ok (.iload_n 1, 1) := by decide +kernel
theorem dX7_page_2 : decode cX7_page 2 = .ok (.invokevirtual 158, 3) := by decide +kernel
theorem dX7_page_5 : decode cX7_page 5 = .ok (.ifCond .eq 24, 3) := by decide +kernel
theorem dX7_page_8 : decode cX7_page 8 = .ok (.iload_n 2, 1) := by decide +kernel
theorem dX7_page_9 : decode cX7_page 9 = .ok (.i2l, 1) := by decide +kernel
theorem dX7_page_10 : decode cX7_page 10 = .ok (.lconst 0, 1) := by decide +kernel
theorem dX7_page_11 : decode cX7_page 11 = .ok (.ldc2_w 184, 3) := by decide +kernel
theorem dX7_page_14 : decode cX7_page 14 = .ok (.invokestatic 58, 3) := by decide +kernel
theorem dX7_page_17 : decode cX7_page 17 = .ok (.ifCond .eq 12, 3) := by decide +kernel
theorem dX7_page_20 : decode cX7_page 20 = .ok (.aload_n 0, 1) := by decide +kernel
theorem dX7_page_21 : decode cX7_page 21 = .ok (.iload_n 1, 1) := by decide +kernel
theorem dX7_page_22 : decode cX7_page 22 = .ok (.iload_n 2, 1) := by decide +kernel
theorem dX7_page_23 : decode cX7_page 23 = .ok (.invokevirtual 186, 3) := by decide +kernel
theorem dX7_page_26 : decode cX7_page 26 = .ok (.goto 4, 3) := by decide +kernel
theorem dX7_page_29 : decode cX7_page 29 = .ok (.iconst (-1), 1) := by decide +kernel
theorem dX7_page_30 : decode cX7_page 30 = .ok (.ireturn, 1) := by decide +kernel
theorem dX7_far_0 : decode cX7_far 0 = .ok (.iload_n 0, 1) := by decide +kernel
theorem dX7_far_1 : decode cX7_far 1 = .ok (.iload_n 1, 1) := by decide +kernel
theorem dX7_far_2 : decode cX7_far 2 = .ok (.if_icmp .le 9, 3) := by decide +kernel
theorem dX7_far_5 : decode cX7_far 5 = .ok (.iload_n 0, 1) := by decide +kernel
theorem dX7_far_6 : decode cX7_far 6 = .ok (.iload_n 1, 1) := by decide +kernel
theorem dX7_far_7 : decode cX7_far 7 = .ok (.isub, 1) := by decide +kernel
theorem dX7_far_8 : decode cX7_far 8 = .ok (.goto 6, 3) := by decide +kernel
theorem dX7_far_11 : decode cX7_far 11 = .ok (.iload_n 1, 1) := by decide +kernel
theorem dX7_far_12 : decode cX7_far 12 = .ok (.iload_n 0, 1) := by decide +kernel
theorem dX7_far_13 : decode cX7_far 13 = .ok (.isub, 1) := by decide +kernel
theorem dX7_far_14 : decode cX7_far 14 = .ok (.ireturn, 1) := by decide +kernel
theorem dX7_likesOf_0 : decode cX7_likesOf 0 = .ok (.aload_n 0, 1) := by decide +kernel
theorem dX7_likesOf_1 : decode cX7_likesOf 1 = .ok (.iload_n 2, 1) := by decide +kernel
theorem dX7_likesOf_2 : decode cX7_likesOf 2 = .ok (.iconst 0, 1) := by decide +kernel
theorem dX7_likesOf_3 : decode cX7_likesOf 3 = .ok (.invokevirtual 186, 3) := by decide +kernel
theorem dX7_likesOf_6 : decode cX7_likesOf 6 = .ok (.istore_n 3, 1) := by decide +kernel
theorem dX7_likesOf_7 : decode cX7_likesOf 7 = .ok (.aload_n 0, 1) := by decide +kernel
theorem dX7_likesOf_8 : decode cX7_likesOf 8 = .ok (.iload_n 2, 1) := by decide +kernel
theorem dX7_likesOf_9 : decode cX7_likesOf 9 = .ok (.iconst 1, 1) := by decide +kernel
theorem dX7_likesOf_10 : decode cX7_likesOf 10 = .ok (.invokevirtual 186, 3) := by decide +kernel
theorem dX7_likesOf_13 : decode cX7_likesOf 13 = .ok (.istore 4, 2) := by decide +kernel
theorem dX7_likesOf_15 : decode cX7_likesOf 15 = .ok (.bipush 20, 2) := by decide +kernel
theorem dX7_likesOf_17 : decode cX7_likesOf 17 = .ok (.iload_n 3, 1) := by decide +kernel
theorem dX7_likesOf_18 : decode cX7_likesOf 18 = .ok (.aload_n 0, 1) := by decide +kernel
theorem dX7_likesOf_19 : decode cX7_likesOf 19 = .ok (.getfield 7, 3) := by decide +kernel
theorem dX7_likesOf_22 : decode cX7_likesOf 22 = .ok (.bipush 8, 2) := by decide +kernel
theorem dX7_likesOf_24 : decode cX7_likesOf 24 = .ok (.iload_n 1, 1) := by decide +kernel
theorem dX7_likesOf_25 : decode cX7_likesOf 25 = .ok (.iadd, 1) := by decide +kernel
theorem dX7_likesOf_26 : decode cX7_likesOf 26 = .ok (.iaload, 1) := by decide +kernel
theorem dX7_likesOf_27 : decode cX7_likesOf 27 = .ok (.invokestatic 189, 3) := by decide +kernel
theorem dX7_likesOf_30 : decode cX7_likesOf 30 = .ok (.isub, 1) := by decide +kernel
theorem dX7_likesOf_31 : decode cX7_likesOf 31 = .ok (.iload 4, 2) := by decide +kernel
theorem dX7_likesOf_33 : decode cX7_likesOf 33 = .ok (.aload_n 0, 1) := by decide +kernel
theorem dX7_likesOf_34 : decode cX7_likesOf 34 = .ok (.getfield 7, 3) := by decide +kernel
theorem dX7_likesOf_37 : decode cX7_likesOf 37 = .ok (.bipush 16, 2) := by decide +kernel
theorem dX7_likesOf_39 : decode cX7_likesOf 39 = .ok (.iload_n 1, 1) := by decide +kernel
theorem dX7_likesOf_40 : decode cX7_likesOf 40 = .ok (.iadd, 1) := by decide +kernel
theorem dX7_likesOf_41 : decode cX7_likesOf 41 = .ok (.iaload, 1) := by decide +kernel
theorem dX7_likesOf_42 : decode cX7_likesOf 42 = .ok (.invokestatic 189, 3) := by decide +kernel
theorem dX7_likesOf_45 : decode cX7_likesOf 45 = .ok (.isub, 1) := by decide +kernel
theorem dX7_likesOf_46 : decode cX7_likesOf 46 = .ok (.istore 5, 2) := by decide +kernel
theorem dX7_likesOf_48 : decode cX7_likesOf 48 = .ok (.aload_n 0, 1) := by decide +kernel
theorem dX7_likesOf_49 : decode cX7_likesOf 49 = .ok (.getfield 7, 3) := by decide +kernel
theorem dX7_likesOf_52 : decode cX7_likesOf 52 = .ok (.iload_n 1, 1) := by decide +kernel
theorem dX7_likesOf_53 : decode cX7_likesOf 53 = .ok (.iaload, 1) := by decide +kernel
theorem dX7_likesOf_54 : decode cX7_likesOf 54 = .ok (.tableswitch 62 0 2 #[26, 29, 57], 26) := by decide +kernel
theorem dX7_likesOf_80 : decode cX7_likesOf 80 = .ok (.iload 5, 2) := by decide +kernel
theorem dX7_likesOf_82 : decode cX7_likesOf 82 = .ok (.ireturn, 1) := by decide +kernel
theorem dX7_likesOf_83 : decode cX7_likesOf 83 = .ok (.aload_n 0, 1) := by decide +kernel
theorem dX7_likesOf_84 : decode cX7_likesOf 84 = .ok (.iload_n 2, 1) := by decide +kernel
theorem dX7_likesOf_85 : decode cX7_likesOf 85 = .ok (.iconst 2, 1) := by decide +kernel
theorem dX7_likesOf_86 : decode cX7_likesOf 86 = .ok (.invokevirtual 186, 3) := by decide +kernel
theorem dX7_likesOf_89 : decode cX7_likesOf 89 = .ok (.aload_n 0, 1) := by decide +kernel
theorem dX7_likesOf_90 : decode cX7_likesOf 90 = .ok (.getfield 7, 3) := by decide +kernel
theorem dX7_likesOf_93 : decode cX7_likesOf 93 = .ok (.bipush 24, 2) := by decide +kernel
theorem dX7_likesOf_95 : decode cX7_likesOf 95 = .ok (.iload_n 1, 1) := by decide +kernel
theorem dX7_likesOf_96 : decode cX7_likesOf 96 = .ok (.iadd, 1) := by decide +kernel
theorem dX7_likesOf_97 : decode cX7_likesOf 97 = .ok (.iaload, 1) := by decide +kernel
theorem dX7_likesOf_98 : decode cX7_likesOf 98 = .ok (.if_icmp .ne 10, 3) := by decide +kernel
theorem dX7_likesOf_101 : decode cX7_likesOf 101 = .ok (.iload 5, 2) := by decide +kernel
theorem dX7_likesOf_103 : decode cX7_likesOf 103 = .ok (.iconst 3, 1) := by decide +kernel
theorem dX7_likesOf_104 : decode cX7_likesOf 104 = .ok (.iadd, 1) := by decide +kernel
theorem dX7_likesOf_105 : decode cX7_likesOf 105 = .ok (.goto 5, 3) := by decide +kernel
theorem dX7_likesOf_108 : decode cX7_likesOf 108 = .ok (.iload 5, 2) := by decide +kernel
theorem dX7_likesOf_110 : decode cX7_likesOf 110 = .ok (.ireturn, 1) := by decide +kernel
theorem dX7_likesOf_111 : decode cX7_likesOf 111 = .ok (.iload_n 3, 1) := by decide +kernel
theorem dX7_likesOf_112 : decode cX7_likesOf 112 = .ok (.iload 4, 2) := by decide +kernel
theorem dX7_likesOf_114 : decode cX7_likesOf 114 = .ok (.iadd, 1) := by decide +kernel
theorem dX7_likesOf_115 : decode cX7_likesOf 115 = .ok (.ireturn, 1) := by decide +kernel
theorem dX7_likesOf_116 : decode cX7_likesOf 116 = .ok (.bipush 20, 2) := by decide +kernel
theorem dX7_likesOf_118 : decode cX7_likesOf 118 = .ok (.iload_n 3, 1) := by decide +kernel
theorem dX7_likesOf_119 : decode cX7_likesOf 119 = .ok (.isub, 1) := by decide +kernel
theorem dX7_likesOf_120 : decode cX7_likesOf 120 = .ok (.iload 4, 2) := by decide +kernel
theorem dX7_likesOf_122 : decode cX7_likesOf 122 = .ok (.isub, 1) := by decide +kernel
theorem dX7_likesOf_123 : decode cX7_likesOf 123 = .ok (.ireturn, 1) := by decide +kernel
theorem dX7_likes_0 : decode cX7_likes 0 = .ok (.aload_n 0, 1) := by decide +kernel
theorem dX7_likes_1 : decode cX7_likes 1 = .ok (.iload_n 1, 1) := by decide +kernel
theorem dX7_likes_2 : decode cX7_likes 2 = .ok (.invokevirtual 158, 3) := by decide +kernel
theorem dX7_likes_5 : decode cX7_likes 5 = .ok (.ifCond .eq 29, 3) := by decide +kernel
theorem dX7_likes_8 : decode cX7_likes 8 = .ok (.aload_n 0, 1) := by decide +kernel
theorem dX7_likes_9 : decode cX7_likes 9 = .ok (.iload_n 2, 1) := by decide +kernel
theorem dX7_likes_10 : decode cX7_likes 10 = .ok (.invokevirtual 158, 3) := by decide +kernel
theorem dX7_likes_13 : decode cX7_likes 13 = .ok (.ifCond .eq 21, 3) := by decide +kernel
theorem dX7_likes_16 : decode cX7_likes 16 = .ok (.iload_n 1, 1) := by decide +kernel
theorem dX7_likes_17 : decode cX7_likes 17 = .ok (.iconst 4, 1) := by decide +kernel
theorem dX7_likes_18 : decode cX7_likes 18 = .ok (.idiv, 1) := by decide +kernel
theorem dX7_likes_19 : decode cX7_likes 19 = .ok (.iload_n 2, 1) := by decide +kernel
theorem dX7_likes_20 : decode cX7_likes 20 = .ok (.iconst 4, 1) := by decide +kernel
theorem dX7_likes_21 : decode cX7_likes 21 = .ok (.idiv, 1) := by decide +kernel
theorem dX7_likes_22 : decode cX7_likes 22 = .ok (.if_icmp .eq 12, 3) := by decide +kernel
theorem dX7_likes_25 : decode cX7_likes 25 = .ok (.aload_n 0, 1) := by decide +kernel
theorem dX7_likes_26 : decode cX7_likes 26 = .ok (.iload_n 1, 1) := by decide +kernel
theorem dX7_likes_27 : decode cX7_likes 27 = .ok (.iload_n 2, 1) := by decide +kernel
theorem dX7_likes_28 : decode cX7_likes 28 = .ok (.invokevirtual 192, 3) := by decide +kernel
theorem dX7_likes_31 : decode cX7_likes 31 = .ok (.goto 4, 3) := by decide +kernel
theorem dX7_likes_34 : decode cX7_likes 34 = .ok (.iconst (-1), 1) := by decide +kernel
theorem dX7_likes_35 : decode cX7_likes 35 = .ok (.ireturn, 1) := by decide +kernel
theorem dX7_laysTable_0 : decode cX7_laysTable 0 = .ok (.iconst 0, 1) := by decide +kernel
theorem dX7_laysTable_1 : decode cX7_laysTable 1 = .ok (.istore_n 2, 1) := by decide +kernel
theorem dX7_laysTable_2 : decode cX7_laysTable 2 = .ok (.iload_n 2, 1) := by decide +kernel
theorem dX7_laysTable_3 : decode cX7_laysTable 3 = .ok (.bipush 8, 2) := by decide +kernel
theorem dX7_laysTable_5 : decode cX7_laysTable 5 = .ok (.if_icmp .ge 106, 3) := by decide +kernel
theorem dX7_laysTable_8 : decode cX7_laysTable 8 = .ok (.iconst 0, 1) := by decide +kernel
theorem dX7_laysTable_9 : decode cX7_laysTable 9 = .ok (.istore_n 3, 1) := by decide +kernel
theorem dX7_laysTable_10 : decode cX7_laysTable 10 = .ok (.iload_n 3, 1) := by decide +kernel
theorem dX7_laysTable_11 : decode cX7_laysTable 11 = .ok (.bipush 8, 2) := by decide +kernel
theorem dX7_laysTable_13 : decode cX7_laysTable 13 = .ok (.if_icmp .ge 92, 3) := by decide +kernel
theorem dX7_laysTable_16 : decode cX7_laysTable 16 = .ok (.aload_n 0, 1) := by decide +kernel
theorem dX7_laysTable_17 : decode cX7_laysTable 17 = .ok (.iload_n 2, 1) := by decide +kernel
theorem dX7_laysTable_18 : decode cX7_laysTable 18 = .ok (.invokevirtual 158, 3) := by decide +kernel
theorem dX7_laysTable_21 : decode cX7_laysTable 21 = .ok (.ifCond .eq 49, 3) := by decide +kernel
theorem dX7_laysTable_24 : decode cX7_laysTable 24 = .ok (.aload_n 0, 1) := by decide +kernel
theorem dX7_laysTable_25 : decode cX7_laysTable 25 = .ok (.iload_n 3, 1) := by decide +kernel
theorem dX7_laysTable_26 : decode cX7_laysTable 26 = .ok (.invokevirtual 158, 3) := by decide +kernel
theorem dX7_laysTable_29 : decode cX7_laysTable 29 = .ok (.ifCond .eq 41, 3) := by decide +kernel
theorem dX7_laysTable_32 : decode cX7_laysTable 32 = .ok (.iload_n 2, 1) := by decide +kernel
theorem dX7_laysTable_33 : decode cX7_laysTable 33 = .ok (.iconst 4, 1) := by decide +kernel
theorem dX7_laysTable_34 : decode cX7_laysTable 34 = .ok (.idiv, 1) := by decide +kernel
theorem dX7_laysTable_35 : decode cX7_laysTable 35 = .ok (.iload_n 3, 1) := by decide +kernel
theorem dX7_laysTable_36 : decode cX7_laysTable 36 = .ok (.iconst 4, 1) := by decide +kernel
theorem dX7_laysTable_37 : decode cX7_laysTable 37 = .ok (.idiv, 1) := by decide +kernel
theorem dX7_laysTable_38 : decode cX7_laysTable 38 = .ok (.if_icmp .eq 32, 3) := by decide +kernel
theorem dX7_laysTable_41 : decode cX7_laysTable 41 = .ok (.iload_n 1, 1) := by decide +kernel
theorem dX7_laysTable_42 : decode cX7_laysTable 42 = .ok (.iload_n 2, 1) := by decide +kernel
theorem dX7_laysTable_43 : decode cX7_laysTable 43 = .ok (.ishr, 1) := by decide +kernel
theorem dX7_laysTable_44 : decode cX7_laysTable 44 = .ok (.iconst 1, 1) := by decide +kernel
theorem dX7_laysTable_45 : decode cX7_laysTable 45 = .ok (.iand, 1) := by decide +kernel
theorem dX7_laysTable_46 : decode cX7_laysTable 46 = .ok (.ifCond .ne 24, 3) := by decide +kernel
theorem dX7_laysTable_49 : decode cX7_laysTable 49 = .ok (.iload_n 1, 1) := by decide +kernel
theorem dX7_laysTable_50 : decode cX7_laysTable 50 = .ok (.iload_n 3, 1) := by decide +kernel
theorem dX7_laysTable_51 : decode cX7_laysTable 51 = .ok (.ishr, 1) := by decide +kernel
theorem dX7_laysTable_52 : decode cX7_laysTable 52 = .ok (.iconst 1, 1) := by decide +kernel
theorem dX7_laysTable_53 : decode cX7_laysTable 53 = .ok (.iand, 1) := by decide +kernel
theorem dX7_laysTable_54 : decode cX7_laysTable 54 = .ok (.ifCond .ne 16, 3) := by decide +kernel
theorem dX7_laysTable_57 : decode cX7_laysTable 57 = .ok (.aload_n 0, 1) := by decide +kernel
theorem dX7_laysTable_58 : decode cX7_laysTable 58 = .ok (.iload_n 2, 1) := by decide +kernel
theorem dX7_laysTable_59 : decode cX7_laysTable 59 = .ok (.iload_n 3, 1) := by decide +kernel
theorem dX7_laysTable_60 : decode cX7_laysTable 60 = .ok (.invokevirtual 168, 3) := by decide +kernel
theorem dX7_laysTable_63 : decode cX7_laysTable 63 = .ok (.ifCond .ne 7, 3) := by decide +kernel
theorem dX7_laysTable_66 : decode cX7_laysTable 66 = .ok (.iconst 1, 1) := by decide +kernel
theorem dX7_laysTable_67 : decode cX7_laysTable 67 = .ok (.goto 4, 3) := by decide +kernel
theorem dX7_laysTable_70 : decode cX7_laysTable 70 = .ok (.iconst 0, 1) := by decide +kernel
theorem dX7_laysTable_71 : decode cX7_laysTable 71 = .ok (.istore 4, 2) := by decide +kernel
theorem dX7_laysTable_73 : decode cX7_laysTable 73 = .ok (.aload_n 0, 1) := by decide +kernel
theorem dX7_laysTable_74 : decode cX7_laysTable 74 = .ok (.getfield 25, 3) := by decide +kernel
theorem dX7_laysTable_77 : decode cX7_laysTable 77 = .ok (.bipush 8, 2) := by decide +kernel
theorem dX7_laysTable_79 : decode cX7_laysTable 79 = .ok (.iload_n 2, 1) := by decide +kernel
theorem dX7_laysTable_80 : decode cX7_laysTable 80 = .ok (.imul, 1) := by decide +kernel
theorem dX7_laysTable_81 : decode cX7_laysTable 81 = .ok (.iload_n 3, 1) := by decide +kernel
theorem dX7_laysTable_82 : decode cX7_laysTable 82 = .ok (.iadd, 1) := by decide +kernel
theorem dX7_laysTable_83 : decode cX7_laysTable 83 = .ok (.iload 4, 2) := by decide +kernel
theorem dX7_laysTable_85 : decode cX7_laysTable 85 = .ok (.ifCond .eq 12, 3) := by decide +kernel
theorem dX7_laysTable_88 : decode cX7_laysTable 88 = .ok (.aload_n 0, 1) := by decide +kernel
theorem dX7_laysTable_89 : decode cX7_laysTable 89 = .ok (.iload_n 2, 1) := by decide +kernel
theorem dX7_laysTable_90 : decode cX7_laysTable 90 = .ok (.iload_n 3, 1) := by decide +kernel
theorem dX7_laysTable_91 : decode cX7_laysTable 91 = .ok (.invokevirtual 192, 3) := by decide +kernel
theorem dX7_laysTable_94 : decode cX7_laysTable 94 = .ok (.goto 4, 3) := by decide +kernel
theorem dX7_laysTable_97 : decode cX7_laysTable 97 = .ok (.iconst (-1), 1) := by decide +kernel
theorem dX7_laysTable_98 : decode cX7_laysTable 98 = .ok (.iastore, 1) := by decide +kernel
theorem dX7_laysTable_99 : decode cX7_laysTable 99 = .ok (.iinc 3 1, 3) := by decide +kernel
theorem dX7_laysTable_102 : decode cX7_laysTable 102 = .ok (.goto (-92), 3) := by decide +kernel
theorem dX7_laysTable_105 : decode cX7_laysTable 105 = .ok (.iinc 2 1, 3) := by decide +kernel
theorem dX7_laysTable_108 : decode cX7_laysTable 108 = .ok (.goto (-106), 3) := by decide +kernel
theorem dX7_laysTable_111 : decode cX7_laysTable 111 = .ok (.return_, 1) := by decide +kernel
theorem dX7_isRather_0 : decode cX7_isRather 0 = .ok (.aload_n 0, 1) := by decide +kernel
theorem dX7_isRather_1 : decode cX7_isRather 1 = .ok (.getfield 25, 3) := by decide +kernel
theorem dX7_isRather_4 : decode cX7_isRather 4 = .ok (.bipush 8, 2) := by decide +kernel
theorem dX7_isRather_6 : decode cX7_isRather 6 = .ok (.iload_n 1, 1) := by decide +kernel
theorem dX7_isRather_7 : decode cX7_isRather 7 = .ok (.imul, 1) := by decide +kernel
theorem dX7_isRather_8 : decode cX7_isRather 8 = .ok (.iload_n 2, 1) := by decide +kernel
theorem dX7_isRather_9 : decode cX7_isRather 9 = .ok (.iadd, 1) := by decide +kernel
theorem dX7_isRather_10 : decode cX7_isRather 10 = .ok (.iaload, 1) := by decide +kernel
theorem dX7_isRather_11 : decode cX7_isRather 11 = .ok (.istore 4, 2) := by decide +kernel
theorem dX7_isRather_13 : decode cX7_isRather 13 = .ok (.iload 4, 2) := by decide +kernel
theorem dX7_isRather_15 : decode cX7_isRather 15 = .ok (.ifCond .ge 5, 3) := by decide +kernel
theorem dX7_isRather_18 : decode cX7_isRather 18 = .ok (.iconst 0, 1) := by decide +kernel
theorem dX7_isRather_19 : decode cX7_isRather 19 = .ok (.ireturn, 1) := by decide +kernel
theorem dX7_isRather_20 : decode cX7_isRather 20 = .ok (.iload_n 3, 1) := by decide +kernel
theorem dX7_isRather_21 : decode cX7_isRather 21 = .ok (.bipush (-4), 2) := by decide +kernel
theorem dX7_isRather_23 : decode cX7_isRather 23 = .ok (.if_icmp .ne 7, 3) := by decide +kernel
theorem dX7_isRather_26 : decode cX7_isRather 26 = .ok (.iconst (-1), 1) := by decide +kernel
theorem dX7_isRather_27 : decode cX7_isRather 27 = .ok (.goto 14, 3) := by decide +kernel
theorem dX7_isRather_30 : decode cX7_isRather 30 = .ok (.aload_n 0, 1) := by decide +kernel
theorem dX7_isRather_31 : decode cX7_isRather 31 = .ok (.getfield 25, 3) := by decide +kernel
theorem dX7_isRather_34 : decode cX7_isRather 34 = .ok (.bipush 8, 2) := by decide +kernel
theorem dX7_isRather_36 : decode cX7_isRather 36 = .ok (.iload_n 1, 1) := by decide +kernel
theorem dX7_isRather_37 : decode cX7_isRather 37 = .ok (.imul, 1) := by decide +kernel
theorem dX7_isRather_38 : decode cX7_isRather 38 = .ok (.iload_n 3, 1) := by decide +kernel
theorem dX7_isRather_39 : decode cX7_isRather 39 = .ok (.iadd, 1) := by decide +kernel
theorem dX7_isRather_40 : decode cX7_isRather 40 = .ok (.iaload, 1) := by decide +kernel
theorem dX7_isRather_41 : decode cX7_isRather 41 = .ok (.istore 5, 2) := by decide +kernel
theorem dX7_isRather_43 : decode cX7_isRather 43 = .ok (.iload 4, 2) := by decide +kernel
theorem dX7_isRather_45 : decode cX7_isRather 45 = .ok (.iload 5, 2) := by decide +kernel
theorem dX7_isRather_47 : decode cX7_isRather 47 = .ok (.if_icmp .gt 15, 3) := by decide +kernel
theorem dX7_isRather_50 : decode cX7_isRather 50 = .ok (.iload 4, 2) := by decide +kernel
theorem dX7_isRather_52 : decode cX7_isRather 52 = .ok (.iload 5, 2) := by decide +kernel
theorem dX7_isRather_54 : decode cX7_isRather 54 = .ok (.if_icmp .ne 12, 3) := by decide +kernel
theorem dX7_isRather_57 : decode cX7_isRather 57 = .ok (.iload_n 2, 1) := by decide +kernel
theorem dX7_isRather_58 : decode cX7_isRather 58 = .ok (.iload_n 3, 1) := by decide +kernel
theorem dX7_isRather_59 : decode cX7_isRather 59 = .ok (.if_icmp .ge 7, 3) := by decide +kernel
theorem dX7_isRather_62 : decode cX7_isRather 62 = .ok (.iconst 1, 1) := by decide +kernel
theorem dX7_isRather_63 : decode cX7_isRather 63 = .ok (.goto 4, 3) := by decide +kernel
theorem dX7_isRather_66 : decode cX7_isRather 66 = .ok (.iconst 0, 1) := by decide +kernel
theorem dX7_isRather_67 : decode cX7_isRather 67 = .ok (.ireturn, 1) := by decide +kernel
theorem dX7_rather_0 : decode cX7_rather 0 = .ok (.aload_n 0, 1) := by decide +kernel
theorem dX7_rather_1 : decode cX7_rather 1 = .ok (.iload_n 1, 1) := by decide +kernel
theorem dX7_rather_2 : decode cX7_rather 2 = .ok (.invokevirtual 158, 3) := by decide +kernel
theorem dX7_rather_5 : decode cX7_rather 5 = .ok (.ifCond .eq 7, 3) := by decide +kernel
theorem dX7_rather_8 : decode cX7_rather 8 = .ok (.iload_n 2, 1) := by decide +kernel
theorem dX7_rather_9 : decode cX7_rather 9 = .ok (.ifCond .ge 5, 3) := by decide +kernel
theorem dX7_rather_12 : decode cX7_rather 12 = .ok (.iconst (-1), 1) := by decide +kernel
theorem dX7_rather_13 : decode cX7_rather 13 = .ok (.ireturn, 1) := by decide +kernel
theorem dX7_rather_14 : decode cX7_rather 14 = .ok (.aload_n 0, 1) := by decide +kernel
theorem dX7_rather_15 : decode cX7_rather 15 = .ok (.iconst 0, 1) := by decide +kernel
theorem dX7_rather_16 : decode cX7_rather 16 = .ok (.invokevirtual 195, 3) := by decide +kernel
theorem dX7_rather_19 : decode cX7_rather 19 = .ok (.iconst 0, 1) := by decide +kernel
theorem dX7_rather_20 : decode cX7_rather 20 = .ok (.istore_n 3, 1) := by decide +kernel
theorem dX7_rather_21 : decode cX7_rather 21 = .ok (.iload_n 3, 1) := by decide +kernel
theorem dX7_rather_22 : decode cX7_rather 22 = .ok (.bipush 8, 2) := by decide +kernel
theorem dX7_rather_24 : decode cX7_rather 24 = .ok (.if_icmp .ge 77, 3) := by decide +kernel
theorem dX7_rather_27 : decode cX7_rather 27 = .ok (.iconst 0, 1) := by decide +kernel
theorem dX7_rather_28 : decode cX7_rather 28 = .ok (.istore 4, 2) := by decide +kernel
theorem dX7_rather_30 : decode cX7_rather 30 = .ok (.iconst 0, 1) := by decide +kernel
theorem dX7_rather_31 : decode cX7_rather 31 = .ok (.istore 5, 2) := by decide +kernel
theorem dX7_rather_33 : decode cX7_rather 33 = .ok (.iload 5, 2) := by decide +kernel
theorem dX7_rather_35 : decode cX7_rather 35 = .ok (.bipush 8, 2) := by decide +kernel
theorem dX7_rather_37 : decode cX7_rather 37 = .ok (.if_icmp .ge 36, 3) := by decide +kernel
theorem dX7_rather_40 : decode cX7_rather 40 = .ok (.iload 4, 2) := by decide +kernel
theorem dX7_rather_42 : decode cX7_rather 42 = .ok (.iload 5, 2) := by decide +kernel
theorem dX7_rather_44 : decode cX7_rather 44 = .ok (.iload_n 3, 1) := by decide +kernel
theorem dX7_rather_45 : decode cX7_rather 45 = .ok (.if_icmp .eq 18, 3) := by decide +kernel
theorem dX7_rather_48 : decode cX7_rather 48 = .ok (.aload_n 0, 1) := by decide +kernel
theorem dX7_rather_49 : decode cX7_rather 49 = .ok (.iload_n 1, 1) := by decide +kernel
theorem dX7_rather_50 : decode cX7_rather 50 = .ok (.iload 5, 2) := by decide +kernel
theorem dX7_rather_52 : decode cX7_rather 52 = .ok (.iload_n 3, 1) := by decide +kernel
theorem dX7_rather_53 : decode cX7_rather 53 = .ok (.invokevirtual 198, 3) := by decide +kernel
theorem dX7_rather_56 : decode cX7_rather 56 = .ok (.ifCond .eq 7, 3) := by decide +kernel
theorem dX7_rather_59 : decode cX7_rather 59 = .ok (.iconst 1, 1) := by decide +kernel
theorem dX7_rather_60 : decode cX7_rather 60 = .ok (.goto 4, 3) := by decide +kernel
theorem dX7_rather_63 : decode cX7_rather 63 = .ok (.iconst 0, 1) := by decide +kernel
theorem dX7_rather_64 : decode cX7_rather 64 = .ok (.iadd, 1) := by decide +kernel
theorem dX7_rather_65 : decode cX7_rather 65 = .ok (.istore 4, 2) := by decide +kernel
theorem dX7_rather_67 : decode cX7_rather 67 = .ok (.iinc 5 1, 3) := by decide +kernel
theorem dX7_rather_70 : decode cX7_rather 70 = .ok (.goto (-37), 3) := by decide +kernel
theorem dX7_rather_73 : decode cX7_rather 73 = .ok (.aload_n 0, 1) := by decide +kernel
theorem dX7_rather_74 : decode cX7_rather 74 = .ok (.getfield 25, 3) := by decide +kernel
theorem dX7_rather_77 : decode cX7_rather 77 = .ok (.bipush 8, 2) := by decide +kernel
theorem dX7_rather_79 : decode cX7_rather 79 = .ok (.iload_n 1, 1) := by decide +kernel
theorem dX7_rather_80 : decode cX7_rather 80 = .ok (.imul, 1) := by decide +kernel
theorem dX7_rather_81 : decode cX7_rather 81 = .ok (.iload_n 3, 1) := by decide +kernel
theorem dX7_rather_82 : decode cX7_rather 82 = .ok (.iadd, 1) := by decide +kernel
theorem dX7_rather_83 : decode cX7_rather 83 = .ok (.iaload, 1) := by decide +kernel
theorem dX7_rather_84 : decode cX7_rather 84 = .ok (.ifCond .lt 11, 3) := by decide +kernel
theorem dX7_rather_87 : decode cX7_rather 87 = .ok (.iload 4, 2) := by decide +kernel
theorem dX7_rather_89 : decode cX7_rather 89 = .ok (.iload_n 2, 1) := by decide +kernel
theorem dX7_rather_90 : decode cX7_rather 90 = .ok (.if_icmp .ne 5, 3) := by decide +kernel
theorem dX7_rather_93 : decode cX7_rather 93 = .ok (.iload_n 3, 1) := by decide +kernel
theorem dX7_rather_94 : decode cX7_rather 94 = .ok (.ireturn, 1) := by decide +kernel
theorem dX7_rather_95 : decode cX7_rather 95 = .ok (.iinc 3 1, 3) := by decide +kernel
theorem dX7_rather_98 : decode cX7_rather 98 = .ok (.goto (-77), 3) := by decide +kernel
theorem dX7_rather_101 : decode cX7_rather 101 = .ok (.bipush (-4), 2) := by decide +kernel
theorem dX7_rather_103 : decode cX7_rather 103 = .ok (.ireturn, 1) := by decide +kernel
theorem dX7_puts_0 : decode cX7_puts 0 = .ok (.iload_n 1, 1) := by decide +kernel
theorem dX7_puts_1 : decode cX7_puts 1 = .ok (.ifCond .ne 5, 3) := by decide +kernel
theorem dX7_puts_4 : decode cX7_puts 4 = .ok (.iconst (-1), 1) := by decide +kernel
theorem dX7_puts_5 : decode cX7_puts 5 = .ok (.ireturn, 1) := by decide +kernel
theorem dX7_puts_6 : decode cX7_puts 6 = .ok (.aload_n 0, 1) := by decide +kernel
theorem dX7_puts_7 : decode cX7_puts 7 = .ok (.getfield 7, 3) := by decide +kernel
theorem dX7_puts_10 : decode cX7_puts 10 = .ok (.iload_n 2, 1) := by decide +kernel
theorem dX7_puts_11 : decode cX7_puts 11 = .ok (.iaload, 1) := by decide +kernel
theorem dX7_puts_12 : decode cX7_puts 12 = .ok (.iload 4, 2) := by decide +kernel
theorem dX7_puts_14 : decode cX7_puts 14 = .ok (.iadd, 1) := by decide +kernel
theorem dX7_puts_15 : decode cX7_puts 15 = .ok (.istore 5, 2) := by decide +kernel
theorem dX7_puts_17 : decode cX7_puts 17 = .ok (.aload_n 0, 1) := by decide +kernel
theorem dX7_puts_18 : decode cX7_puts 18 = .ok (.getfield 7, 3) := by decide +kernel
theorem dX7_puts_21 : decode cX7_puts 21 = .ok (.iload_n 2, 1) := by decide +kernel
theorem dX7_puts_22 : decode cX7_puts 22 = .ok (.iload_n 3, 1) := by decide +kernel
theorem dX7_puts_23 : decode cX7_puts 23 = .ok (.iload 4, 2) := by decide +kernel
theorem dX7_puts_25 : decode cX7_puts 25 = .ok (.isub, 1) := by decide +kernel
theorem dX7_puts_26 : decode cX7_puts 26 = .ok (.iastore, 1) := by decide +kernel
theorem dX7_puts_27 : decode cX7_puts 27 = .ok (.iload 5, 2) := by decide +kernel
theorem dX7_puts_29 : decode cX7_puts 29 = .ok (.ireturn, 1) := by decide +kernel
theorem dX7_pens_0 : decode cX7_pens 0 = .ok (.aload_n 0, 1) := by decide +kernel
theorem dX7_pens_1 : decode cX7_pens 1 = .ok (.aload_n 0, 1) := by decide +kernel
theorem dX7_pens_2 : decode cX7_pens 2 = .ok (.iload_n 1, 1) := by decide +kernel
theorem dX7_pens_3 : decode cX7_pens 3 = .ok (.invokevirtual 158, 3) := by decide +kernel
theorem dX7_pens_6 : decode cX7_pens 6 = .ok (.ifCond .eq 15, 3) := by decide +kernel
theorem dX7_pens_9 : decode cX7_pens 9 = .ok (.aload_n 0, 1) := by decide +kernel
theorem dX7_pens_10 : decode cX7_pens 10 = .ok (.iload_n 2, 1) := by decide +kernel
theorem dX7_pens_11 : decode cX7_pens 11 = .ok (.invokevirtual 158, 3) := by decide +kernel
theorem dX7_pens_14 : decode cX7_pens 14 = .ok (.ifCond .eq 7, 3) := by decide +kernel
theorem dX7_pens_17 : decode cX7_pens 17 = .ok (.iconst 1, 1) := by decide +kernel
theorem dX7_pens_18 : decode cX7_pens 18 = .ok (.goto 4, 3) := by decide +kernel
theorem dX7_pens_21 : decode cX7_pens 21 = .ok (.iconst 0, 1) := by decide +kernel
theorem dX7_pens_22 : decode cX7_pens 22 = .ok (.bipush 32, 2) := by decide +kernel
theorem dX7_pens_24 : decode cX7_pens 24 = .ok (.iload_n 1, 1) := by decide +kernel
theorem dX7_pens_25 : decode cX7_pens 25 = .ok (.iadd, 1) := by decide +kernel
theorem dX7_pens_26 : decode cX7_pens 26 = .ok (.iload_n 2, 1) := by decide +kernel
theorem dX7_pens_27 : decode cX7_pens 27 = .ok (.iload_n 1, 1) := by decide +kernel
theorem dX7_pens_28 : decode cX7_pens 28 = .ok (.invokevirtual 202, 3) := by decide +kernel
theorem dX7_pens_31 : decode cX7_pens 31 = .ok (.ireturn, 1) := by decide +kernel
theorem dX7_alter_0 : decode cX7_alter 0 = .ok (.aload_n 0, 1) := by decide +kernel
theorem dX7_alter_1 : decode cX7_alter 1 = .ok (.iload_n 1, 1) := by decide +kernel
theorem dX7_alter_2 : decode cX7_alter 2 = .ok (.invokevirtual 158, 3) := by decide +kernel
theorem dX7_alter_5 : decode cX7_alter 5 = .ok (.ifCond .eq 15, 3) := by decide +kernel
theorem dX7_alter_8 : decode cX7_alter 8 = .ok (.iload_n 2, 1) := by decide +kernel
theorem dX7_alter_9 : decode cX7_alter 9 = .ok (.i2l, 1) := by decide +kernel
theorem dX7_alter_10 : decode cX7_alter 10 = .ok (.lconst 0, 1) := by decide +kernel
theorem dX7_alter_11 : decode cX7_alter 11 = .ok (.ldc2_w 156, 3) := by decide +kernel
theorem dX7_alter_14 : decode cX7_alter 14 = .ok (.invokestatic 58, 3) := by decide +kernel
theorem dX7_alter_17 : decode cX7_alter 17 = .ok (.ifCond .ne 5, 3) := by decide +kernel
theorem dX7_alter_20 : decode cX7_alter 20 = .ok (.iconst (-1), 1) := by decide +kernel
theorem dX7_alter_21 : decode cX7_alter 21 = .ok (.ireturn, 1) := by decide +kernel
theorem dX7_alter_22 : decode cX7_alter 22 = .ok (.iload_n 2, 1) := by decide +kernel
theorem dX7_alter_23 : decode cX7_alter 23 = .ok (.iconst 4, 1) := by decide +kernel
theorem dX7_alter_24 : decode cX7_alter 24 = .ok (.if_icmp .ne 10, 3) := by decide +kernel
theorem dX7_alter_27 : decode cX7_alter 27 = .ok (.aload_n 0, 1) := by decide +kernel
theorem dX7_alter_28 : decode cX7_alter 28 = .ok (.iload_n 1, 1) := by decide +kernel
theorem dX7_alter_29 : decode cX7_alter 29 = .ok (.iload_n 3, 1) := by decide +kernel
theorem dX7_alter_30 : decode cX7_alter 30 = .ok (.invokevirtual 206, 3) := by decide +kernel
theorem dX7_alter_33 : decode cX7_alter 33 = .ok (.ireturn, 1) := by decide +kernel
theorem dX7_alter_34 : decode cX7_alter 34 = .ok (.aload_n 0, 1) := by decide +kernel
theorem dX7_alter_35 : decode cX7_alter 35 = .ok (.iload_n 3, 1) := by decide +kernel
theorem dX7_alter_36 : decode cX7_alter 36 = .ok (.i2l, 1) := by decide +kernel
theorem dX7_alter_37 : decode cX7_alter 37 = .ok (.lconst 0, 1) := by decide +kernel
theorem dX7_alter_38 : decode cX7_alter 38 = .ok (.iload_n 2, 1) := by decide +kernel
theorem dX7_alter_39 : decode cX7_alter 39 = .ok (.ifCond .ne 9, 3) := by decide +kernel
theorem dX7_alter_42 : decode cX7_alter 42 = .ok (.ldc2_w 209, 3) := by decide +kernel
theorem dX7_alter_45 : decode cX7_alter 45 = .ok (.goto 17, 3) := by decide +kernel
theorem dX7_alter_48 : decode cX7_alter 48 = .ok (.iload_n 2, 1) := by decide +kernel
theorem dX7_alter_49 : decode cX7_alter 49 = .ok (.iconst 3, 1) := by decide +kernel
theorem dX7_alter_50 : decode cX7_alter 50 = .ok (.if_icmp .ne 9, 3) := by decide +kernel
theorem dX7_alter_53 : decode cX7_alter 53 = .ok (.ldc2_w 184, 3) := by decide +kernel
theorem dX7_alter_56 : decode cX7_alter 56 = .ok (.goto 6, 3) := by decide +kernel
theorem dX7_alter_59 : decode cX7_alter 59 = .ok (.ldc2_w 211, 3) := by decide +kernel
theorem dX7_alter_62 : decode cX7_alter 62 = .ok (.invokestatic 58, 3) := by decide +kernel
theorem dX7_alter_65 : decode cX7_alter 65 = .ok (.bipush 8, 2) := by decide +kernel
theorem dX7_alter_67 : decode cX7_alter 67 = .ok (.iload_n 2, 1) := by decide +kernel
theorem dX7_alter_68 : decode cX7_alter 68 = .ok (.imul, 1) := by decide +kernel
theorem dX7_alter_69 : decode cX7_alter 69 = .ok (.iload_n 1, 1) := by decide +kernel
theorem dX7_alter_70 : decode cX7_alter 70 = .ok (.iadd, 1) := by decide +kernel
theorem dX7_alter_71 : decode cX7_alter 71 = .ok (.iload_n 3, 1) := by decide +kernel
theorem dX7_alter_72 : decode cX7_alter 72 = .ok (.iconst 0, 1) := by decide +kernel
theorem dX7_alter_73 : decode cX7_alter 73 = .ok (.invokevirtual 202, 3) := by decide +kernel
theorem dX7_alter_76 : decode cX7_alter 76 = .ok (.ireturn, 1) := by decide +kernel
theorem dX7_run_0 : decode cX7_run 0 = .ok (.aload_n 0, 1) := by decide +kernel
theorem dX7_run_1 : decode cX7_run 1 = .ok (.iload_n 1, 1) := by decide +kernel
theorem dX7_run_2 : decode cX7_run 2 = .ok (.invokevirtual 158, 3) := by decide +kernel
theorem dX7_run_5 : decode cX7_run 5 = .ok (.ifCond .ne 5, 3) := by decide +kernel
theorem dX7_run_8 : decode cX7_run 8 = .ok (.iconst (-1), 1) := by decide +kernel
theorem dX7_run_9 : decode cX7_run 9 = .ok (.ireturn, 1) := by decide +kernel
theorem dX7_run_10 : decode cX7_run 10 = .ok (.aload_n 0, 1) := by decide +kernel
theorem dX7_run_11 : decode cX7_run 11 = .ok (.getfield 7, 3) := by decide +kernel
theorem dX7_run_14 : decode cX7_run 14 = .ok (.bipush 44, 2) := by decide +kernel
theorem dX7_run_16 : decode cX7_run 16 = .ok (.iaload, 1) := by decide +kernel
theorem dX7_run_17 : decode cX7_run 17 = .ok (.iload_n 1, 1) := by decide +kernel
theorem dX7_run_18 : decode cX7_run 18 = .ok (.ishr, 1) := by decide +kernel
theorem dX7_run_19 : decode cX7_run 19 = .ok (.iconst 1, 1) := by decide +kernel
theorem dX7_run_20 : decode cX7_run 20 = .ok (.iand, 1) := by decide +kernel
theorem dX7_run_21 : decode cX7_run 21 = .ok (.istore_n 3, 1) := by decide +kernel
theorem dX7_run_22 : decode cX7_run 22 = .ok (.aload_n 0, 1) := by decide +kernel
theorem dX7_run_23 : decode cX7_run 23 = .ok (.getfield 7, 3) := by decide +kernel
theorem dX7_run_26 : decode cX7_run 26 = .ok (.bipush 44, 2) := by decide +kernel
theorem dX7_run_28 : decode cX7_run 28 = .ok (.aload_n 0, 1) := by decide +kernel
theorem dX7_run_29 : decode cX7_run 29 = .ok (.getfield 7, 3) := by decide +kernel
theorem dX7_run_32 : decode cX7_run 32 = .ok (.bipush 44, 2) := by decide +kernel
theorem dX7_run_34 : decode cX7_run 34 = .ok (.iaload, 1) := by decide +kernel
theorem dX7_run_35 : decode cX7_run 35 = .ok (.iconst 1, 1) := by decide +kernel
theorem dX7_run_36 : decode cX7_run 36 = .ok (.iload_n 1, 1) := by decide +kernel
theorem dX7_run_37 : decode cX7_run 37 = .ok (.ishl, 1) := by decide +kernel
theorem dX7_run_38 : decode cX7_run 38 = .ok (.iconst (-1), 1) := by decide +kernel
theorem dX7_run_39 : decode cX7_run 39 = .ok (.ixor, 1) := by decide +kernel
theorem dX7_run_40 : decode cX7_run 40 = .ok (.iand, 1) := by decide +kernel
theorem dX7_run_41 : decode cX7_run 41 = .ok (.iload_n 2, 1) := by decide +kernel
theorem dX7_run_42 : decode cX7_run 42 = .ok (.ifCond .eq 9, 3) := by decide +kernel
theorem dX7_run_45 : decode cX7_run 45 = .ok (.iconst 1, 1) := by decide +kernel
theorem dX7_run_46 : decode cX7_run 46 = .ok (.iload_n 1, 1) := by decide +kernel
theorem dX7_run_47 : decode cX7_run 47 = .ok (.ishl, 1) := by decide +kernel
theorem dX7_run_48 : decode cX7_run 48 = .ok (.goto 4, 3) := by decide +kernel
theorem dX7_run_51 : decode cX7_run 51 = .ok (.iconst 0, 1) := by decide +kernel
theorem dX7_run_52 : decode cX7_run 52 = .ok (.ior, 1) := by decide +kernel
theorem dX7_run_53 : decode cX7_run 53 = .ok (.iastore, 1) := by decide +kernel
theorem dX7_run_54 : decode cX7_run 54 = .ok (.iload_n 3, 1) := by decide +kernel
theorem dX7_run_55 : decode cX7_run 55 = .ok (.ireturn, 1) := by decide +kernel
theorem dX7_fold_0 : decode cX7_fold 0 = .ok (.aload_n 0, 1) := by decide +kernel
theorem dX7_fold_1 : decode cX7_fold 1 = .ok (.iload_n 1, 1) := by decide +kernel
theorem dX7_fold_2 : decode cX7_fold 2 = .ok (.iload_n 2, 1) := by decide +kernel
theorem dX7_fold_3 : decode cX7_fold 3 = .ok (.invokevirtual 213, 3) := by decide +kernel
theorem dX7_fold_6 : decode cX7_fold 6 = .ok (.ifCond .ne 5, 3) := by decide +kernel
theorem dX7_fold_9 : decode cX7_fold 9 = .ok (.iconst (-1), 1) := by decide +kernel
theorem dX7_fold_10 : decode cX7_fold 10 = .ok (.ireturn, 1) := by decide +kernel
theorem dX7_fold_11 : decode cX7_fold 11 = .ok (.aload_n 0, 1) := by decide +kernel
theorem dX7_fold_12 : decode cX7_fold 12 = .ok (.getfield 7, 3) := by decide +kernel
theorem dX7_fold_15 : decode cX7_fold 15 = .ok (.bipush 40, 2) := by decide +kernel
theorem dX7_fold_17 : decode cX7_fold 17 = .ok (.iload_n 1, 1) := by decide +kernel
theorem dX7_fold_18 : decode cX7_fold 18 = .ok (.iadd, 1) := by decide +kernel
theorem dX7_fold_19 : decode cX7_fold 19 = .ok (.iaload, 1) := by decide +kernel
theorem dX7_fold_20 : decode cX7_fold 20 = .ok (.iload_n 2, 1) := by decide +kernel
theorem dX7_fold_21 : decode cX7_fold 21 = .ok (.ishr, 1) := by decide +kernel
theorem dX7_fold_22 : decode cX7_fold 22 = .ok (.iconst 1, 1) := by decide +kernel
theorem dX7_fold_23 : decode cX7_fold 23 = .ok (.iand, 1) := by decide +kernel
theorem dX7_fold_24 : decode cX7_fold 24 = .ok (.istore 4, 2) := by decide +kernel
theorem dX7_fold_26 : decode cX7_fold 26 = .ok (.aload_n 0, 1) := by decide +kernel
theorem dX7_fold_27 : decode cX7_fold 27 = .ok (.getfield 7, 3) := by decide +kernel
theorem dX7_fold_30 : decode cX7_fold 30 = .ok (.bipush 40, 2) := by decide +kernel
theorem dX7_fold_32 : decode cX7_fold 32 = .ok (.iload_n 1, 1) := by decide +kernel
theorem dX7_fold_33 : decode cX7_fold 33 = .ok (.iadd, 1) := by decide +kernel
theorem dX7_fold_34 : decode cX7_fold 34 = .ok (.aload_n 0, 1) := by decide +kernel
theorem dX7_fold_35 : decode cX7_fold 35 = .ok (.getfield 7, 3) := by decide +kernel
theorem dX7_fold_38 : decode cX7_fold 38 = .ok (.bipush 40, 2) := by decide +kernel
theorem dX7_fold_40 : decode cX7_fold 40 = .ok (.iload_n 1, 1) := by decide +kernel
theorem dX7_fold_41 : decode cX7_fold 41 = .ok (.iadd, 1) := by decide +kernel
theorem dX7_fold_42 : decode cX7_fold 42 = .ok (.iaload, 1) := by decide +kernel
theorem dX7_fold_43 : decode cX7_fold 43 = .ok (.iconst 1, 1) := by decide +kernel
theorem dX7_fold_44 : decode cX7_fold 44 = .ok (.iload_n 2, 1) := by decide +kernel
theorem dX7_fold_45 : decode cX7_fold 45 = .ok (.ishl, 1) := by decide +kernel
theorem dX7_fold_46 : decode cX7_fold 46 = .ok (.iconst (-1), 1) := by decide +kernel
theorem dX7_fold_47 : decode cX7_fold 47 = .ok (.ixor, 1) := by decide +kernel
theorem dX7_fold_48 : decode cX7_fold 48 = .ok (.iand, 1) := by decide +kernel
theorem dX7_fold_49 : decode cX7_fold 49 = .ok (.iload_n 3, 1) := by decide +kernel
theorem dX7_fold_50 : decode cX7_fold 50 = .ok (.ifCond .eq 9, 3) := by decide +kernel
theorem dX7_fold_53 : decode cX7_fold 53 = .ok (.iconst 1, 1) := by decide +kernel
theorem dX7_fold_54 : decode cX7_fold 54 = .ok (.iload_n 2, 1) := by decide +kernel
theorem dX7_fold_55 : decode cX7_fold 55 = .ok (.ishl, 1) := by decide +kernel
theorem dX7_fold_56 : decode cX7_fold 56 = .ok (.goto 4, 3) := by decide +kernel
theorem dX7_fold_59 : decode cX7_fold 59 = .ok (.iconst 0, 1) := by decide +kernel
theorem dX7_fold_60 : decode cX7_fold 60 = .ok (.ior, 1) := by decide +kernel
theorem dX7_fold_61 : decode cX7_fold 61 = .ok (.iastore, 1) := by decide +kernel
theorem dX7_fold_62 : decode cX7_fold 62 = .ok (.iload 4, 2) := by decide +kernel
theorem dX7_fold_64 : decode cX7_fold 64 = .ok (.ireturn, 1) := by decide +kernel
theorem dX7_wed_0 : decode cX7_wed 0 = .ok (.aload_n 0, 1) := by decide +kernel
theorem dX7_wed_1 : decode cX7_wed 1 = .ok (.iload_n 1, 1) := by decide +kernel
theorem dX7_wed_2 : decode cX7_wed 2 = .ok (.iload_n 2, 1) := by decide +kernel
theorem dX7_wed_3 : decode cX7_wed 3 = .ok (.invokevirtual 213, 3) := by decide +kernel
theorem dX7_wed_6 : decode cX7_wed 6 = .ok (.ifCond .ne 5, 3) := by decide +kernel
theorem dX7_wed_9 : decode cX7_wed 9 = .ok (.iconst (-1), 1) := by decide +kernel
theorem dX7_wed_10 : decode cX7_wed 10 = .ok (.ireturn, 1) := by decide +kernel
theorem dX7_wed_11 : decode cX7_wed 11 = .ok (.aload_n 0, 1) := by decide +kernel
theorem dX7_wed_12 : decode cX7_wed 12 = .ok (.iload_n 1, 1) := by decide +kernel
theorem dX7_wed_13 : decode cX7_wed 13 = .ok (.invokevirtual 162, 3) := by decide +kernel
theorem dX7_wed_16 : decode cX7_wed 16 = .ok (.bipush (-4), 2) := by decide +kernel
theorem dX7_wed_18 : decode cX7_wed 18 = .ok (.if_icmp .ne 22, 3) := by decide +kernel
theorem dX7_wed_21 : decode cX7_wed 21 = .ok (.aload_n 0, 1) := by decide +kernel
theorem dX7_wed_22 : decode cX7_wed 22 = .ok (.iload_n 2, 1) := by decide +kernel
theorem dX7_wed_23 : decode cX7_wed 23 = .ok (.invokevirtual 162, 3) := by decide +kernel
theorem dX7_wed_26 : decode cX7_wed 26 = .ok (.bipush (-4), 2) := by decide +kernel
theorem dX7_wed_28 : decode cX7_wed 28 = .ok (.if_icmp .ne 12, 3) := by decide +kernel
theorem dX7_wed_31 : decode cX7_wed 31 = .ok (.aload_n 0, 1) := by decide +kernel
theorem dX7_wed_32 : decode cX7_wed 32 = .ok (.iload_n 1, 1) := by decide +kernel
theorem dX7_wed_33 : decode cX7_wed 33 = .ok (.iload_n 2, 1) := by decide +kernel
theorem dX7_wed_34 : decode cX7_wed 34 = .ok (.invokevirtual 168, 3) := by decide +kernel
theorem dX7_wed_37 : decode cX7_wed 37 = .ok (.ifCond .eq 6, 3) := by decide +kernel
theorem dX7_wed_40 : decode cX7_wed 40 = .ok (.bipush (-2), 2) := by decide +kernel
theorem dX7_wed_42 : decode cX7_wed 42 = .ok (.ireturn, 1) := by decide +kernel
theorem dX7_wed_43 : decode cX7_wed 43 = .ok (.aload_n 0, 1) := by decide +kernel
theorem dX7_wed_44 : decode cX7_wed 44 = .ok (.getfield 7, 3) := by decide +kernel
theorem dX7_wed_47 : decode cX7_wed 47 = .ok (.bipush 45, 2) := by decide +kernel
theorem dX7_wed_49 : decode cX7_wed 49 = .ok (.iload_n 1, 1) := by decide +kernel
theorem dX7_wed_50 : decode cX7_wed 50 = .ok (.iadd, 1) := by decide +kernel
theorem dX7_wed_51 : decode cX7_wed 51 = .ok (.iload_n 2, 1) := by decide +kernel
theorem dX7_wed_52 : decode cX7_wed 52 = .ok (.iastore, 1) := by decide +kernel
theorem dX7_wed_53 : decode cX7_wed 53 = .ok (.aload_n 0, 1) := by decide +kernel
theorem dX7_wed_54 : decode cX7_wed 54 = .ok (.invokevirtual 165, 3) := by decide +kernel
theorem dX7_wed_57 : decode cX7_wed 57 = .ok (.invokestatic 216, 3) := by decide +kernel
theorem dX7_wed_60 : decode cX7_wed 60 = .ok (.iconst 2, 1) := by decide +kernel
theorem dX7_wed_61 : decode cX7_wed 61 = .ok (.idiv, 1) := by decide +kernel
theorem dX7_wed_62 : decode cX7_wed 62 = .ok (.ireturn, 1) := by decide +kernel
theorem dX7_part_0 : decode cX7_part 0 = .ok (.aload_n 0, 1) := by decide +kernel
theorem dX7_part_1 : decode cX7_part 1 = .ok (.iload_n 1, 1) := by decide +kernel
theorem dX7_part_2 : decode cX7_part 2 = .ok (.invokevirtual 158, 3) := by decide +kernel
theorem dX7_part_5 : decode cX7_part 5 = .ok (.ifCond .ne 5, 3) := by decide +kernel
theorem dX7_part_8 : decode cX7_part 8 = .ok (.iconst (-1), 1) := by decide +kernel
theorem dX7_part_9 : decode cX7_part 9 = .ok (.ireturn, 1) := by decide +kernel
theorem dX7_part_10 : decode cX7_part 10 = .ok (.aload_n 0, 1) := by decide +kernel
theorem dX7_part_11 : decode cX7_part 11 = .ok (.iload_n 1, 1) := by decide +kernel
theorem dX7_part_12 : decode cX7_part 12 = .ok (.invokevirtual 162, 3) := by decide +kernel
theorem dX7_part_15 : decode cX7_part 15 = .ok (.istore_n 2, 1) := by decide +kernel
theorem dX7_part_16 : decode cX7_part 16 = .ok (.iload_n 2, 1) := by decide +kernel
theorem dX7_part_17 : decode cX7_part 17 = .ok (.bipush (-4), 2) := by decide +kernel
theorem dX7_part_19 : decode cX7_part 19 = .ok (.if_icmp .ne 6, 3) := by decide +kernel
theorem dX7_part_22 : decode cX7_part 22 = .ok (.bipush (-2), 2) := by decide +kernel
theorem dX7_part_24 : decode cX7_part 24 = .ok (.ireturn, 1) := by decide +kernel
theorem dX7_part_25 : decode cX7_part 25 = .ok (.aload_n 0, 1) := by decide +kernel
theorem dX7_part_26 : decode cX7_part 26 = .ok (.getfield 7, 3) := by decide +kernel
theorem dX7_part_29 : decode cX7_part 29 = .ok (.bipush 45, 2) := by decide +kernel
theorem dX7_part_31 : decode cX7_part 31 = .ok (.iload_n 1, 1) := by decide +kernel
theorem dX7_part_32 : decode cX7_part 32 = .ok (.iload_n 2, 1) := by decide +kernel
theorem dX7_part_33 : decode cX7_part 33 = .ok (.if_icmp .ge 7, 3) := by decide +kernel
theorem dX7_part_36 : decode cX7_part 36 = .ok (.iload_n 1, 1) := by decide +kernel
theorem dX7_part_37 : decode cX7_part 37 = .ok (.goto 4, 3) := by decide +kernel
theorem dX7_part_40 : decode cX7_part 40 = .ok (.iload_n 2, 1) := by decide +kernel
theorem dX7_part_41 : decode cX7_part 41 = .ok (.iadd, 1) := by decide +kernel
theorem dX7_part_42 : decode cX7_part 42 = .ok (.iconst 0, 1) := by decide +kernel
theorem dX7_part_43 : decode cX7_part 43 = .ok (.iastore, 1) := by decide +kernel
theorem dX7_part_44 : decode cX7_part 44 = .ok (.iload_n 2, 1) := by decide +kernel
theorem dX7_part_45 : decode cX7_part 45 = .ok (.ireturn, 1) := by decide +kernel
theorem dX7_nextAsked_0 : decode cX7_nextAsked 0 = .ok (.bipush (-4), 2) := by decide +kernel
theorem dX7_nextAsked_2 : decode cX7_nextAsked 2 = .ok (.istore_n 2, 1) := by decide +kernel
theorem dX7_nextAsked_3 : decode cX7_nextAsked 3 = .ok (.iconst 0, 1) := by decide +kernel
theorem dX7_nextAsked_4 : decode cX7_nextAsked 4 = .ok (.istore_n 3, 1) := by decide +kernel
theorem dX7_nextAsked_5 : decode cX7_nextAsked 5 = .ok (.iload_n 3, 1) := by decide +kernel
theorem dX7_nextAsked_6 : decode cX7_nextAsked 6 = .ok (.bipush 8, 2) := by decide +kernel
theorem dX7_nextAsked_8 : decode cX7_nextAsked 8 = .ok (.if_icmp .ge 38, 3) := by decide +kernel
theorem dX7_nextAsked_11 : decode cX7_nextAsked 11 = .ok (.aload_n 0, 1) := by decide +kernel
theorem dX7_nextAsked_12 : decode cX7_nextAsked 12 = .ok (.getfield 31, 3) := by decide +kernel
theorem dX7_nextAsked_15 : decode cX7_nextAsked 15 = .ok (.iload_n 1, 1) := by decide +kernel
theorem dX7_nextAsked_16 : decode cX7_nextAsked 16 = .ok (.iaload, 1) := by decide +kernel
theorem dX7_nextAsked_17 : decode cX7_nextAsked 17 = .ok (.iload_n 3, 1) := by decide +kernel
theorem dX7_nextAsked_18 : decode cX7_nextAsked 18 = .ok (.ishr, 1) := by decide +kernel
theorem dX7_nextAsked_19 : decode cX7_nextAsked 19 = .ok (.iconst 1, 1) := by decide +kernel
theorem dX7_nextAsked_20 : decode cX7_nextAsked 20 = .ok (.iand, 1) := by decide +kernel
theorem dX7_nextAsked_21 : decode cX7_nextAsked 21 = .ok (.ifCond .ne 17, 3) := by decide +kernel
theorem dX7_nextAsked_24 : decode cX7_nextAsked 24 = .ok (.aload_n 0, 1) := by decide +kernel
theorem dX7_nextAsked_25 : decode cX7_nextAsked 25 = .ok (.iload_n 1, 1) := by decide +kernel
theorem dX7_nextAsked_26 : decode cX7_nextAsked 26 = .ok (.iload_n 3, 1) := by decide +kernel
theorem dX7_nextAsked_27 : decode cX7_nextAsked 27 = .ok (.iload_n 2, 1) := by decide +kernel
theorem dX7_nextAsked_28 : decode cX7_nextAsked 28 = .ok (.invokevirtual 198, 3) := by decide +kernel
theorem dX7_nextAsked_31 : decode cX7_nextAsked 31 = .ok (.ifCond .eq 7, 3) := by decide +kernel
theorem dX7_nextAsked_34 : decode cX7_nextAsked 34 = .ok (.iload_n 3, 1) := by decide +kernel
theorem dX7_nextAsked_35 : decode cX7_nextAsked 35 = .ok (.goto 4, 3) := by decide +kernel
theorem dX7_nextAsked_38 : decode cX7_nextAsked 38 = .ok (.iload_n 2, 1) := by decide +kernel
theorem dX7_nextAsked_39 : decode cX7_nextAsked 39 = .ok (.istore_n 2, 1) := by decide +kernel
theorem dX7_nextAsked_40 : decode cX7_nextAsked 40 = .ok (.iinc 3 1, 3) := by decide +kernel
theorem dX7_nextAsked_43 : decode cX7_nextAsked 43 = .ok (.goto (-38), 3) := by decide +kernel
theorem dX7_nextAsked_46 : decode cX7_nextAsked 46 = .ok (.iload_n 2, 1) := by decide +kernel
theorem dX7_nextAsked_47 : decode cX7_nextAsked 47 = .ok (.ireturn, 1) := by decide +kernel
theorem dX7_asking_0 : decode cX7_asking 0 = .ok (.iconst 0, 1) := by decide +kernel
theorem dX7_asking_1 : decode cX7_asking 1 = .ok (.istore_n 2, 1) := by decide +kernel
theorem dX7_asking_2 : decode cX7_asking 2 = .ok (.iload_n 2, 1) := by decide +kernel
theorem dX7_asking_3 : decode cX7_asking 3 = .ok (.bipush 8, 2) := by decide +kernel
theorem dX7_asking_5 : decode cX7_asking 5 = .ok (.if_icmp .ge 24, 3) := by decide +kernel
theorem dX7_asking_8 : decode cX7_asking 8 = .ok (.aload_n 0, 1) := by decide +kernel
theorem dX7_asking_9 : decode cX7_asking 9 = .ok (.getfield 28, 3) := by decide +kernel
theorem dX7_asking_12 : decode cX7_asking 12 = .ok (.iload_n 2, 1) := by decide +kernel
theorem dX7_asking_13 : decode cX7_asking 13 = .ok (.bipush (-4), 2) := by decide +kernel
theorem dX7_asking_15 : decode cX7_asking 15 = .ok (.iastore, 1) := by decide +kernel
theorem dX7_asking_16 : decode cX7_asking 16 = .ok (.aload_n 0, 1) := by decide +kernel
theorem dX7_asking_17 : decode cX7_asking 17 = .ok (.getfield 31, 3) := by decide +kernel
theorem dX7_asking_20 : decode cX7_asking 20 = .ok (.iload_n 2, 1) := by decide +kernel
theorem dX7_asking_21 : decode cX7_asking 21 = .ok (.iconst 0, 1) := by decide +kernel
theorem dX7_asking_22 : decode cX7_asking 22 = .ok (.iastore, 1) := by decide +kernel
theorem dX7_asking_23 : decode cX7_asking 23 = .ok (.iinc 2 1, 3) := by decide +kernel
theorem dX7_asking_26 : decode cX7_asking 26 = .ok (.goto (-24), 3) := by decide +kernel
theorem dX7_asking_29 : decode cX7_asking 29 = .ok (.iconst 4, 1) := by decide +kernel
theorem dX7_asking_30 : decode cX7_asking 30 = .ok (.iload_n 1, 1) := by decide +kernel
theorem dX7_asking_31 : decode cX7_asking 31 = .ok (.imul, 1) := by decide +kernel
theorem dX7_asking_32 : decode cX7_asking 32 = .ok (.istore_n 2, 1) := by decide +kernel
theorem dX7_asking_33 : decode cX7_asking 33 = .ok (.iload_n 2, 1) := by decide +kernel
theorem dX7_asking_34 : decode cX7_asking 34 = .ok (.iconst 4, 1) := by decide +kernel
theorem dX7_asking_35 : decode cX7_asking 35 = .ok (.iload_n 1, 1) := by decide +kernel
theorem dX7_asking_36 : decode cX7_asking 36 = .ok (.imul, 1) := by decide +kernel
theorem dX7_asking_37 : decode cX7_asking 37 = .ok (.iconst 4, 1) := by decide +kernel
theorem dX7_asking_38 : decode cX7_asking 38 = .ok (.iadd, 1) := by decide +kernel
theorem dX7_asking_39 : decode cX7_asking 39 = .ok (.if_icmp .ge 109, 3) := by decide +kernel
theorem dX7_asking_42 : decode cX7_asking 42 = .ok (.aload_n 0, 1) := by decide +kernel
theorem dX7_asking_43 : decode cX7_asking 43 = .ok (.getfield 28, 3) := by decide +kernel
theorem dX7_asking_46 : decode cX7_asking 46 = .ok (.iload_n 2, 1) := by decide +kernel
theorem dX7_asking_47 : decode cX7_asking 47 = .ok (.iaload, 1) := by decide +kernel
theorem dX7_asking_48 : decode cX7_asking 48 = .ok (.bipush (-4), 2) := by decide +kernel
theorem dX7_asking_50 : decode cX7_asking 50 = .ok (.if_icmp .ne 11, 3) := by decide +kernel
theorem dX7_asking_53 : decode cX7_asking 53 = .ok (.aload_n 0, 1) := by decide +kernel
theorem dX7_asking_54 : decode cX7_asking 54 = .ok (.iload_n 2, 1) := by decide +kernel
theorem dX7_asking_55 : decode cX7_asking 55 = .ok (.invokevirtual 219, 3) := by decide +kernel
theorem dX7_asking_58 : decode cX7_asking 58 = .ok (.goto 5, 3) := by decide +kernel
theorem dX7_asking_61 : decode cX7_asking 61 = .ok (.bipush (-4), 2) := by decide +kernel
theorem dX7_asking_63 : decode cX7_asking 63 = .ok (.istore_n 3, 1) := by decide +kernel
theorem dX7_asking_64 : decode cX7_asking 64 = .ok (.iload_n 3, 1) := by decide +kernel
theorem dX7_asking_65 : decode cX7_asking 65 = .ok (.bipush (-4), 2) := by decide +kernel
theorem dX7_asking_67 : decode cX7_asking 67 = .ok (.if_icmp .ne 9, 3) := by decide +kernel
theorem dX7_asking_70 : decode cX7_asking 70 = .ok (.iinc 2 1, 3) := by decide +kernel
theorem dX7_asking_73 : decode cX7_asking 73 = .ok (.goto 72, 3) := by decide +kernel
theorem dX7_asking_76 : decode cX7_asking 76 = .ok (.aload_n 0, 1) := by decide +kernel
theorem dX7_asking_77 : decode cX7_asking 77 = .ok (.getfield 31, 3) := by decide +kernel
theorem dX7_asking_80 : decode cX7_asking 80 = .ok (.iload_n 2, 1) := by decide +kernel
theorem dX7_asking_81 : decode cX7_asking 81 = .ok (.dup2, 1) := by decide +kernel
theorem dX7_asking_82 : decode cX7_asking 82 = .ok (.iaload, 1) := by decide +kernel
theorem dX7_asking_83 : decode cX7_asking 83 = .ok (.iconst 1, 1) := by decide +kernel
theorem dX7_asking_84 : decode cX7_asking 84 = .ok (.iload_n 3, 1) := by decide +kernel
theorem dX7_asking_85 : decode cX7_asking 85 = .ok (.ishl, 1) := by decide +kernel
theorem dX7_asking_86 : decode cX7_asking 86 = .ok (.ior, 1) := by decide +kernel
theorem dX7_asking_87 : decode cX7_asking 87 = .ok (.iastore, 1) := by decide +kernel
theorem dX7_asking_88 : decode cX7_asking 88 = .ok (.aload_n 0, 1) := by decide +kernel
theorem dX7_asking_89 : decode cX7_asking 89 = .ok (.iload_n 3, 1) := by decide +kernel
theorem dX7_asking_90 : decode cX7_asking 90 = .ok (.iload_n 2, 1) := by decide +kernel
theorem dX7_asking_91 : decode cX7_asking 91 = .ok (.aload_n 0, 1) := by decide +kernel
theorem dX7_asking_92 : decode cX7_asking 92 = .ok (.getfield 28, 3) := by decide +kernel
theorem dX7_asking_95 : decode cX7_asking 95 = .ok (.iload_n 3, 1) := by decide +kernel
theorem dX7_asking_96 : decode cX7_asking 96 = .ok (.iaload, 1) := by decide +kernel
theorem dX7_asking_97 : decode cX7_asking 97 = .ok (.invokevirtual 198, 3) := by decide +kernel
theorem dX7_asking_100 : decode cX7_asking 100 = .ok (.ifCond .eq 41, 3) := by decide +kernel
theorem dX7_asking_103 : decode cX7_asking 103 = .ok (.aload_n 0, 1) := by decide +kernel
theorem dX7_asking_104 : decode cX7_asking 104 = .ok (.getfield 28, 3) := by decide +kernel
theorem dX7_asking_107 : decode cX7_asking 107 = .ok (.iload_n 3, 1) := by decide +kernel
theorem dX7_asking_108 : decode cX7_asking 108 = .ok (.iaload, 1) := by decide +kernel
theorem dX7_asking_109 : decode cX7_asking 109 = .ok (.bipush (-4), 2) := by decide +kernel
theorem dX7_asking_111 : decode cX7_asking 111 = .ok (.if_icmp .eq 16, 3) := by decide +kernel
theorem dX7_asking_114 : decode cX7_asking 114 = .ok (.aload_n 0, 1) := by decide +kernel
theorem dX7_asking_115 : decode cX7_asking 115 = .ok (.getfield 28, 3) := by decide +kernel
theorem dX7_asking_118 : decode cX7_asking 118 = .ok (.aload_n 0, 1) := by decide +kernel
theorem dX7_asking_119 : decode cX7_asking 119 = .ok (.getfield 28, 3) := by decide +kernel
theorem dX7_asking_122 : decode cX7_asking 122 = .ok (.iload_n 3, 1) := by decide +kernel
theorem dX7_asking_123 : decode cX7_asking 123 = .ok (.iaload, 1) := by decide +kernel
theorem dX7_asking_124 : decode cX7_asking 124 = .ok (.bipush (-4), 2) := by decide +kernel
theorem dX7_asking_126 : decode cX7_asking 126 = .ok (.iastore, 1) := by decide +kernel
theorem dX7_asking_127 : decode cX7_asking 127 = .ok (.aload_n 0, 1) := by decide +kernel
theorem dX7_asking_128 : decode cX7_asking 128 = .ok (.getfield 28, 3) := by decide +kernel
theorem dX7_asking_131 : decode cX7_asking 131 = .ok (.iload_n 2, 1) := by decide +kernel
theorem dX7_asking_132 : decode cX7_asking 132 = .ok (.iload_n 3, 1) := by decide +kernel
theorem dX7_asking_133 : decode cX7_asking 133 = .ok (.iastore, 1) := by decide +kernel
theorem dX7_asking_134 : decode cX7_asking 134 = .ok (.aload_n 0, 1) := by decide +kernel
theorem dX7_asking_135 : decode cX7_asking 135 = .ok (.getfield 28, 3) := by decide +kernel
theorem dX7_asking_138 : decode cX7_asking 138 = .ok (.iload_n 3, 1) := by decide +kernel
theorem dX7_asking_139 : decode cX7_asking 139 = .ok (.iload_n 2, 1) := by decide +kernel
theorem dX7_asking_140 : decode cX7_asking 140 = .ok (.iastore, 1) := by decide +kernel
theorem dX7_asking_141 : decode cX7_asking 141 = .ok (.iconst 4, 1) := by decide +kernel
theorem dX7_asking_142 : decode cX7_asking 142 = .ok (.iload_n 1, 1) := by decide +kernel
theorem dX7_asking_143 : decode cX7_asking 143 = .ok (.imul, 1) := by decide +kernel
theorem dX7_asking_144 : decode cX7_asking 144 = .ok (.istore_n 2, 1) := by decide +kernel
theorem dX7_asking_145 : decode cX7_asking 145 = .ok (.goto (-112), 3) := by decide +kernel
theorem dX7_asking_148 : decode cX7_asking 148 = .ok (.return_, 1) := by decide +kernel
theorem dX7_askingNow_0 : decode cX7_askingNow 0 = .ok (.aload_n 0, 1) := by decide +kernel
theorem dX7_askingNow_1 : decode cX7_askingNow 1 = .ok (.iconst 0, 1) := by decide +kernel
theorem dX7_askingNow_2 : decode cX7_askingNow 2 = .ok (.invokevirtual 195, 3) := by decide +kernel
theorem dX7_askingNow_5 : decode cX7_askingNow 5 = .ok (.aload_n 0, 1) := by decide +kernel
theorem dX7_askingNow_6 : decode cX7_askingNow 6 = .ok (.iload_n 1, 1) := by decide +kernel
theorem dX7_askingNow_7 : decode cX7_askingNow 7 = .ok (.invokevirtual 222, 3) := by decide +kernel
theorem dX7_askingNow_10 : decode cX7_askingNow 10 = .ok (.return_, 1) := by decide +kernel
theorem dX7_asked_0 : decode cX7_asked 0 = .ok (.iload_n 1, 1) := by decide +kernel
theorem dX7_asked_1 : decode cX7_asked 1 = .ok (.i2l, 1) := by decide +kernel
theorem dX7_asked_2 : decode cX7_asked 2 = .ok (.lconst 0, 1) := by decide +kernel
theorem dX7_asked_3 : decode cX7_asked 3 = .ok (.lconst 1, 1) := by decide +kernel
theorem dX7_asked_4 : decode cX7_asked 4 = .ok (.invokestatic 58, 3) := by decide +kernel
theorem dX7_asked_7 : decode cX7_asked 7 = .ok (.ifCond .eq 11, 3) := by decide +kernel
theorem dX7_asked_10 : decode cX7_asked 10 = .ok (.aload_n 0, 1) := by decide +kernel
theorem dX7_asked_11 : decode cX7_asked 11 = .ok (.iload_n 2, 1) := by decide +kernel
theorem dX7_asked_12 : decode cX7_asked 12 = .ok (.invokevirtual 158, 3) := by decide +kernel
theorem dX7_asked_15 : decode cX7_asked 15 = .ok (.ifCond .ne 5, 3) := by decide +kernel
theorem dX7_asked_18 : decode cX7_asked 18 = .ok (.iconst (-1), 1) := by decide +kernel
theorem dX7_asked_19 : decode cX7_asked 19 = .ok (.ireturn, 1) := by decide +kernel
theorem dX7_asked_20 : decode cX7_asked 20 = .ok (.aload_n 0, 1) := by decide +kernel
theorem dX7_asked_21 : decode cX7_asked 21 = .ok (.iload_n 1, 1) := by decide +kernel
theorem dX7_asked_22 : decode cX7_asked 22 = .ok (.invokevirtual 225, 3) := by decide +kernel
theorem dX7_asked_25 : decode cX7_asked 25 = .ok (.aload_n 0, 1) := by decide +kernel
theorem dX7_asked_26 : decode cX7_asked 26 = .ok (.getfield 28, 3) := by decide +kernel
theorem dX7_asked_29 : decode cX7_asked 29 = .ok (.iload_n 2, 1) := by decide +kernel
theorem dX7_asked_30 : decode cX7_asked 30 = .ok (.iaload, 1) := by decide +kernel
theorem dX7_asked_31 : decode cX7_asked 31 = .ok (.ireturn, 1) := by decide +kernel
theorem dX7_pairMany_0 : decode cX7_pairMany 0 = .ok (.iconst 0, 1) := by decide +kernel
theorem dX7_pairMany_1 : decode cX7_pairMany 1 = .ok (.istore_n 1, 1) := by decide +kernel
theorem dX7_pairMany_2 : decode cX7_pairMany 2 = .ok (.iconst 0, 1) := by decide +kernel
theorem dX7_pairMany_3 : decode cX7_pairMany 3 = .ok (.istore_n 2, 1) := by decide +kernel
theorem dX7_pairMany_4 : decode cX7_pairMany 4 = .ok (.iload_n 2, 1) := by decide +kernel
theorem dX7_pairMany_5 : decode cX7_pairMany 5 = .ok (.iconst 4, 1) := by decide +kernel
theorem dX7_pairMany_6 : decode cX7_pairMany 6 = .ok (.if_icmp .ge 28, 3) := by decide +kernel
theorem dX7_pairMany_9 : decode cX7_pairMany 9 = .ok (.iload_n 1, 1) := by decide +kernel
theorem dX7_pairMany_10 : decode cX7_pairMany 10 = .ok (.aload_n 0, 1) := by decide +kernel
theorem dX7_pairMany_11 : decode cX7_pairMany 11 = .ok (.getfield 28, 3) := by decide +kernel
theorem dX7_pairMany_14 : decode cX7_pairMany 14 = .ok (.iload_n 2, 1) := by decide +kernel
theorem dX7_pairMany_15 : decode cX7_pairMany 15 = .ok (.iaload, 1) := by decide +kernel
theorem dX7_pairMany_16 : decode cX7_pairMany 16 = .ok (.bipush (-4), 2) := by decide +kernel
theorem dX7_pairMany_18 : decode cX7_pairMany 18 = .ok (.if_icmp .eq 7, 3) := by decide +kernel
theorem dX7_pairMany_21 : decode cX7_pairMany 21 = .ok (.iconst 1, 1) := by decide +kernel
theorem dX7_pairMany_22 : decode cX7_pairMany 22 = .ok (.goto 4, 3) := by decide +kernel
theorem dX7_pairMany_25 : decode cX7_pairMany 25 = .ok (.iconst 0, 1) := by decide +kernel
theorem dX7_pairMany_26 : decode cX7_pairMany 26 = .ok (.iadd, 1) := by decide +kernel
theorem dX7_pairMany_27 : decode cX7_pairMany 27 = .ok (.istore_n 1, 1) := by decide +kernel
theorem dX7_pairMany_28 : decode cX7_pairMany 28 = .ok (.iinc 2 1, 3) := by decide +kernel
theorem dX7_pairMany_31 : decode cX7_pairMany 31 = .ok (.goto (-27), 3) := by decide +kernel
theorem dX7_pairMany_34 : decode cX7_pairMany 34 = .ok (.iload_n 1, 1) := by decide +kernel
theorem dX7_pairMany_35 : decode cX7_pairMany 35 = .ok (.ireturn, 1) := by decide +kernel
theorem dX7_likesInAll_0 : decode cX7_likesInAll 0 = .ok (.iconst 0, 1) := by decide +kernel
theorem dX7_likesInAll_1 : decode cX7_likesInAll 1 = .ok (.istore_n 1, 1) := by decide +kernel
theorem dX7_likesInAll_2 : decode cX7_likesInAll 2 = .ok (.iconst 0, 1) := by decide +kernel
theorem dX7_likesInAll_3 : decode cX7_likesInAll 3 = .ok (.istore_n 2, 1) := by decide +kernel
theorem dX7_likesInAll_4 : decode cX7_likesInAll 4 = .ok (.iload_n 2, 1) := by decide +kernel
theorem dX7_likesInAll_5 : decode cX7_likesInAll 5 = .ok (.bipush 8, 2) := by decide +kernel
theorem dX7_likesInAll_7 : decode cX7_likesInAll 7 = .ok (.if_icmp .ge 43, 3) := by decide +kernel
theorem dX7_likesInAll_10 : decode cX7_likesInAll 10 = .ok (.iload_n 1, 1) := by decide +kernel
theorem dX7_likesInAll_11 : decode cX7_likesInAll 11 = .ok (.aload_n 0, 1) := by decide +kernel
theorem dX7_likesInAll_12 : decode cX7_likesInAll 12 = .ok (.getfield 28, 3) := by decide +kernel
theorem dX7_likesInAll_15 : decode cX7_likesInAll 15 = .ok (.iload_n 2, 1) := by decide +kernel
theorem dX7_likesInAll_16 : decode cX7_likesInAll 16 = .ok (.iaload, 1) := by decide +kernel
theorem dX7_likesInAll_17 : decode cX7_likesInAll 17 = .ok (.bipush (-4), 2) := by decide +kernel
theorem dX7_likesInAll_19 : decode cX7_likesInAll 19 = .ok (.if_icmp .eq 22, 3) := by decide +kernel
theorem dX7_likesInAll_22 : decode cX7_likesInAll 22 = .ok (.aload_n 0, 1) := by decide +kernel
theorem dX7_likesInAll_23 : decode cX7_likesInAll 23 = .ok (.getfield 25, 3) := by decide +kernel
theorem dX7_likesInAll_26 : decode cX7_likesInAll 26 = .ok (.bipush 8, 2) := by decide +kernel
theorem dX7_likesInAll_28 : decode cX7_likesInAll 28 = .ok (.iload_n 2, 1) := by decide +kernel
theorem dX7_likesInAll_29 : decode cX7_likesInAll 29 = .ok (.imul, 1) := by decide +kernel
theorem dX7_likesInAll_30 : decode cX7_likesInAll 30 = .ok (.aload_n 0, 1) := by decide +kernel
theorem dX7_likesInAll_31 : decode cX7_likesInAll 31 = .ok (.getfield 28, 3) := by decide +kernel
theorem dX7_likesInAll_34 : decode cX7_likesInAll 34 = .ok (.iload_n 2, 1) := by decide +kernel
theorem dX7_likesInAll_35 : decode cX7_likesInAll 35 = .ok (.iaload, 1) := by decide +kernel
theorem dX7_likesInAll_36 : decode cX7_likesInAll 36 = .ok (.iadd, 1) := by decide +kernel
theorem dX7_likesInAll_37 : decode cX7_likesInAll 37 = .ok (.iaload, 1) := by decide +kernel
theorem dX7_likesInAll_38 : decode cX7_likesInAll 38 = .ok (.goto 4, 3) := by decide +kernel
theorem dX7_likesInAll_41 : decode cX7_likesInAll 41 = .ok (.iconst 0, 1) := by decide +kernel
theorem dX7_likesInAll_42 : decode cX7_likesInAll 42 = .ok (.iadd, 1) := by decide +kernel
theorem dX7_likesInAll_43 : decode cX7_likesInAll 43 = .ok (.istore_n 1, 1) := by decide +kernel
theorem dX7_likesInAll_44 : decode cX7_likesInAll 44 = .ok (.iinc 2 1, 3) := by decide +kernel
theorem dX7_likesInAll_47 : decode cX7_likesInAll 47 = .ok (.goto (-43), 3) := by decide +kernel
theorem dX7_likesInAll_50 : decode cX7_likesInAll 50 = .ok (.iload_n 1, 1) := by decide +kernel
theorem dX7_likesInAll_51 : decode cX7_likesInAll 51 = .ok (.ireturn, 1) := by decide +kernel
theorem dX7_sum_0 : decode cX7_sum 0 = .ok (.iload_n 1, 1) := by decide +kernel
theorem dX7_sum_1 : decode cX7_sum 1 = .ok (.i2l, 1) := by decide +kernel
theorem dX7_sum_2 : decode cX7_sum 2 = .ok (.lconst 0, 1) := by decide +kernel
theorem dX7_sum_3 : decode cX7_sum 3 = .ok (.ldc2_w 209, 3) := by decide +kernel
theorem dX7_sum_6 : decode cX7_sum 6 = .ok (.invokestatic 58, 3) := by decide +kernel
theorem dX7_sum_9 : decode cX7_sum 9 = .ok (.ifCond .ne 5, 3) := by decide +kernel
theorem dX7_sum_12 : decode cX7_sum 12 = .ok (.iconst (-1), 1) := by decide +kernel
theorem dX7_sum_13 : decode cX7_sum 13 = .ok (.ireturn, 1) := by decide +kernel
theorem dX7_sum_14 : decode cX7_sum 14 = .ok (.aload_n 0, 1) := by decide +kernel
theorem dX7_sum_15 : decode cX7_sum 15 = .ok (.iload_n 1, 1) := by decide +kernel
theorem dX7_sum_16 : decode cX7_sum 16 = .ok (.iconst 2, 1) := by decide +kernel
theorem dX7_sum_17 : decode cX7_sum 17 = .ok (.idiv, 1) := by decide +kernel
theorem dX7_sum_18 : decode cX7_sum 18 = .ok (.invokevirtual 225, 3) := by decide +kernel
theorem dX7_sum_21 : decode cX7_sum 21 = .ok (.iload_n 1, 1) := by decide +kernel
theorem dX7_sum_22 : decode cX7_sum 22 = .ok (.iconst 2, 1) := by decide +kernel
theorem dX7_sum_23 : decode cX7_sum 23 = .ok (.irem, 1) := by decide +kernel
theorem dX7_sum_24 : decode cX7_sum 24 = .ok (.ifCond .ne 10, 3) := by decide +kernel
theorem dX7_sum_27 : decode cX7_sum 27 = .ok (.aload_n 0, 1) := by decide +kernel
theorem dX7_sum_28 : decode cX7_sum 28 = .ok (.invokevirtual 228, 3) := by decide +kernel
theorem dX7_sum_31 : decode cX7_sum 31 = .ok (.goto 7, 3) := by decide +kernel
theorem dX7_sum_34 : decode cX7_sum 34 = .ok (.aload_n 0, 1) := by decide +kernel
theorem dX7_sum_35 : decode cX7_sum 35 = .ok (.invokevirtual 231, 3) := by decide +kernel
theorem dX7_sum_38 : decode cX7_sum 38 = .ok (.ireturn, 1) := by decide +kernel
theorem dX7_laysPairs_0 : decode cX7_laysPairs 0 = .ok (.iload_n 1, 1) := by decide +kernel
theorem dX7_laysPairs_1 : decode cX7_laysPairs 1 = .ok (.istore_n 2, 1) := by decide +kernel
theorem dX7_laysPairs_2 : decode cX7_laysPairs 2 = .ok (.iconst 1, 1) := by decide +kernel
theorem dX7_laysPairs_3 : decode cX7_laysPairs 3 = .ok (.istore_n 3, 1) := by decide +kernel
theorem dX7_laysPairs_4 : decode cX7_laysPairs 4 = .ok (.iconst 0, 1) := by decide +kernel
theorem dX7_laysPairs_5 : decode cX7_laysPairs 5 = .ok (.istore 4, 2) := by decide +kernel
theorem dX7_laysPairs_7 : decode cX7_laysPairs 7 = .ok (.iload 4, 2) := by decide +kernel
theorem dX7_laysPairs_9 : decode cX7_laysPairs 9 = .ok (.bipush 8, 2) := by decide +kernel
theorem dX7_laysPairs_11 : decode cX7_laysPairs 11 = .ok (.if_icmp .ge 18, 3) := by decide +kernel
theorem dX7_laysPairs_14 : decode cX7_laysPairs 14 = .ok (.aload_n 0, 1) := by decide +kernel
theorem dX7_laysPairs_15 : decode cX7_laysPairs 15 = .ok (.getfield 34, 3) := by decide +kernel
theorem dX7_laysPairs_18 : decode cX7_laysPairs 18 = .ok (.iload 4, 2) := by decide +kernel
theorem dX7_laysPairs_20 : decode cX7_laysPairs 20 = .ok (.bipush (-4), 2) := by decide +kernel
theorem dX7_laysPairs_22 : decode cX7_laysPairs 22 = .ok (.iastore, 1) := by decide +kernel
theorem dX7_laysPairs_23 : decode cX7_laysPairs 23 = .ok (.iinc 4 1, 3) := by decide +kernel
theorem dX7_laysPairs_26 : decode cX7_laysPairs 26 = .ok (.goto (-19), 3) := by decide +kernel
theorem dX7_laysPairs_29 : decode cX7_laysPairs 29 = .ok (.iconst 3, 1) := by decide +kernel
theorem dX7_laysPairs_30 : decode cX7_laysPairs 30 = .ok (.istore 4, 2) := by decide +kernel
theorem dX7_laysPairs_32 : decode cX7_laysPairs 32 = .ok (.iload 4, 2) := by decide +kernel
theorem dX7_laysPairs_34 : decode cX7_laysPairs 34 = .ok (.ifCond .lt 84, 3) := by decide +kernel
theorem dX7_laysPairs_37 : decode cX7_laysPairs 37 = .ok (.iload_n 2, 1) := by decide +kernel
theorem dX7_laysPairs_38 : decode cX7_laysPairs 38 = .ok (.iconst 5, 1) := by decide +kernel
theorem dX7_laysPairs_39 : decode cX7_laysPairs 39 = .ok (.irem, 1) := by decide +kernel
theorem dX7_laysPairs_40 : decode cX7_laysPairs 40 = .ok (.iconst 4, 1) := by decide +kernel
theorem dX7_laysPairs_41 : decode cX7_laysPairs 41 = .ok (.iadd, 1) := by decide +kernel
theorem dX7_laysPairs_42 : decode cX7_laysPairs 42 = .ok (.iconst 1, 1) := by decide +kernel
theorem dX7_laysPairs_43 : decode cX7_laysPairs 43 = .ok (.isub, 1) := by decide +kernel
theorem dX7_laysPairs_44 : decode cX7_laysPairs 44 = .ok (.istore 5, 2) := by decide +kernel
theorem dX7_laysPairs_46 : decode cX7_laysPairs 46 = .ok (.iload_n 2, 1) := by decide +kernel
theorem dX7_laysPairs_47 : decode cX7_laysPairs 47 = .ok (.iconst 5, 1) := by decide +kernel
theorem dX7_laysPairs_48 : decode cX7_laysPairs 48 = .ok (.idiv, 1) := by decide +kernel
theorem dX7_laysPairs_49 : decode cX7_laysPairs 49 = .ok (.istore_n 2, 1) := by decide +kernel
theorem dX7_laysPairs_50 : decode cX7_laysPairs 50 = .ok (.iload 5, 2) := by decide +kernel
theorem dX7_laysPairs_52 : decode cX7_laysPairs 52 = .ok (.iconst 4, 1) := by decide +kernel
theorem dX7_laysPairs_53 : decode cX7_laysPairs 53 = .ok (.if_icmp .lt 59, 3) := by decide +kernel
theorem dX7_laysPairs_56 : decode cX7_laysPairs 56 = .ok (.iload_n 3, 1) := by decide +kernel
theorem dX7_laysPairs_57 : decode cX7_laysPairs 57 = .ok (.ifCond .eq 35, 3) := by decide +kernel
theorem dX7_laysPairs_60 : decode cX7_laysPairs 60 = .ok (.aload_n 0, 1) := by decide +kernel
theorem dX7_laysPairs_61 : decode cX7_laysPairs 61 = .ok (.getfield 25, 3) := by decide +kernel
theorem dX7_laysPairs_64 : decode cX7_laysPairs 64 = .ok (.bipush 8, 2) := by decide +kernel
theorem dX7_laysPairs_66 : decode cX7_laysPairs 66 = .ok (.iload 4, 2) := by decide +kernel
theorem dX7_laysPairs_68 : decode cX7_laysPairs 68 = .ok (.imul, 1) := by decide +kernel
theorem dX7_laysPairs_69 : decode cX7_laysPairs 69 = .ok (.iload 5, 2) := by decide +kernel
theorem dX7_laysPairs_71 : decode cX7_laysPairs 71 = .ok (.iadd, 1) := by decide +kernel
theorem dX7_laysPairs_72 : decode cX7_laysPairs 72 = .ok (.iaload, 1) := by decide +kernel
theorem dX7_laysPairs_73 : decode cX7_laysPairs 73 = .ok (.ifCond .lt 19, 3) := by decide +kernel
theorem dX7_laysPairs_76 : decode cX7_laysPairs 76 = .ok (.aload_n 0, 1) := by decide +kernel
theorem dX7_laysPairs_77 : decode cX7_laysPairs 77 = .ok (.getfield 34, 3) := by decide +kernel
theorem dX7_laysPairs_80 : decode cX7_laysPairs 80 = .ok (.iload 5, 2) := by decide +kernel
theorem dX7_laysPairs_82 : decode cX7_laysPairs 82 = .ok (.iaload, 1) := by decide +kernel
theorem dX7_laysPairs_83 : decode cX7_laysPairs 83 = .ok (.bipush (-4), 2) := by decide +kernel
theorem dX7_laysPairs_85 : decode cX7_laysPairs 85 = .ok (.if_icmp .ne 7, 3) := by decide +kernel
theorem dX7_laysPairs_88 : decode cX7_laysPairs 88 = .ok (.iconst 1, 1) := by decide +kernel
theorem dX7_laysPairs_89 : decode cX7_laysPairs 89 = .ok (.goto 4, 3) := by decide +kernel
theorem dX7_laysPairs_92 : decode cX7_laysPairs 92 = .ok (.iconst 0, 1) := by decide +kernel
theorem dX7_laysPairs_93 : decode cX7_laysPairs 93 = .ok (.istore_n 3, 1) := by decide +kernel
theorem dX7_laysPairs_94 : decode cX7_laysPairs 94 = .ok (.aload_n 0, 1) := by decide +kernel
theorem dX7_laysPairs_95 : decode cX7_laysPairs 95 = .ok (.getfield 34, 3) := by decide +kernel
theorem dX7_laysPairs_98 : decode cX7_laysPairs 98 = .ok (.iload 4, 2) := by decide +kernel
theorem dX7_laysPairs_100 : decode cX7_laysPairs 100 = .ok (.iload 5, 2) := by decide +kernel
theorem dX7_laysPairs_102 : decode cX7_laysPairs 102 = .ok (.iastore, 1) := by decide +kernel
theorem dX7_laysPairs_103 : decode cX7_laysPairs 103 = .ok (.aload_n 0, 1) := by decide +kernel
theorem dX7_laysPairs_104 : decode cX7_laysPairs 104 = .ok (.getfield 34, 3) := by decide +kernel
theorem dX7_laysPairs_107 : decode cX7_laysPairs 107 = .ok (.iload 5, 2) := by decide +kernel
theorem dX7_laysPairs_109 : decode cX7_laysPairs 109 = .ok (.iload 4, 2) := by decide +kernel
theorem dX7_laysPairs_111 : decode cX7_laysPairs 111 = .ok (.iastore, 1) := by decide +kernel
theorem dX7_laysPairs_112 : decode cX7_laysPairs 112 = .ok (.iinc 4 (-1), 3) := by decide +kernel
theorem dX7_laysPairs_115 : decode cX7_laysPairs 115 = .ok (.goto (-83), 3) := by decide +kernel
theorem dX7_laysPairs_118 : decode cX7_laysPairs 118 = .ok (.iload_n 3, 1) := by decide +kernel
theorem dX7_laysPairs_119 : decode cX7_laysPairs 119 = .ok (.ireturn, 1) := by decide +kernel
theorem dX7_doQuarrel_0 : decode cX7_doQuarrel 0 = .ok (.aload_n 0, 1) := by decide +kernel
theorem dX7_doQuarrel_1 : decode cX7_doQuarrel 1 = .ok (.getfield 34, 3) := by decide +kernel
theorem dX7_doQuarrel_4 : decode cX7_doQuarrel 4 = .ok (.iload_n 1, 1) := by decide +kernel
theorem dX7_doQuarrel_5 : decode cX7_doQuarrel 5 = .ok (.iaload, 1) := by decide +kernel
theorem dX7_doQuarrel_6 : decode cX7_doQuarrel 6 = .ok (.iload_n 2, 1) := by decide +kernel
theorem dX7_doQuarrel_7 : decode cX7_doQuarrel 7 = .ok (.if_icmp .eq 37, 3) := by decide +kernel
theorem dX7_doQuarrel_10 : decode cX7_doQuarrel 10 = .ok (.aload_n 0, 1) := by decide +kernel
theorem dX7_doQuarrel_11 : decode cX7_doQuarrel 11 = .ok (.iload_n 1, 1) := by decide +kernel
theorem dX7_doQuarrel_12 : decode cX7_doQuarrel 12 = .ok (.iload_n 2, 1) := by decide +kernel
theorem dX7_doQuarrel_13 : decode cX7_doQuarrel 13 = .ok (.aload_n 0, 1) := by decide +kernel
theorem dX7_doQuarrel_14 : decode cX7_doQuarrel 14 = .ok (.getfield 34, 3) := by decide +kernel
theorem dX7_doQuarrel_17 : decode cX7_doQuarrel 17 = .ok (.iload_n 1, 1) := by decide +kernel
theorem dX7_doQuarrel_18 : decode cX7_doQuarrel 18 = .ok (.iaload, 1) := by decide +kernel
theorem dX7_doQuarrel_19 : decode cX7_doQuarrel 19 = .ok (.invokevirtual 198, 3) := by decide +kernel
theorem dX7_doQuarrel_22 : decode cX7_doQuarrel 22 = .ok (.ifCond .eq 22, 3) := by decide +kernel
theorem dX7_doQuarrel_25 : decode cX7_doQuarrel 25 = .ok (.aload_n 0, 1) := by decide +kernel
theorem dX7_doQuarrel_26 : decode cX7_doQuarrel 26 = .ok (.iload_n 2, 1) := by decide +kernel
theorem dX7_doQuarrel_27 : decode cX7_doQuarrel 27 = .ok (.iload_n 1, 1) := by decide +kernel
theorem dX7_doQuarrel_28 : decode cX7_doQuarrel 28 = .ok (.aload_n 0, 1) := by decide +kernel
theorem dX7_doQuarrel_29 : decode cX7_doQuarrel 29 = .ok (.getfield 34, 3) := by decide +kernel
theorem dX7_doQuarrel_32 : decode cX7_doQuarrel 32 = .ok (.iload_n 2, 1) := by decide +kernel
theorem dX7_doQuarrel_33 : decode cX7_doQuarrel 33 = .ok (.iaload, 1) := by decide +kernel
theorem dX7_doQuarrel_34 : decode cX7_doQuarrel 34 = .ok (.invokevirtual 198, 3) := by decide +kernel
theorem dX7_doQuarrel_37 : decode cX7_doQuarrel 37 = .ok (.ifCond .eq 7, 3) := by decide +kernel
theorem dX7_doQuarrel_40 : decode cX7_doQuarrel 40 = .ok (.iconst 1, 1) := by decide +kernel
theorem dX7_doQuarrel_41 : decode cX7_doQuarrel 41 = .ok (.goto 4, 3) := by decide +kernel
theorem dX7_doQuarrel_44 : decode cX7_doQuarrel 44 = .ok (.iconst 0, 1) := by decide +kernel
theorem dX7_doQuarrel_45 : decode cX7_doQuarrel 45 = .ok (.ireturn, 1) := by decide +kernel
theorem dX7_quarrels_0 : decode cX7_quarrels 0 = .ok (.iconst 0, 1) := by decide +kernel
theorem dX7_quarrels_1 : decode cX7_quarrels 1 = .ok (.istore_n 1, 1) := by decide +kernel
theorem dX7_quarrels_2 : decode cX7_quarrels 2 = .ok (.iconst 0, 1) := by decide +kernel
theorem dX7_quarrels_3 : decode cX7_quarrels 3 = .ok (.istore_n 2, 1) := by decide +kernel
theorem dX7_quarrels_4 : decode cX7_quarrels 4 = .ok (.iload_n 2, 1) := by decide +kernel
theorem dX7_quarrels_5 : decode cX7_quarrels 5 = .ok (.bipush 16, 2) := by decide +kernel
theorem dX7_quarrels_7 : decode cX7_quarrels 7 = .ok (.if_icmp .ge 32, 3) := by decide +kernel
theorem dX7_quarrels_10 : decode cX7_quarrels 10 = .ok (.iload_n 1, 1) := by decide +kernel
theorem dX7_quarrels_11 : decode cX7_quarrels 11 = .ok (.aload_n 0, 1) := by decide +kernel
theorem dX7_quarrels_12 : decode cX7_quarrels 12 = .ok (.iload_n 2, 1) := by decide +kernel
theorem dX7_quarrels_13 : decode cX7_quarrels 13 = .ok (.iconst 4, 1) := by decide +kernel
theorem dX7_quarrels_14 : decode cX7_quarrels 14 = .ok (.idiv, 1) := by decide +kernel
theorem dX7_quarrels_15 : decode cX7_quarrels 15 = .ok (.iconst 4, 1) := by decide +kernel
theorem dX7_quarrels_16 : decode cX7_quarrels 16 = .ok (.iload_n 2, 1) := by decide +kernel
theorem dX7_quarrels_17 : decode cX7_quarrels 17 = .ok (.iconst 4, 1) := by decide +kernel
theorem dX7_quarrels_18 : decode cX7_quarrels 18 = .ok (.irem, 1) := by decide +kernel
theorem dX7_quarrels_19 : decode cX7_quarrels 19 = .ok (.iadd, 1) := by decide +kernel
theorem dX7_quarrels_20 : decode cX7_quarrels 20 = .ok (.invokevirtual 234, 3) := by decide +kernel
theorem dX7_quarrels_23 : decode cX7_quarrels 23 = .ok (.ifCond .eq 7, 3) := by decide +kernel
theorem dX7_quarrels_26 : decode cX7_quarrels 26 = .ok (.iconst 1, 1) := by decide +kernel
theorem dX7_quarrels_27 : decode cX7_quarrels 27 = .ok (.goto 4, 3) := by decide +kernel
theorem dX7_quarrels_30 : decode cX7_quarrels 30 = .ok (.iconst 0, 1) := by decide +kernel
theorem dX7_quarrels_31 : decode cX7_quarrels 31 = .ok (.iadd, 1) := by decide +kernel
theorem dX7_quarrels_32 : decode cX7_quarrels 32 = .ok (.istore_n 1, 1) := by decide +kernel
theorem dX7_quarrels_33 : decode cX7_quarrels 33 = .ok (.iinc 2 1, 3) := by decide +kernel
theorem dX7_quarrels_36 : decode cX7_quarrels 36 = .ok (.goto (-32), 3) := by decide +kernel
theorem dX7_quarrels_39 : decode cX7_quarrels 39 = .ok (.iload_n 1, 1) := by decide +kernel
theorem dX7_quarrels_40 : decode cX7_quarrels 40 = .ok (.ireturn, 1) := by decide +kernel
theorem dX7_hold_0 : decode cX7_hold 0 = .ok (.iload_n 1, 1) := by decide +kernel
theorem dX7_hold_1 : decode cX7_hold 1 = .ok (.ifCond .eq 16, 3) := by decide +kernel
theorem dX7_hold_4 : decode cX7_hold 4 = .ok (.aload_n 0, 1) := by decide +kernel
theorem dX7_hold_5 : decode cX7_hold 5 = .ok (.iload_n 1, 1) := by decide +kernel
theorem dX7_hold_6 : decode cX7_hold 6 = .ok (.bipush 10, 2) := by decide +kernel
theorem dX7_hold_8 : decode cX7_hold 8 = .ok (.isub, 1) := by decide +kernel
theorem dX7_hold_9 : decode cX7_hold 9 = .ok (.invokevirtual 158, 3) := by decide +kernel
theorem dX7_hold_12 : decode cX7_hold 12 = .ok (.ifCond .ne 5, 3) := by decide +kernel
theorem dX7_hold_15 : decode cX7_hold 15 = .ok (.iconst (-1), 1) := by decide +kernel
theorem dX7_hold_16 : decode cX7_hold 16 = .ok (.ireturn, 1) := by decide +kernel
theorem dX7_hold_17 : decode cX7_hold 17 = .ok (.aload_n 0, 1) := by decide +kernel
theorem dX7_hold_18 : decode cX7_hold 18 = .ok (.iconst 0, 1) := by decide +kernel
theorem dX7_hold_19 : decode cX7_hold 19 = .ok (.invokevirtual 225, 3) := by decide +kernel
theorem dX7_hold_22 : decode cX7_hold 22 = .ok (.iconst 0, 1) := by decide +kernel
theorem dX7_hold_23 : decode cX7_hold 23 = .ok (.istore_n 2, 1) := by decide +kernel
theorem dX7_hold_24 : decode cX7_hold 24 = .ok (.iconst 0, 1) := by decide +kernel
theorem dX7_hold_25 : decode cX7_hold 25 = .ok (.istore_n 3, 1) := by decide +kernel
theorem dX7_hold_26 : decode cX7_hold 26 = .ok (.iload_n 3, 1) := by decide +kernel
theorem dX7_hold_27 : decode cX7_hold 27 = .ok (.sipush 625, 3) := by decide +kernel
theorem dX7_hold_30 : decode cX7_hold 30 = .ok (.if_icmp .ge 69, 3) := by decide +kernel
theorem dX7_hold_33 : decode cX7_hold 33 = .ok (.aload_n 0, 1) := by decide +kernel
theorem dX7_hold_34 : decode cX7_hold 34 = .ok (.iload_n 3, 1) := by decide +kernel
theorem dX7_hold_35 : decode cX7_hold 35 = .ok (.invokevirtual 237, 3) := by decide +kernel
theorem dX7_hold_38 : decode cX7_hold 38 = .ok (.ifCond .eq 14, 3) := by decide +kernel
theorem dX7_hold_41 : decode cX7_hold 41 = .ok (.aload_n 0, 1) := by decide +kernel
theorem dX7_hold_42 : decode cX7_hold 42 = .ok (.invokevirtual 240, 3) := by decide +kernel
theorem dX7_hold_45 : decode cX7_hold 45 = .ok (.ifCond .ne 7, 3) := by decide +kernel
theorem dX7_hold_48 : decode cX7_hold 48 = .ok (.iconst 1, 1) := by decide +kernel
theorem dX7_hold_49 : decode cX7_hold 49 = .ok (.goto 4, 3) := by decide +kernel
theorem dX7_hold_52 : decode cX7_hold 52 = .ok (.iconst 0, 1) := by decide +kernel
theorem dX7_hold_53 : decode cX7_hold 53 = .ok (.istore 4, 2) := by decide +kernel
theorem dX7_hold_55 : decode cX7_hold 55 = .ok (.iload_n 2, 1) := by decide +kernel
theorem dX7_hold_56 : decode cX7_hold 56 = .ok (.iload 4, 2) := by decide +kernel
theorem dX7_hold_58 : decode cX7_hold 58 = .ok (.ifCond .eq 32, 3) := by decide +kernel
theorem dX7_hold_61 : decode cX7_hold 61 = .ok (.iload_n 1, 1) := by decide +kernel
theorem dX7_hold_62 : decode cX7_hold 62 = .ok (.ifCond .eq 24, 3) := by decide +kernel
theorem dX7_hold_65 : decode cX7_hold 65 = .ok (.aload_n 0, 1) := by decide +kernel
theorem dX7_hold_66 : decode cX7_hold 66 = .ok (.getfield 34, 3) := by decide +kernel
theorem dX7_hold_69 : decode cX7_hold 69 = .ok (.iload_n 1, 1) := by decide +kernel
theorem dX7_hold_70 : decode cX7_hold 70 = .ok (.bipush 10, 2) := by decide +kernel
theorem dX7_hold_72 : decode cX7_hold 72 = .ok (.isub, 1) := by decide +kernel
theorem dX7_hold_73 : decode cX7_hold 73 = .ok (.iaload, 1) := by decide +kernel
theorem dX7_hold_74 : decode cX7_hold 74 = .ok (.aload_n 0, 1) := by decide +kernel
theorem dX7_hold_75 : decode cX7_hold 75 = .ok (.getfield 28, 3) := by decide +kernel
theorem dX7_hold_78 : decode cX7_hold 78 = .ok (.iload_n 1, 1) := by decide +kernel
theorem dX7_hold_79 : decode cX7_hold 79 = .ok (.bipush 10, 2) := by decide +kernel
theorem dX7_hold_81 : decode cX7_hold 81 = .ok (.isub, 1) := by decide +kernel
theorem dX7_hold_82 : decode cX7_hold 82 = .ok (.iaload, 1) := by decide +kernel
theorem dX7_hold_83 : decode cX7_hold 83 = .ok (.if_icmp .ne 7, 3) := by decide +kernel
theorem dX7_hold_86 : decode cX7_hold 86 = .ok (.iconst 1, 1) := by decide +kernel
theorem dX7_hold_87 : decode cX7_hold 87 = .ok (.goto 4, 3) := by decide +kernel
theorem dX7_hold_90 : decode cX7_hold 90 = .ok (.iconst 0, 1) := by decide +kernel
theorem dX7_hold_91 : decode cX7_hold 91 = .ok (.iadd, 1) := by decide +kernel
theorem dX7_hold_92 : decode cX7_hold 92 = .ok (.istore_n 2, 1) := by decide +kernel
theorem dX7_hold_93 : decode cX7_hold 93 = .ok (.iinc 3 1, 3) := by decide +kernel
theorem dX7_hold_96 : decode cX7_hold 96 = .ok (.goto (-70), 3) := by decide +kernel
theorem dX7_hold_99 : decode cX7_hold 99 = .ok (.iload_n 2, 1) := by decide +kernel
theorem dX7_hold_100 : decode cX7_hold 100 = .ok (.ireturn, 1) := by decide +kernel
theorem dX7_most_0 : decode cX7_most 0 = .ok (.iload_n 1, 1) := by decide +kernel
theorem dX7_most_1 : decode cX7_most 1 = .ok (.ifCond .eq 24, 3) := by decide +kernel
theorem dX7_most_4 : decode cX7_most 4 = .ok (.iload_n 1, 1) := by decide +kernel
theorem dX7_most_5 : decode cX7_most 5 = .ok (.i2l, 1) := by decide +kernel
theorem dX7_most_6 : decode cX7_most 6 = .ok (.ldc2_w 243, 3) := by decide +kernel
theorem dX7_most_9 : decode cX7_most 9 = .ok (.bipush 9, 2) := by decide +kernel
theorem dX7_most_11 : decode cX7_most 11 = .ok (.aload_n 0, 1) := by decide +kernel
theorem dX7_most_12 : decode cX7_most 12 = .ok (.getfield 147, 3) := by decide +kernel
theorem dX7_most_15 : decode cX7_most 15 = .ok (.iadd, 1) := by decide +kernel
theorem dX7_most_16 : decode cX7_most 16 = .ok (.i2l, 1) := by decide +kernel
theorem dX7_most_17 : decode cX7_most 17 = .ok (.invokestatic 58, 3) := by decide +kernel
theorem dX7_most_20 : decode cX7_most 20 = .ok (.ifCond .ne 5, 3) := by decide +kernel
theorem dX7_most_23 : decode cX7_most 23 = .ok (.iconst (-1), 1) := by decide +kernel
theorem dX7_most_24 : decode cX7_most 24 = .ok (.ireturn, 1) := by decide +kernel
theorem dX7_most_25 : decode cX7_most 25 = .ok (.aload_n 0, 1) := by decide +kernel
theorem dX7_most_26 : decode cX7_most 26 = .ok (.iconst 0, 1) := by decide +kernel
theorem dX7_most_27 : decode cX7_most 27 = .ok (.invokevirtual 195, 3) := by decide +kernel
theorem dX7_most_30 : decode cX7_most 30 = .ok (.iconst (-1), 1) := by decide +kernel
theorem dX7_most_31 : decode cX7_most 31 = .ok (.istore_n 2, 1) := by decide +kernel
theorem dX7_most_32 : decode cX7_most 32 = .ok (.iconst 0, 1) := by decide +kernel
theorem dX7_most_33 : decode cX7_most 33 = .ok (.istore_n 3, 1) := by decide +kernel
theorem dX7_most_34 : decode cX7_most 34 = .ok (.iconst 0, 1) := by decide +kernel
theorem dX7_most_35 : decode cX7_most 35 = .ok (.istore 4, 2) := by decide +kernel
theorem dX7_most_37 : decode cX7_most 37 = .ok (.iload 4, 2) := by decide +kernel
theorem dX7_most_39 : decode cX7_most 39 = .ok (.sipush 625, 3) := by decide +kernel
theorem dX7_most_42 : decode cX7_most 42 = .ok (.if_icmp .ge 102, 3) := by decide +kernel
theorem dX7_most_45 : decode cX7_most 45 = .ok (.aload_n 0, 1) := by decide +kernel
theorem dX7_most_46 : decode cX7_most 46 = .ok (.iload 4, 2) := by decide +kernel
theorem dX7_most_48 : decode cX7_most 48 = .ok (.invokevirtual 237, 3) := by decide +kernel
theorem dX7_most_51 : decode cX7_most 51 = .ok (.ifCond .eq 87, 3) := by decide +kernel
theorem dX7_most_54 : decode cX7_most 54 = .ok (.iconst 0, 1) := by decide +kernel
theorem dX7_most_55 : decode cX7_most 55 = .ok (.istore 5, 2) := by decide +kernel
theorem dX7_most_57 : decode cX7_most 57 = .ok (.iconst 0, 1) := by decide +kernel
theorem dX7_most_58 : decode cX7_most 58 = .ok (.istore 6, 2) := by decide +kernel
theorem dX7_most_60 : decode cX7_most 60 = .ok (.iload 6, 2) := by decide +kernel
theorem dX7_most_62 : decode cX7_most 62 = .ok (.bipush 8, 2) := by decide +kernel
theorem dX7_most_64 : decode cX7_most 64 = .ok (.if_icmp .ge 48, 3) := by decide +kernel
theorem dX7_most_67 : decode cX7_most 67 = .ok (.iload 5, 2) := by decide +kernel
theorem dX7_most_69 : decode cX7_most 69 = .ok (.aload_n 0, 1) := by decide +kernel
theorem dX7_most_70 : decode cX7_most 70 = .ok (.getfield 34, 3) := by decide +kernel
theorem dX7_most_73 : decode cX7_most 73 = .ok (.iload 6, 2) := by decide +kernel
theorem dX7_most_75 : decode cX7_most 75 = .ok (.iaload, 1) := by decide +kernel
theorem dX7_most_76 : decode cX7_most 76 = .ok (.bipush (-4), 2) := by decide +kernel
theorem dX7_most_78 : decode cX7_most 78 = .ok (.if_icmp .eq 24, 3) := by decide +kernel
theorem dX7_most_81 : decode cX7_most 81 = .ok (.aload_n 0, 1) := by decide +kernel
theorem dX7_most_82 : decode cX7_most 82 = .ok (.getfield 25, 3) := by decide +kernel
theorem dX7_most_85 : decode cX7_most 85 = .ok (.bipush 8, 2) := by decide +kernel
theorem dX7_most_87 : decode cX7_most 87 = .ok (.iload 6, 2) := by decide +kernel
theorem dX7_most_89 : decode cX7_most 89 = .ok (.imul, 1) := by decide +kernel
theorem dX7_most_90 : decode cX7_most 90 = .ok (.aload_n 0, 1) := by decide +kernel
theorem dX7_most_91 : decode cX7_most 91 = .ok (.getfield 34, 3) := by decide +kernel
theorem dX7_most_94 : decode cX7_most 94 = .ok (.iload 6, 2) := by decide +kernel
theorem dX7_most_96 : decode cX7_most 96 = .ok (.iaload, 1) := by decide +kernel
theorem dX7_most_97 : decode cX7_most 97 = .ok (.iadd, 1) := by decide +kernel
theorem dX7_most_98 : decode cX7_most 98 = .ok (.iaload, 1) := by decide +kernel
theorem dX7_most_99 : decode cX7_most 99 = .ok (.goto 4, 3) := by decide +kernel
theorem dX7_most_102 : decode cX7_most 102 = .ok (.iconst 0, 1) := by decide +kernel
theorem dX7_most_103 : decode cX7_most 103 = .ok (.iadd, 1) := by decide +kernel
theorem dX7_most_104 : decode cX7_most 104 = .ok (.istore 5, 2) := by decide +kernel
theorem dX7_most_106 : decode cX7_most 106 = .ok (.iinc 6 1, 3) := by decide +kernel
theorem dX7_most_109 : decode cX7_most 109 = .ok (.goto (-49), 3) := by decide +kernel
theorem dX7_most_112 : decode cX7_most 112 = .ok (.iload 5, 2) := by decide +kernel
theorem dX7_most_114 : decode cX7_most 114 = .ok (.iload_n 2, 1) := by decide +kernel
theorem dX7_most_115 : decode cX7_most 115 = .ok (.if_icmp .le 8, 3) := by decide +kernel
theorem dX7_most_118 : decode cX7_most 118 = .ok (.iload 4, 2) := by decide +kernel
theorem dX7_most_120 : decode cX7_most 120 = .ok (.goto 4, 3) := by decide +kernel
theorem dX7_most_123 : decode cX7_most 123 = .ok (.iload_n 3, 1) := by decide +kernel
theorem dX7_most_124 : decode cX7_most 124 = .ok (.istore_n 3, 1) := by decide +kernel
theorem dX7_most_125 : decode cX7_most 125 = .ok (.iload 5, 2) := by decide +kernel
theorem dX7_most_127 : decode cX7_most 127 = .ok (.iload_n 2, 1) := by decide +kernel
theorem dX7_most_128 : decode cX7_most 128 = .ok (.if_icmp .le 8, 3) := by decide +kernel
theorem dX7_most_131 : decode cX7_most 131 = .ok (.iload 5, 2) := by decide +kernel
theorem dX7_most_133 : decode cX7_most 133 = .ok (.goto 4, 3) := by decide +kernel
theorem dX7_most_136 : decode cX7_most 136 = .ok (.iload_n 2, 1) := by decide +kernel
theorem dX7_most_137 : decode cX7_most 137 = .ok (.istore_n 2, 1) := by decide +kernel
theorem dX7_most_138 : decode cX7_most 138 = .ok (.iinc 4 1, 3) := by decide +kernel
theorem dX7_most_141 : decode cX7_most 141 = .ok (.goto (-104), 3) := by decide +kernel
theorem dX7_most_144 : decode cX7_most 144 = .ok (.aload_n 0, 1) := by decide +kernel
theorem dX7_most_145 : decode cX7_most 145 = .ok (.iload_n 3, 1) := by decide +kernel
theorem dX7_most_146 : decode cX7_most 146 = .ok (.invokevirtual 237, 3) := by decide +kernel
theorem dX7_most_149 : decode cX7_most 149 = .ok (.pop, 1) := by decide +kernel
theorem dX7_most_150 : decode cX7_most 150 = .ok (.iload_n 1, 1) := by decide +kernel
theorem dX7_most_151 : decode cX7_most 151 = .ok (.ifCond .ne 7, 3) := by decide +kernel
theorem dX7_most_154 : decode cX7_most 154 = .ok (.iload_n 2, 1) := by decide +kernel
theorem dX7_most_155 : decode cX7_most 155 = .ok (.goto 12, 3) := by decide +kernel
theorem dX7_most_158 : decode cX7_most 158 = .ok (.aload_n 0, 1) := by decide +kernel
theorem dX7_most_159 : decode cX7_most 159 = .ok (.getfield 34, 3) := by decide +kernel
theorem dX7_most_162 : decode cX7_most 162 = .ok (.iload_n 1, 1) := by decide +kernel
theorem dX7_most_163 : decode cX7_most 163 = .ok (.bipush 10, 2) := by decide +kernel
theorem dX7_most_165 : decode cX7_most 165 = .ok (.isub, 1) := by decide +kernel
theorem dX7_most_166 : decode cX7_most 166 = .ok (.iaload, 1) := by decide +kernel
theorem dX7_most_167 : decode cX7_most 167 = .ok (.ireturn, 1) := by decide +kernel
theorem dX7_quarrel_0 : decode cX7_quarrel 0 = .ok (.iload_n 1, 1) := by decide +kernel
theorem dX7_quarrel_1 : decode cX7_quarrel 1 = .ok (.i2l, 1) := by decide +kernel
theorem dX7_quarrel_2 : decode cX7_quarrel 2 = .ok (.lconst 0, 1) := by decide +kernel
theorem dX7_quarrel_3 : decode cX7_quarrel 3 = .ok (.lconst 1, 1) := by decide +kernel
theorem dX7_quarrel_4 : decode cX7_quarrel 4 = .ok (.invokestatic 58, 3) := by decide +kernel
theorem dX7_quarrel_7 : decode cX7_quarrel 7 = .ok (.ifCond .ne 5, 3) := by decide +kernel
theorem dX7_quarrel_10 : decode cX7_quarrel 10 = .ok (.iconst (-1), 1) := by decide +kernel
theorem dX7_quarrel_11 : decode cX7_quarrel 11 = .ok (.ireturn, 1) := by decide +kernel
theorem dX7_quarrel_12 : decode cX7_quarrel 12 = .ok (.aload_n 0, 1) := by decide +kernel
theorem dX7_quarrel_13 : decode cX7_quarrel 13 = .ok (.iconst 0, 1) := by decide +kernel
theorem dX7_quarrel_14 : decode cX7_quarrel 14 = .ok (.invokevirtual 195, 3) := by decide +kernel
theorem dX7_quarrel_17 : decode cX7_quarrel 17 = .ok (.iconst 0, 1) := by decide +kernel
theorem dX7_quarrel_18 : decode cX7_quarrel 18 = .ok (.istore_n 2, 1) := by decide +kernel
theorem dX7_quarrel_19 : decode cX7_quarrel 19 = .ok (.iload_n 2, 1) := by decide +kernel
theorem dX7_quarrel_20 : decode cX7_quarrel 20 = .ok (.bipush 8, 2) := by decide +kernel
theorem dX7_quarrel_22 : decode cX7_quarrel 22 = .ok (.if_icmp .ge 20, 3) := by decide +kernel
theorem dX7_quarrel_25 : decode cX7_quarrel 25 = .ok (.aload_n 0, 1) := by decide +kernel
theorem dX7_quarrel_26 : decode cX7_quarrel 26 = .ok (.getfield 34, 3) := by decide +kernel
theorem dX7_quarrel_29 : decode cX7_quarrel 29 = .ok (.iload_n 2, 1) := by decide +kernel
theorem dX7_quarrel_30 : decode cX7_quarrel 30 = .ok (.aload_n 0, 1) := by decide +kernel
theorem dX7_quarrel_31 : decode cX7_quarrel 31 = .ok (.iload_n 2, 1) := by decide +kernel
theorem dX7_quarrel_32 : decode cX7_quarrel 32 = .ok (.invokevirtual 162, 3) := by decide +kernel
theorem dX7_quarrel_35 : decode cX7_quarrel 35 = .ok (.iastore, 1) := by decide +kernel
theorem dX7_quarrel_36 : decode cX7_quarrel 36 = .ok (.iinc 2 1, 3) := by decide +kernel
theorem dX7_quarrel_39 : decode cX7_quarrel 39 = .ok (.goto (-20), 3) := by decide +kernel
theorem dX7_quarrel_42 : decode cX7_quarrel 42 = .ok (.iload_n 1, 1) := by decide +kernel
theorem dX7_quarrel_43 : decode cX7_quarrel 43 = .ok (.ifCond .ne 8, 3) := by decide +kernel
theorem dX7_quarrel_46 : decode cX7_quarrel 46 = .ok (.aload_n 0, 1) := by decide +kernel
theorem dX7_quarrel_47 : decode cX7_quarrel 47 = .ok (.invokevirtual 240, 3) := by decide +kernel
theorem dX7_quarrel_50 : decode cX7_quarrel 50 = .ok (.ireturn, 1) := by decide +kernel
theorem dX7_quarrel_51 : decode cX7_quarrel 51 = .ok (.iconst 0, 1) := by decide +kernel
theorem dX7_quarrel_52 : decode cX7_quarrel 52 = .ok (.istore_n 2, 1) := by decide +kernel
theorem dX7_quarrel_53 : decode cX7_quarrel 53 = .ok (.iload_n 2, 1) := by decide +kernel
theorem dX7_quarrel_54 : decode cX7_quarrel 54 = .ok (.bipush 16, 2) := by decide +kernel
theorem dX7_quarrel_56 : decode cX7_quarrel 56 = .ok (.if_icmp .ge 37, 3) := by decide +kernel
theorem dX7_quarrel_59 : decode cX7_quarrel 59 = .ok (.aload_n 0, 1) := by decide +kernel
theorem dX7_quarrel_60 : decode cX7_quarrel 60 = .ok (.iload_n 2, 1) := by decide +kernel
theorem dX7_quarrel_61 : decode cX7_quarrel 61 = .ok (.iconst 4, 1) := by decide +kernel
theorem dX7_quarrel_62 : decode cX7_quarrel 62 = .ok (.idiv, 1) := by decide +kernel
theorem dX7_quarrel_63 : decode cX7_quarrel 63 = .ok (.iconst 4, 1) := by decide +kernel
theorem dX7_quarrel_64 : decode cX7_quarrel 64 = .ok (.iload_n 2, 1) := by decide +kernel
theorem dX7_quarrel_65 : decode cX7_quarrel 65 = .ok (.iconst 4, 1) := by decide +kernel
theorem dX7_quarrel_66 : decode cX7_quarrel 66 = .ok (.irem, 1) := by decide +kernel
theorem dX7_quarrel_67 : decode cX7_quarrel 67 = .ok (.iadd, 1) := by decide +kernel
theorem dX7_quarrel_68 : decode cX7_quarrel 68 = .ok (.invokevirtual 234, 3) := by decide +kernel
theorem dX7_quarrel_71 : decode cX7_quarrel 71 = .ok (.ifCond .eq 16, 3) := by decide +kernel
theorem dX7_quarrel_74 : decode cX7_quarrel 74 = .ok (.bipush 10, 2) := by decide +kernel
theorem dX7_quarrel_76 : decode cX7_quarrel 76 = .ok (.iload_n 2, 1) := by decide +kernel
theorem dX7_quarrel_77 : decode cX7_quarrel 77 = .ok (.iconst 4, 1) := by decide +kernel
theorem dX7_quarrel_78 : decode cX7_quarrel 78 = .ok (.idiv, 1) := by decide +kernel
theorem dX7_quarrel_79 : decode cX7_quarrel 79 = .ok (.imul, 1) := by decide +kernel
theorem dX7_quarrel_80 : decode cX7_quarrel 80 = .ok (.iconst 4, 1) := by decide +kernel
theorem dX7_quarrel_81 : decode cX7_quarrel 81 = .ok (.iadd, 1) := by decide +kernel
theorem dX7_quarrel_82 : decode cX7_quarrel 82 = .ok (.iload_n 2, 1) := by decide +kernel
theorem dX7_quarrel_83 : decode cX7_quarrel 83 = .ok (.iconst 4, 1) := by decide +kernel
theorem dX7_quarrel_84 : decode cX7_quarrel 84 = .ok (.irem, 1) := by decide +kernel
theorem dX7_quarrel_85 : decode cX7_quarrel 85 = .ok (.iadd, 1) := by decide +kernel
theorem dX7_quarrel_86 : decode cX7_quarrel 86 = .ok (.ireturn, 1) := by decide +kernel
theorem dX7_quarrel_87 : decode cX7_quarrel 87 = .ok (.iinc 2 1, 3) := by decide +kernel
theorem dX7_quarrel_90 : decode cX7_quarrel 90 = .ok (.goto (-37), 3) := by decide +kernel
theorem dX7_quarrel_93 : decode cX7_quarrel 93 = .ok (.bipush (-4), 2) := by decide +kernel
theorem dX7_quarrel_95 : decode cX7_quarrel 95 = .ok (.ireturn, 1) := by decide +kernel
theorem dX7_alone_0 : decode cX7_alone 0 = .ok (.aload_n 0, 1) := by decide +kernel
theorem dX7_alone_1 : decode cX7_alone 1 = .ok (.iconst 0, 1) := by decide +kernel
theorem dX7_alone_2 : decode cX7_alone 2 = .ok (.invokevirtual 225, 3) := by decide +kernel
theorem dX7_alone_5 : decode cX7_alone 5 = .ok (.iconst 0, 1) := by decide +kernel
theorem dX7_alone_6 : decode cX7_alone 6 = .ok (.istore_n 1, 1) := by decide +kernel
theorem dX7_alone_7 : decode cX7_alone 7 = .ok (.iconst 0, 1) := by decide +kernel
theorem dX7_alone_8 : decode cX7_alone 8 = .ok (.istore_n 2, 1) := by decide +kernel
theorem dX7_alone_9 : decode cX7_alone 9 = .ok (.iload_n 2, 1) := by decide +kernel
theorem dX7_alone_10 : decode cX7_alone 10 = .ok (.bipush 8, 2) := by decide +kernel
theorem dX7_alone_12 : decode cX7_alone 12 = .ok (.if_icmp .ge 38, 3) := by decide +kernel
theorem dX7_alone_15 : decode cX7_alone 15 = .ok (.iload_n 1, 1) := by decide +kernel
theorem dX7_alone_16 : decode cX7_alone 16 = .ok (.aload_n 0, 1) := by decide +kernel
theorem dX7_alone_17 : decode cX7_alone 17 = .ok (.iload_n 2, 1) := by decide +kernel
theorem dX7_alone_18 : decode cX7_alone 18 = .ok (.invokevirtual 158, 3) := by decide +kernel
theorem dX7_alone_21 : decode cX7_alone 21 = .ok (.ifCond .eq 20, 3) := by decide +kernel
theorem dX7_alone_24 : decode cX7_alone 24 = .ok (.aload_n 0, 1) := by decide +kernel
theorem dX7_alone_25 : decode cX7_alone 25 = .ok (.getfield 28, 3) := by decide +kernel
theorem dX7_alone_28 : decode cX7_alone 28 = .ok (.iload_n 2, 1) := by decide +kernel
theorem dX7_alone_29 : decode cX7_alone 29 = .ok (.iaload, 1) := by decide +kernel
theorem dX7_alone_30 : decode cX7_alone 30 = .ok (.bipush (-4), 2) := by decide +kernel
theorem dX7_alone_32 : decode cX7_alone 32 = .ok (.if_icmp .ne 9, 3) := by decide +kernel
theorem dX7_alone_35 : decode cX7_alone 35 = .ok (.iconst 1, 1) := by decide +kernel
theorem dX7_alone_36 : decode cX7_alone 36 = .ok (.iload_n 2, 1) := by decide +kernel
theorem dX7_alone_37 : decode cX7_alone 37 = .ok (.ishl, 1) := by decide +kernel
theorem dX7_alone_38 : decode cX7_alone 38 = .ok (.goto 4, 3) := by decide +kernel
theorem dX7_alone_41 : decode cX7_alone 41 = .ok (.iconst 0, 1) := by decide +kernel
theorem dX7_alone_42 : decode cX7_alone 42 = .ok (.ior, 1) := by decide +kernel
theorem dX7_alone_43 : decode cX7_alone 43 = .ok (.istore_n 1, 1) := by decide +kernel
theorem dX7_alone_44 : decode cX7_alone 44 = .ok (.iinc 2 1, 3) := by decide +kernel
theorem dX7_alone_47 : decode cX7_alone 47 = .ok (.goto (-38), 3) := by decide +kernel
theorem dX7_alone_50 : decode cX7_alone 50 = .ok (.iload_n 1, 1) := by decide +kernel
theorem dX7_alone_51 : decode cX7_alone 51 = .ok (.ireturn, 1) := by decide +kernel
theorem dX7_copies_0 : decode cX7_copies 0 = .ok (.iconst 0, 1) := by decide +kernel
theorem dX7_copies_1 : decode cX7_copies 1 = .ok (.istore_n 3, 1) := by decide +kernel
theorem dX7_copies_2 : decode cX7_copies 2 = .ok (.iload_n 3, 1) := by decide +kernel
theorem dX7_copies_3 : decode cX7_copies 3 = .ok (.bipush 50, 2) := by decide +kernel
theorem dX7_copies_5 : decode cX7_copies 5 = .ok (.if_icmp .ge 25, 3) := by decide +kernel
theorem dX7_copies_8 : decode cX7_copies 8 = .ok (.aload_n 0, 1) := by decide +kernel
theorem dX7_copies_9 : decode cX7_copies 9 = .ok (.getfield 7, 3) := by decide +kernel
theorem dX7_copies_12 : decode cX7_copies 12 = .ok (.iload_n 2, 1) := by decide +kernel
theorem dX7_copies_13 : decode cX7_copies 13 = .ok (.iload_n 3, 1) := by decide +kernel
theorem dX7_copies_14 : decode cX7_copies 14 = .ok (.iadd, 1) := by decide +kernel
theorem dX7_copies_15 : decode cX7_copies 15 = .ok (.aload_n 0, 1) := by decide +kernel
theorem dX7_copies_16 : decode cX7_copies 16 = .ok (.getfield 7, 3) := by decide +kernel
theorem dX7_copies_19 : decode cX7_copies 19 = .ok (.iload_n 1, 1) := by decide +kernel
theorem dX7_copies_20 : decode cX7_copies 20 = .ok (.iload_n 3, 1) := by decide +kernel
theorem dX7_copies_21 : decode cX7_copies 21 = .ok (.iadd, 1) := by decide +kernel
theorem dX7_copies_22 : decode cX7_copies 22 = .ok (.iaload, 1) := by decide +kernel
theorem dX7_copies_23 : decode cX7_copies 23 = .ok (.iastore, 1) := by decide +kernel
theorem dX7_copies_24 : decode cX7_copies 24 = .ok (.iinc 3 1, 3) := by decide +kernel
theorem dX7_copies_27 : decode cX7_copies 27 = .ok (.goto (-25), 3) := by decide +kernel
theorem dX7_copies_30 : decode cX7_copies 30 = .ok (.return_, 1) := by decide +kernel
theorem dX7_nears_0 : decode cX7_nears 0 = .ok (.aload_n 0, 1) := by decide +kernel
theorem dX7_nears_1 : decode cX7_nears 1 = .ok (.getfield 7, 3) := by decide +kernel
theorem dX7_nears_4 : decode cX7_nears 4 = .ok (.iload_n 1, 1) := by decide +kernel
theorem dX7_nears_5 : decode cX7_nears 5 = .ok (.iload_n 2, 1) := by decide +kernel
theorem dX7_nears_6 : decode cX7_nears 6 = .ok (.iadd, 1) := by decide +kernel
theorem dX7_nears_7 : decode cX7_nears 7 = .ok (.iaload, 1) := by decide +kernel
theorem dX7_nears_8 : decode cX7_nears 8 = .ok (.istore 4, 2) := by decide +kernel
theorem dX7_nears_10 : decode cX7_nears 10 = .ok (.aload_n 0, 1) := by decide +kernel
theorem dX7_nears_11 : decode cX7_nears 11 = .ok (.getfield 7, 3) := by decide +kernel
theorem dX7_nears_14 : decode cX7_nears 14 = .ok (.iload_n 1, 1) := by decide +kernel
theorem dX7_nears_15 : decode cX7_nears 15 = .ok (.iload_n 3, 1) := by decide +kernel
theorem dX7_nears_16 : decode cX7_nears 16 = .ok (.iadd, 1) := by decide +kernel
theorem dX7_nears_17 : decode cX7_nears 17 = .ok (.iaload, 1) := by decide +kernel
theorem dX7_nears_18 : decode cX7_nears 18 = .ok (.istore 5, 2) := by decide +kernel
theorem dX7_nears_20 : decode cX7_nears 20 = .ok (.iload 4, 2) := by decide +kernel
theorem dX7_nears_22 : decode cX7_nears 22 = .ok (.iload 5, 2) := by decide +kernel
theorem dX7_nears_24 : decode cX7_nears 24 = .ok (.invokestatic 189, 3) := by decide +kernel
theorem dX7_nears_27 : decode cX7_nears 27 = .ok (.istore 6, 2) := by decide +kernel
theorem dX7_nears_29 : decode cX7_nears 29 = .ok (.iload 4, 2) := by decide +kernel
theorem dX7_nears_31 : decode cX7_nears 31 = .ok (.iload 5, 2) := by decide +kernel
theorem dX7_nears_33 : decode cX7_nears 33 = .ok (.if_icmp .ge 7, 3) := by decide +kernel
theorem dX7_nears_36 : decode cX7_nears 36 = .ok (.iconst 1, 1) := by decide +kernel
theorem dX7_nears_37 : decode cX7_nears 37 = .ok (.goto 4, 3) := by decide +kernel
theorem dX7_nears_40 : decode cX7_nears 40 = .ok (.iconst 0, 1) := by decide +kernel
theorem dX7_nears_41 : decode cX7_nears 41 = .ok (.istore 7, 2) := by decide +kernel
theorem dX7_nears_43 : decode cX7_nears 43 = .ok (.iload 6, 2) := by decide +kernel
theorem dX7_nears_45 : decode cX7_nears 45 = .ok (.ifCond .le 7, 3) := by decide +kernel
theorem dX7_nears_48 : decode cX7_nears 48 = .ok (.iconst 1, 1) := by decide +kernel
theorem dX7_nears_49 : decode cX7_nears 49 = .ok (.goto 4, 3) := by decide +kernel
theorem dX7_nears_52 : decode cX7_nears 52 = .ok (.iconst 0, 1) := by decide +kernel
theorem dX7_nears_53 : decode cX7_nears 53 = .ok (.istore 8, 2) := by decide +kernel
theorem dX7_nears_55 : decode cX7_nears 55 = .ok (.iload 6, 2) := by decide +kernel
theorem dX7_nears_57 : decode cX7_nears 57 = .ok (.iconst 1, 1) := by decide +kernel
theorem dX7_nears_58 : decode cX7_nears 58 = .ok (.if_icmp .le 7, 3) := by decide +kernel
theorem dX7_nears_61 : decode cX7_nears 61 = .ok (.iconst 1, 1) := by decide +kernel
theorem dX7_nears_62 : decode cX7_nears 62 = .ok (.goto 4, 3) := by decide +kernel
theorem dX7_nears_65 : decode cX7_nears 65 = .ok (.iconst 0, 1) := by decide +kernel
theorem dX7_nears_66 : decode cX7_nears 66 = .ok (.istore 9, 2) := by decide +kernel
theorem dX7_nears_68 : decode cX7_nears 68 = .ok (.aload_n 0, 1) := by decide +kernel
theorem dX7_nears_69 : decode cX7_nears 69 = .ok (.getfield 7, 3) := by decide +kernel
theorem dX7_nears_72 : decode cX7_nears 72 = .ok (.iload_n 1, 1) := by decide +kernel
theorem dX7_nears_73 : decode cX7_nears 73 = .ok (.iload_n 2, 1) := by decide +kernel
theorem dX7_nears_74 : decode cX7_nears 74 = .ok (.iadd, 1) := by decide +kernel
theorem dX7_nears_75 : decode cX7_nears 75 = .ok (.dup2, 1) := by decide +kernel
theorem dX7_nears_76 : decode cX7_nears 76 = .ok (.iaload, 1) := by decide +kernel
theorem dX7_nears_77 : decode cX7_nears 77 = .ok (.iload 7, 2) := by decide +kernel
theorem dX7_nears_79 : decode cX7_nears 79 = .ok (.ifCond .eq 8, 3) := by decide +kernel
theorem dX7_nears_82 : decode cX7_nears 82 = .ok (.iload 8, 2) := by decide +kernel
theorem dX7_nears_84 : decode cX7_nears 84 = .ok (.goto 6, 3) := by decide +kernel
theorem dX7_nears_87 : decode cX7_nears 87 = .ok (.iload 9, 2) := by decide +kernel
theorem dX7_nears_89 : decode cX7_nears 89 = .ok (.ineg, 1) := by decide +kernel
theorem dX7_nears_90 : decode cX7_nears 90 = .ok (.iadd, 1) := by decide +kernel
theorem dX7_nears_91 : decode cX7_nears 91 = .ok (.iastore, 1) := by decide +kernel
theorem dX7_nears_92 : decode cX7_nears 92 = .ok (.aload_n 0, 1) := by decide +kernel
theorem dX7_nears_93 : decode cX7_nears 93 = .ok (.getfield 7, 3) := by decide +kernel
theorem dX7_nears_96 : decode cX7_nears 96 = .ok (.iload_n 1, 1) := by decide +kernel
theorem dX7_nears_97 : decode cX7_nears 97 = .ok (.iload_n 3, 1) := by decide +kernel
theorem dX7_nears_98 : decode cX7_nears 98 = .ok (.iadd, 1) := by decide +kernel
theorem dX7_nears_99 : decode cX7_nears 99 = .ok (.dup2, 1) := by decide +kernel
theorem dX7_nears_100 : decode cX7_nears 100 = .ok (.iaload, 1) := by decide +kernel
theorem dX7_nears_101 : decode cX7_nears 101 = .ok (.iload 7, 2) := by decide +kernel
theorem dX7_nears_103 : decode cX7_nears 103 = .ok (.ifCond .eq 9, 3) := by decide +kernel
theorem dX7_nears_106 : decode cX7_nears 106 = .ok (.iload 9, 2) := by decide +kernel
theorem dX7_nears_108 : decode cX7_nears 108 = .ok (.ineg, 1) := by decide +kernel
theorem dX7_nears_109 : decode cX7_nears 109 = .ok (.goto 5, 3) := by decide +kernel
theorem dX7_nears_112 : decode cX7_nears 112 = .ok (.iload 8, 2) := by decide +kernel
theorem dX7_nears_114 : decode cX7_nears 114 = .ok (.iadd, 1) := by decide +kernel
theorem dX7_nears_115 : decode cX7_nears 115 = .ok (.iastore, 1) := by decide +kernel
theorem dX7_nears_116 : decode cX7_nears 116 = .ok (.return_, 1) := by decide +kernel
theorem dX7_yearGoes_0 : decode cX7_yearGoes 0 = .ok (.iconst 0, 1) := by decide +kernel
theorem dX7_yearGoes_1 : decode cX7_yearGoes 1 = .ok (.istore_n 1, 1) := by decide +kernel
theorem dX7_yearGoes_2 : decode cX7_yearGoes 2 = .ok (.iload_n 1, 1) := by decide +kernel
theorem dX7_yearGoes_3 : decode cX7_yearGoes 3 = .ok (.iconst 4, 1) := by decide +kernel
theorem dX7_yearGoes_4 : decode cX7_yearGoes 4 = .ok (.if_icmp .ge 53, 3) := by decide +kernel
theorem dX7_yearGoes_7 : decode cX7_yearGoes 7 = .ok (.aload_n 0, 1) := by decide +kernel
theorem dX7_yearGoes_8 : decode cX7_yearGoes 8 = .ok (.getfield 7, 3) := by decide +kernel
theorem dX7_yearGoes_11 : decode cX7_yearGoes 11 = .ok (.bipush 45, 2) := by decide +kernel
theorem dX7_yearGoes_13 : decode cX7_yearGoes 13 = .ok (.iload_n 1, 1) := by decide +kernel
theorem dX7_yearGoes_14 : decode cX7_yearGoes 14 = .ok (.iadd, 1) := by decide +kernel
theorem dX7_yearGoes_15 : decode cX7_yearGoes 15 = .ok (.iaload, 1) := by decide +kernel
theorem dX7_yearGoes_16 : decode cX7_yearGoes 16 = .ok (.ifCond .eq 35, 3) := by decide +kernel
theorem dX7_yearGoes_19 : decode cX7_yearGoes 19 = .ok (.aload_n 0, 1) := by decide +kernel
theorem dX7_yearGoes_20 : decode cX7_yearGoes 20 = .ok (.bipush 8, 2) := by decide +kernel
theorem dX7_yearGoes_22 : decode cX7_yearGoes 22 = .ok (.iload_n 1, 1) := by decide +kernel
theorem dX7_yearGoes_23 : decode cX7_yearGoes 23 = .ok (.aload_n 0, 1) := by decide +kernel
theorem dX7_yearGoes_24 : decode cX7_yearGoes 24 = .ok (.getfield 7, 3) := by decide +kernel
theorem dX7_yearGoes_27 : decode cX7_yearGoes 27 = .ok (.bipush 45, 2) := by decide +kernel
theorem dX7_yearGoes_29 : decode cX7_yearGoes 29 = .ok (.iload_n 1, 1) := by decide +kernel
theorem dX7_yearGoes_30 : decode cX7_yearGoes 30 = .ok (.iadd, 1) := by decide +kernel
theorem dX7_yearGoes_31 : decode cX7_yearGoes 31 = .ok (.iaload, 1) := by decide +kernel
theorem dX7_yearGoes_32 : decode cX7_yearGoes 32 = .ok (.invokevirtual 245, 3) := by decide +kernel
theorem dX7_yearGoes_35 : decode cX7_yearGoes 35 = .ok (.aload_n 0, 1) := by decide +kernel
theorem dX7_yearGoes_36 : decode cX7_yearGoes 36 = .ok (.bipush 16, 2) := by decide +kernel
theorem dX7_yearGoes_38 : decode cX7_yearGoes 38 = .ok (.iload_n 1, 1) := by decide +kernel
theorem dX7_yearGoes_39 : decode cX7_yearGoes 39 = .ok (.aload_n 0, 1) := by decide +kernel
theorem dX7_yearGoes_40 : decode cX7_yearGoes 40 = .ok (.getfield 7, 3) := by decide +kernel
theorem dX7_yearGoes_43 : decode cX7_yearGoes 43 = .ok (.bipush 45, 2) := by decide +kernel
theorem dX7_yearGoes_45 : decode cX7_yearGoes 45 = .ok (.iload_n 1, 1) := by decide +kernel
theorem dX7_yearGoes_46 : decode cX7_yearGoes 46 = .ok (.iadd, 1) := by decide +kernel
theorem dX7_yearGoes_47 : decode cX7_yearGoes 47 = .ok (.iaload, 1) := by decide +kernel
theorem dX7_yearGoes_48 : decode cX7_yearGoes 48 = .ok (.invokevirtual 245, 3) := by decide +kernel
theorem dX7_yearGoes_51 : decode cX7_yearGoes 51 = .ok (.iinc 1 1, 3) := by decide +kernel
theorem dX7_yearGoes_54 : decode cX7_yearGoes 54 = .ok (.goto (-52), 3) := by decide +kernel
theorem dX7_yearGoes_57 : decode cX7_yearGoes 57 = .ok (.aload_n 0, 1) := by decide +kernel
theorem dX7_yearGoes_58 : decode cX7_yearGoes 58 = .ok (.getfield 7, 3) := by decide +kernel
theorem dX7_yearGoes_61 : decode cX7_yearGoes 61 = .ok (.bipush 49, 2) := by decide +kernel
theorem dX7_yearGoes_63 : decode cX7_yearGoes 63 = .ok (.dup2, 1) := by decide +kernel
theorem dX7_yearGoes_64 : decode cX7_yearGoes 64 = .ok (.iaload, 1) := by decide +kernel
theorem dX7_yearGoes_65 : decode cX7_yearGoes 65 = .ok (.iconst 1, 1) := by decide +kernel
theorem dX7_yearGoes_66 : decode cX7_yearGoes 66 = .ok (.iadd, 1) := by decide +kernel
theorem dX7_yearGoes_67 : decode cX7_yearGoes 67 = .ok (.iastore, 1) := by decide +kernel
theorem dX7_yearGoes_68 : decode cX7_yearGoes 68 = .ok (.return_, 1) := by decide +kernel
theorem dX7_years_0 : decode cX7_years 0 = .ok (.iload_n 1, 1) := by decide +kernel
theorem dX7_years_1 : decode cX7_years 1 = .ok (.i2l, 1) := by decide +kernel
theorem dX7_years_2 : decode cX7_years 2 = .ok (.lconst 0, 1) := by decide +kernel
theorem dX7_years_3 : decode cX7_years 3 = .ok (.ldc2_w 249, 3) := by decide +kernel
theorem dX7_years_6 : decode cX7_years 6 = .ok (.invokestatic 58, 3) := by decide +kernel
theorem dX7_years_9 : decode cX7_years 9 = .ok (.ifCond .ne 5, 3) := by decide +kernel
theorem dX7_years_12 : decode cX7_years 12 = .ok (.iconst (-1), 1) := by decide +kernel
theorem dX7_years_13 : decode cX7_years 13 = .ok (.ireturn, 1) := by decide +kernel
theorem dX7_years_14 : decode cX7_years 14 = .ok (.aload_n 0, 1) := by decide +kernel
theorem dX7_years_15 : decode cX7_years 15 = .ok (.getfield 7, 3) := by decide +kernel
theorem dX7_years_18 : decode cX7_years 18 = .ok (.bipush 49, 2) := by decide +kernel
theorem dX7_years_20 : decode cX7_years 20 = .ok (.iaload, 1) := by decide +kernel
theorem dX7_years_21 : decode cX7_years 21 = .ok (.iload_n 1, 1) := by decide +kernel
theorem dX7_years_22 : decode cX7_years 22 = .ok (.iadd, 1) := by decide +kernel
theorem dX7_years_23 : decode cX7_years 23 = .ok (.sipush 999, 3) := by decide +kernel
theorem dX7_years_26 : decode cX7_years 26 = .ok (.if_icmp .le 6, 3) := by decide +kernel
theorem dX7_years_29 : decode cX7_years 29 = .ok (.bipush (-3), 2) := by decide +kernel
theorem dX7_years_31 : decode cX7_years 31 = .ok (.ireturn, 1) := by decide +kernel
theorem dX7_years_32 : decode cX7_years 32 = .ok (.iconst 0, 1) := by decide +kernel
theorem dX7_years_33 : decode cX7_years 33 = .ok (.istore_n 2, 1) := by decide +kernel
theorem dX7_years_34 : decode cX7_years 34 = .ok (.iload_n 2, 1) := by decide +kernel
theorem dX7_years_35 : decode cX7_years 35 = .ok (.iload_n 1, 1) := by decide +kernel
theorem dX7_years_36 : decode cX7_years 36 = .ok (.if_icmp .ge 13, 3) := by decide +kernel
theorem dX7_years_39 : decode cX7_years 39 = .ok (.aload_n 0, 1) := by decide +kernel
theorem dX7_years_40 : decode cX7_years 40 = .ok (.invokevirtual 251, 3) := by decide +kernel
theorem dX7_years_43 : decode cX7_years 43 = .ok (.iinc 2 1, 3) := by decide +kernel
theorem dX7_years_46 : decode cX7_years 46 = .ok (.goto (-12), 3) := by decide +kernel
theorem dX7_years_49 : decode cX7_years 49 = .ok (.aload_n 0, 1) := by decide +kernel
theorem dX7_years_50 : decode cX7_years 50 = .ok (.getfield 7, 3) := by decide +kernel
theorem dX7_years_53 : decode cX7_years 53 = .ok (.bipush 49, 2) := by decide +kernel
theorem dX7_years_55 : decode cX7_years 55 = .ok (.iaload, 1) := by decide +kernel
theorem dX7_years_56 : decode cX7_years 56 = .ok (.ireturn, 1) := by decide +kernel
theorem dX7_unlike_0 : decode cX7_unlike 0 = .ok (.aload_n 0, 1) := by decide +kernel
theorem dX7_unlike_1 : decode cX7_unlike 1 = .ok (.getfield 7, 3) := by decide +kernel
theorem dX7_unlike_4 : decode cX7_unlike 4 = .ok (.bipush 8, 2) := by decide +kernel
theorem dX7_unlike_6 : decode cX7_unlike 6 = .ok (.iload_n 1, 1) := by decide +kernel
theorem dX7_unlike_7 : decode cX7_unlike 7 = .ok (.iadd, 1) := by decide +kernel
theorem dX7_unlike_8 : decode cX7_unlike 8 = .ok (.iaload, 1) := by decide +kernel
theorem dX7_unlike_9 : decode cX7_unlike 9 = .ok (.aload_n 0, 1) := by decide +kernel
theorem dX7_unlike_10 : decode cX7_unlike 10 = .ok (.getfield 7, 3) := by decide +kernel
theorem dX7_unlike_13 : decode cX7_unlike 13 = .ok (.bipush 8, 2) := by decide +kernel
theorem dX7_unlike_15 : decode cX7_unlike 15 = .ok (.iload_n 2, 1) := by decide +kernel
theorem dX7_unlike_16 : decode cX7_unlike 16 = .ok (.iadd, 1) := by decide +kernel
theorem dX7_unlike_17 : decode cX7_unlike 17 = .ok (.iaload, 1) := by decide +kernel
theorem dX7_unlike_18 : decode cX7_unlike 18 = .ok (.invokestatic 189, 3) := by decide +kernel
theorem dX7_unlike_21 : decode cX7_unlike 21 = .ok (.aload_n 0, 1) := by decide +kernel
theorem dX7_unlike_22 : decode cX7_unlike 22 = .ok (.getfield 7, 3) := by decide +kernel
theorem dX7_unlike_25 : decode cX7_unlike 25 = .ok (.bipush 16, 2) := by decide +kernel
theorem dX7_unlike_27 : decode cX7_unlike 27 = .ok (.iload_n 1, 1) := by decide +kernel
theorem dX7_unlike_28 : decode cX7_unlike 28 = .ok (.iadd, 1) := by decide +kernel
theorem dX7_unlike_29 : decode cX7_unlike 29 = .ok (.iaload, 1) := by decide +kernel
theorem dX7_unlike_30 : decode cX7_unlike 30 = .ok (.aload_n 0, 1) := by decide +kernel
theorem dX7_unlike_31 : decode cX7_unlike 31 = .ok (.getfield 7, 3) := by decide +kernel
theorem dX7_unlike_34 : decode cX7_unlike 34 = .ok (.bipush 16, 2) := by decide +kernel
theorem dX7_unlike_36 : decode cX7_unlike 36 = .ok (.iload_n 2, 1) := by decide +kernel
theorem dX7_unlike_37 : decode cX7_unlike 37 = .ok (.iadd, 1) := by decide +kernel
theorem dX7_unlike_38 : decode cX7_unlike 38 = .ok (.iaload, 1) := by decide +kernel
theorem dX7_unlike_39 : decode cX7_unlike 39 = .ok (.invokestatic 189, 3) := by decide +kernel
theorem dX7_unlike_42 : decode cX7_unlike 42 = .ok (.iadd, 1) := by decide +kernel
theorem dX7_unlike_43 : decode cX7_unlike 43 = .ok (.ireturn, 1) := by decide +kernel
theorem dX7_alike_0 : decode cX7_alike 0 = .ok (.aload_n 0, 1) := by decide +kernel
theorem dX7_alike_1 : decode cX7_alike 1 = .ok (.iconst 0, 1) := by decide +kernel
theorem dX7_alike_2 : decode cX7_alike 2 = .ok (.sipush 200, 3) := by decide +kernel
theorem dX7_alike_5 : decode cX7_alike 5 = .ok (.invokevirtual 254, 3) := by decide +kernel
theorem dX7_alike_8 : decode cX7_alike 8 = .ok (.bipush (-4), 2) := by decide +kernel
theorem dX7_alike_10 : decode cX7_alike 10 = .ok (.istore_n 1, 1) := by decide +kernel
theorem dX7_alike_11 : decode cX7_alike 11 = .ok (.iconst 0, 1) := by decide +kernel
theorem dX7_alike_12 : decode cX7_alike 12 = .ok (.istore_n 2, 1) := by decide +kernel
theorem dX7_alike_13 : decode cX7_alike 13 = .ok (.iload_n 2, 1) := by decide +kernel
theorem dX7_alike_14 : decode cX7_alike 14 = .ok (.bipush 20, 2) := by decide +kernel
theorem dX7_alike_16 : decode cX7_alike 16 = .ok (.if_icmp .gt 83, 3) := by decide +kernel
theorem dX7_alike_19 : decode cX7_alike 19 = .ok (.iload_n 1, 1) := by decide +kernel
theorem dX7_alike_20 : decode cX7_alike 20 = .ok (.bipush (-4), 2) := by decide +kernel
theorem dX7_alike_22 : decode cX7_alike 22 = .ok (.if_icmp .ne 77, 3) := by decide +kernel
theorem dX7_alike_25 : decode cX7_alike 25 = .ok (.iconst 0, 1) := by decide +kernel
theorem dX7_alike_26 : decode cX7_alike 26 = .ok (.istore_n 3, 1) := by decide +kernel
theorem dX7_alike_27 : decode cX7_alike 27 = .ok (.iconst 0, 1) := by decide +kernel
theorem dX7_alike_28 : decode cX7_alike 28 = .ok (.istore 4, 2) := by decide +kernel
theorem dX7_alike_30 : decode cX7_alike 30 = .ok (.iload 4, 2) := by decide +kernel
theorem dX7_alike_32 : decode cX7_alike 32 = .ok (.iconst 4, 1) := by decide +kernel
theorem dX7_alike_33 : decode cX7_alike 33 = .ok (.if_icmp .ge 45, 3) := by decide +kernel
theorem dX7_alike_36 : decode cX7_alike 36 = .ok (.iload_n 3, 1) := by decide +kernel
theorem dX7_alike_37 : decode cX7_alike 37 = .ok (.aload_n 0, 1) := by decide +kernel
theorem dX7_alike_38 : decode cX7_alike 38 = .ok (.getfield 7, 3) := by decide +kernel
theorem dX7_alike_41 : decode cX7_alike 41 = .ok (.bipush 45, 2) := by decide +kernel
theorem dX7_alike_43 : decode cX7_alike 43 = .ok (.iload 4, 2) := by decide +kernel
theorem dX7_alike_45 : decode cX7_alike 45 = .ok (.iadd, 1) := by decide +kernel
theorem dX7_alike_46 : decode cX7_alike 46 = .ok (.iaload, 1) := by decide +kernel
theorem dX7_alike_47 : decode cX7_alike 47 = .ok (.ifCond .eq 22, 3) := by decide +kernel
theorem dX7_alike_50 : decode cX7_alike 50 = .ok (.aload_n 0, 1) := by decide +kernel
theorem dX7_alike_51 : decode cX7_alike 51 = .ok (.iload 4, 2) := by decide +kernel
theorem dX7_alike_53 : decode cX7_alike 53 = .ok (.aload_n 0, 1) := by decide +kernel
theorem dX7_alike_54 : decode cX7_alike 54 = .ok (.getfield 7, 3) := by decide +kernel
theorem dX7_alike_57 : decode cX7_alike 57 = .ok (.bipush 45, 2) := by decide +kernel
theorem dX7_alike_59 : decode cX7_alike 59 = .ok (.iload 4, 2) := by decide +kernel
theorem dX7_alike_61 : decode cX7_alike 61 = .ok (.iadd, 1) := by decide +kernel
theorem dX7_alike_62 : decode cX7_alike 62 = .ok (.iaload, 1) := by decide +kernel
theorem dX7_alike_63 : decode cX7_alike 63 = .ok (.invokevirtual 258, 3) := by decide +kernel
theorem dX7_alike_66 : decode cX7_alike 66 = .ok (.goto 4, 3) := by decide +kernel
theorem dX7_alike_69 : decode cX7_alike 69 = .ok (.iconst 0, 1) := by decide +kernel
theorem dX7_alike_70 : decode cX7_alike 70 = .ok (.iadd, 1) := by decide +kernel
theorem dX7_alike_71 : decode cX7_alike 71 = .ok (.istore_n 3, 1) := by decide +kernel
theorem dX7_alike_72 : decode cX7_alike 72 = .ok (.iinc 4 1, 3) := by decide +kernel
theorem dX7_alike_75 : decode cX7_alike 75 = .ok (.goto (-45), 3) := by decide +kernel
theorem dX7_alike_78 : decode cX7_alike 78 = .ok (.iload_n 3, 1) := by decide +kernel
theorem dX7_alike_79 : decode cX7_alike 79 = .ok (.ifCond .ne 7, 3) := by decide +kernel
theorem dX7_alike_82 : decode cX7_alike 82 = .ok (.iload_n 2, 1) := by decide +kernel
theorem dX7_alike_83 : decode cX7_alike 83 = .ok (.goto 5, 3) := by decide +kernel
theorem dX7_alike_86 : decode cX7_alike 86 = .ok (.bipush (-4), 2) := by decide +kernel
theorem dX7_alike_88 : decode cX7_alike 88 = .ok (.istore_n 1, 1) := by decide +kernel
theorem dX7_alike_89 : decode cX7_alike 89 = .ok (.aload_n 0, 1) := by decide +kernel
theorem dX7_alike_90 : decode cX7_alike 90 = .ok (.invokevirtual 251, 3) := by decide +kernel
theorem dX7_alike_93 : decode cX7_alike 93 = .ok (.iinc 2 1, 3) := by decide +kernel
theorem dX7_alike_96 : decode cX7_alike 96 = .ok (.goto (-83), 3) := by decide +kernel
theorem dX7_alike_99 : decode cX7_alike 99 = .ok (.aload_n 0, 1) := by decide +kernel
theorem dX7_alike_100 : decode cX7_alike 100 = .ok (.sipush 200, 3) := by decide +kernel
theorem dX7_alike_103 : decode cX7_alike 103 = .ok (.iconst 0, 1) := by decide +kernel
theorem dX7_alike_104 : decode cX7_alike 104 = .ok (.invokevirtual 254, 3) := by decide +kernel
theorem dX7_alike_107 : decode cX7_alike 107 = .ok (.iload_n 1, 1) := by decide +kernel
theorem dX7_alike_108 : decode cX7_alike 108 = .ok (.ireturn, 1) := by decide +kernel
theorem dX7_near_0 : decode cX7_near 0 = .ok (.iload_n 1, 1) := by decide +kernel
theorem dX7_near_1 : decode cX7_near 1 = .ok (.i2l, 1) := by decide +kernel
theorem dX7_near_2 : decode cX7_near 2 = .ok (.lconst 0, 1) := by decide +kernel
theorem dX7_near_3 : decode cX7_near 3 = .ok (.lconst 1, 1) := by decide +kernel
theorem dX7_near_4 : decode cX7_near 4 = .ok (.invokestatic 58, 3) := by decide +kernel
theorem dX7_near_7 : decode cX7_near 7 = .ok (.ifCond .ne 5, 3) := by decide +kernel
theorem dX7_near_10 : decode cX7_near 10 = .ok (.iconst (-1), 1) := by decide +kernel
theorem dX7_near_11 : decode cX7_near 11 = .ok (.ireturn, 1) := by decide +kernel
theorem dX7_near_12 : decode cX7_near 12 = .ok (.ldc_w 261, 3) := by decide +kernel
theorem dX7_near_15 : decode cX7_near 15 = .ok (.istore_n 2, 1) := by decide +kernel
theorem dX7_near_16 : decode cX7_near 16 = .ok (.bipush (-4), 2) := by decide +kernel
theorem dX7_near_18 : decode cX7_near 18 = .ok (.istore_n 3, 1) := by decide +kernel
theorem dX7_near_19 : decode cX7_near 19 = .ok (.iconst 0, 1) := by decide +kernel
theorem dX7_near_20 : decode cX7_near 20 = .ok (.istore 4, 2) := by decide +kernel
theorem dX7_near_22 : decode cX7_near 22 = .ok (.iload 4, 2) := by decide +kernel
theorem dX7_near_24 : decode cX7_near 24 = .ok (.bipush 8, 2) := by decide +kernel
theorem dX7_near_26 : decode cX7_near 26 = .ok (.if_icmp .ge 76, 3) := by decide +kernel
theorem dX7_near_29 : decode cX7_near 29 = .ok (.iload 4, 2) := by decide +kernel
theorem dX7_near_31 : decode cX7_near 31 = .ok (.iconst 1, 1) := by decide +kernel
theorem dX7_near_32 : decode cX7_near 32 = .ok (.iadd, 1) := by decide +kernel
theorem dX7_near_33 : decode cX7_near 33 = .ok (.istore 5, 2) := by decide +kernel
theorem dX7_near_35 : decode cX7_near 35 = .ok (.iload 5, 2) := by decide +kernel
theorem dX7_near_37 : decode cX7_near 37 = .ok (.bipush 8, 2) := by decide +kernel
theorem dX7_near_39 : decode cX7_near 39 = .ok (.if_icmp .ge 57, 3) := by decide +kernel
theorem dX7_near_42 : decode cX7_near 42 = .ok (.aload_n 0, 1) := by decide +kernel
theorem dX7_near_43 : decode cX7_near 43 = .ok (.iload 4, 2) := by decide +kernel
theorem dX7_near_45 : decode cX7_near 45 = .ok (.invokevirtual 158, 3) := by decide +kernel
theorem dX7_near_48 : decode cX7_near 48 = .ok (.ifCond .eq 42, 3) := by decide +kernel
theorem dX7_near_51 : decode cX7_near 51 = .ok (.aload_n 0, 1) := by decide +kernel
theorem dX7_near_52 : decode cX7_near 52 = .ok (.iload 5, 2) := by decide +kernel
theorem dX7_near_54 : decode cX7_near 54 = .ok (.invokevirtual 158, 3) := by decide +kernel
theorem dX7_near_57 : decode cX7_near 57 = .ok (.ifCond .eq 33, 3) := by decide +kernel
theorem dX7_near_60 : decode cX7_near 60 = .ok (.aload_n 0, 1) := by decide +kernel
theorem dX7_near_61 : decode cX7_near 61 = .ok (.iload 4, 2) := by decide +kernel
theorem dX7_near_63 : decode cX7_near 63 = .ok (.iload 5, 2) := by decide +kernel
theorem dX7_near_65 : decode cX7_near 65 = .ok (.invokevirtual 258, 3) := by decide +kernel
theorem dX7_near_68 : decode cX7_near 68 = .ok (.iload_n 2, 1) := by decide +kernel
theorem dX7_near_69 : decode cX7_near 69 = .ok (.if_icmp .ge 21, 3) := by decide +kernel
theorem dX7_near_72 : decode cX7_near 72 = .ok (.aload_n 0, 1) := by decide +kernel
theorem dX7_near_73 : decode cX7_near 73 = .ok (.iload 4, 2) := by decide +kernel
theorem dX7_near_75 : decode cX7_near 75 = .ok (.iload 5, 2) := by decide +kernel
theorem dX7_near_77 : decode cX7_near 77 = .ok (.invokevirtual 258, 3) := by decide +kernel
theorem dX7_near_80 : decode cX7_near 80 = .ok (.istore_n 2, 1) := by decide +kernel
theorem dX7_near_81 : decode cX7_near 81 = .ok (.bipush 10, 2) := by decide +kernel
theorem dX7_near_83 : decode cX7_near 83 = .ok (.iload 4, 2) := by decide +kernel
theorem dX7_near_85 : decode cX7_near 85 = .ok (.imul, 1) := by decide +kernel
theorem dX7_near_86 : decode cX7_near 86 = .ok (.iload 5, 2) := by decide +kernel
theorem dX7_near_88 : decode cX7_near 88 = .ok (.iadd, 1) := by decide +kernel
theorem dX7_near_89 : decode cX7_near 89 = .ok (.istore_n 3, 1) := by decide +kernel
theorem dX7_near_90 : decode cX7_near 90 = .ok (.iinc 5 1, 3) := by decide +kernel
theorem dX7_near_93 : decode cX7_near 93 = .ok (.goto (-58), 3) := by decide +kernel
theorem dX7_near_96 : decode cX7_near 96 = .ok (.iinc 4 1, 3) := by decide +kernel
theorem dX7_near_99 : decode cX7_near 99 = .ok (.goto (-77), 3) := by decide +kernel
theorem dX7_near_102 : decode cX7_near 102 = .ok (.iload_n 3, 1) := by decide +kernel
theorem dX7_near_103 : decode cX7_near 103 = .ok (.bipush (-4), 2) := by decide +kernel
theorem dX7_near_105 : decode cX7_near 105 = .ok (.if_icmp .eq 7, 3) := by decide +kernel
theorem dX7_near_108 : decode cX7_near 108 = .ok (.iload_n 1, 1) := by decide +kernel
theorem dX7_near_109 : decode cX7_near 109 = .ok (.ifCond .ne 7, 3) := by decide +kernel
theorem dX7_near_112 : decode cX7_near 112 = .ok (.iload_n 3, 1) := by decide +kernel
theorem dX7_near_113 : decode cX7_near 113 = .ok (.goto 4, 3) := by decide +kernel
theorem dX7_near_116 : decode cX7_near 116 = .ok (.iload_n 2, 1) := by decide +kernel
theorem dX7_near_117 : decode cX7_near 117 = .ok (.ireturn, 1) := by decide +kernel
theorem dX7_forge_0 : decode cX7_forge 0 = .ok (.aload_n 0, 1) := by decide +kernel
theorem dX7_forge_1 : decode cX7_forge 1 = .ok (.iload_n 1, 1) := by decide +kernel
theorem dX7_forge_2 : decode cX7_forge 2 = .ok (.invokevirtual 158, 3) := by decide +kernel
theorem dX7_forge_5 : decode cX7_forge 5 = .ok (.ifCond .eq 13, 3) := by decide +kernel
theorem dX7_forge_8 : decode cX7_forge 8 = .ok (.iload_n 2, 1) := by decide +kernel
theorem dX7_forge_9 : decode cX7_forge 9 = .ok (.i2l, 1) := by decide +kernel
theorem dX7_forge_10 : decode cX7_forge 10 = .ok (.lconst 0, 1) := by decide +kernel
theorem dX7_forge_11 : decode cX7_forge 11 = .ok (.lconst 1, 1) := by decide +kernel
theorem dX7_forge_12 : decode cX7_forge 12 = .ok (.invokestatic 58, 3) := by decide +kernel
theorem dX7_forge_15 : decode cX7_forge 15 = .ok (.ifCond .ne 5, 3) := by decide +kernel
theorem dX7_forge_18 : decode cX7_forge 18 = .ok (.iconst (-1), 1) := by decide +kernel
theorem dX7_forge_19 : decode cX7_forge 19 = .ok (.ireturn, 1) := by decide +kernel
theorem dX7_forge_20 : decode cX7_forge 20 = .ok (.aload_n 0, 1) := by decide +kernel
theorem dX7_forge_21 : decode cX7_forge 21 = .ok (.getfield 7, 3) := by decide +kernel
theorem dX7_forge_24 : decode cX7_forge 24 = .ok (.bipush 32, 2) := by decide +kernel
theorem dX7_forge_26 : decode cX7_forge 26 = .ok (.iload_n 1, 1) := by decide +kernel
theorem dX7_forge_27 : decode cX7_forge 27 = .ok (.iadd, 1) := by decide +kernel
theorem dX7_forge_28 : decode cX7_forge 28 = .ok (.iaload, 1) := by decide +kernel
theorem dX7_forge_29 : decode cX7_forge 29 = .ok (.istore_n 3, 1) := by decide +kernel
theorem dX7_forge_30 : decode cX7_forge 30 = .ok (.ldc_w 261, 3) := by decide +kernel
theorem dX7_forge_33 : decode cX7_forge 33 = .ok (.istore 4, 2) := by decide +kernel
theorem dX7_forge_35 : decode cX7_forge 35 = .ok (.bipush (-2), 2) := by decide +kernel
theorem dX7_forge_37 : decode cX7_forge 37 = .ok (.istore 5, 2) := by decide +kernel
theorem dX7_forge_39 : decode cX7_forge 39 = .ok (.bipush (-4), 2) := by decide +kernel
theorem dX7_forge_41 : decode cX7_forge 41 = .ok (.istore 6, 2) := by decide +kernel
theorem dX7_forge_43 : decode cX7_forge 43 = .ok (.iconst 0, 1) := by decide +kernel
theorem dX7_forge_44 : decode cX7_forge 44 = .ok (.istore 7, 2) := by decide +kernel
theorem dX7_forge_46 : decode cX7_forge 46 = .ok (.iload 7, 2) := by decide +kernel
theorem dX7_forge_48 : decode cX7_forge 48 = .ok (.bipush 8, 2) := by decide +kernel
theorem dX7_forge_50 : decode cX7_forge 50 = .ok (.if_icmp .ge 121, 3) := by decide +kernel
theorem dX7_forge_53 : decode cX7_forge 53 = .ok (.aload_n 0, 1) := by decide +kernel
theorem dX7_forge_54 : decode cX7_forge 54 = .ok (.iload 7, 2) := by decide +kernel
theorem dX7_forge_56 : decode cX7_forge 56 = .ok (.invokevirtual 158, 3) := by decide +kernel
theorem dX7_forge_59 : decode cX7_forge 59 = .ok (.ifCond .eq 106, 3) := by decide +kernel
theorem dX7_forge_62 : decode cX7_forge 62 = .ok (.aload_n 0, 1) := by decide +kernel
theorem dX7_forge_63 : decode cX7_forge 63 = .ok (.getfield 7, 3) := by decide +kernel
theorem dX7_forge_66 : decode cX7_forge 66 = .ok (.bipush 32, 2) := by decide +kernel
theorem dX7_forge_68 : decode cX7_forge 68 = .ok (.iload_n 1, 1) := by decide +kernel
theorem dX7_forge_69 : decode cX7_forge 69 = .ok (.iadd, 1) := by decide +kernel
theorem dX7_forge_70 : decode cX7_forge 70 = .ok (.iload 7, 2) := by decide +kernel
theorem dX7_forge_72 : decode cX7_forge 72 = .ok (.iload_n 1, 1) := by decide +kernel
theorem dX7_forge_73 : decode cX7_forge 73 = .ok (.isub, 1) := by decide +kernel
theorem dX7_forge_74 : decode cX7_forge 74 = .ok (.iastore, 1) := by decide +kernel
theorem dX7_forge_75 : decode cX7_forge 75 = .ok (.aload_n 0, 1) := by decide +kernel
theorem dX7_forge_76 : decode cX7_forge 76 = .ok (.iconst 0, 1) := by decide +kernel
theorem dX7_forge_77 : decode cX7_forge 77 = .ok (.invokevirtual 225, 3) := by decide +kernel
theorem dX7_forge_80 : decode cX7_forge 80 = .ok (.aload_n 0, 1) := by decide +kernel
theorem dX7_forge_81 : decode cX7_forge 81 = .ok (.getfield 28, 3) := by decide +kernel
theorem dX7_forge_84 : decode cX7_forge 84 = .ok (.iload_n 1, 1) := by decide +kernel
theorem dX7_forge_85 : decode cX7_forge 85 = .ok (.iaload, 1) := by decide +kernel
theorem dX7_forge_86 : decode cX7_forge 86 = .ok (.bipush (-4), 2) := by decide +kernel
theorem dX7_forge_88 : decode cX7_forge 88 = .ok (.if_icmp .ne 7, 3) := by decide +kernel
theorem dX7_forge_91 : decode cX7_forge 91 = .ok (.iconst (-1), 1) := by decide +kernel
theorem dX7_forge_92 : decode cX7_forge 92 = .ok (.goto 19, 3) := by decide +kernel
theorem dX7_forge_95 : decode cX7_forge 95 = .ok (.aload_n 0, 1) := by decide +kernel
theorem dX7_forge_96 : decode cX7_forge 96 = .ok (.getfield 25, 3) := by decide +kernel
theorem dX7_forge_99 : decode cX7_forge 99 = .ok (.bipush 8, 2) := by decide +kernel
theorem dX7_forge_101 : decode cX7_forge 101 = .ok (.iload_n 1, 1) := by decide +kernel
theorem dX7_forge_102 : decode cX7_forge 102 = .ok (.imul, 1) := by decide +kernel
theorem dX7_forge_103 : decode cX7_forge 103 = .ok (.aload_n 0, 1) := by decide +kernel
theorem dX7_forge_104 : decode cX7_forge 104 = .ok (.getfield 28, 3) := by decide +kernel
theorem dX7_forge_107 : decode cX7_forge 107 = .ok (.iload_n 1, 1) := by decide +kernel
theorem dX7_forge_108 : decode cX7_forge 108 = .ok (.iaload, 1) := by decide +kernel
theorem dX7_forge_109 : decode cX7_forge 109 = .ok (.iadd, 1) := by decide +kernel
theorem dX7_forge_110 : decode cX7_forge 110 = .ok (.iaload, 1) := by decide +kernel
theorem dX7_forge_111 : decode cX7_forge 111 = .ok (.istore 8, 2) := by decide +kernel
theorem dX7_forge_113 : decode cX7_forge 113 = .ok (.iload 8, 2) := by decide +kernel
theorem dX7_forge_115 : decode cX7_forge 115 = .ok (.iload 5, 2) := by decide +kernel
theorem dX7_forge_117 : decode cX7_forge 117 = .ok (.if_icmp .le 8, 3) := by decide +kernel
theorem dX7_forge_120 : decode cX7_forge 120 = .ok (.iload 7, 2) := by decide +kernel
theorem dX7_forge_122 : decode cX7_forge 122 = .ok (.goto 5, 3) := by decide +kernel
theorem dX7_forge_125 : decode cX7_forge 125 = .ok (.iload 4, 2) := by decide +kernel
theorem dX7_forge_127 : decode cX7_forge 127 = .ok (.istore 4, 2) := by decide +kernel
theorem dX7_forge_129 : decode cX7_forge 129 = .ok (.iload 8, 2) := by decide +kernel
theorem dX7_forge_131 : decode cX7_forge 131 = .ok (.iload 5, 2) := by decide +kernel
theorem dX7_forge_133 : decode cX7_forge 133 = .ok (.if_icmp .le 12, 3) := by decide +kernel
theorem dX7_forge_136 : decode cX7_forge 136 = .ok (.aload_n 0, 1) := by decide +kernel
theorem dX7_forge_137 : decode cX7_forge 137 = .ok (.getfield 28, 3) := by decide +kernel
theorem dX7_forge_140 : decode cX7_forge 140 = .ok (.iload_n 1, 1) := by decide +kernel
theorem dX7_forge_141 : decode cX7_forge 141 = .ok (.iaload, 1) := by decide +kernel
theorem dX7_forge_142 : decode cX7_forge 142 = .ok (.goto 5, 3) := by decide +kernel
theorem dX7_forge_145 : decode cX7_forge 145 = .ok (.iload 6, 2) := by decide +kernel
theorem dX7_forge_147 : decode cX7_forge 147 = .ok (.istore 6, 2) := by decide +kernel
theorem dX7_forge_149 : decode cX7_forge 149 = .ok (.iload 8, 2) := by decide +kernel
theorem dX7_forge_151 : decode cX7_forge 151 = .ok (.iload 5, 2) := by decide +kernel
theorem dX7_forge_153 : decode cX7_forge 153 = .ok (.if_icmp .le 8, 3) := by decide +kernel
theorem dX7_forge_156 : decode cX7_forge 156 = .ok (.iload 8, 2) := by decide +kernel
theorem dX7_forge_158 : decode cX7_forge 158 = .ok (.goto 5, 3) := by decide +kernel
theorem dX7_forge_161 : decode cX7_forge 161 = .ok (.iload 5, 2) := by decide +kernel
theorem dX7_forge_163 : decode cX7_forge 163 = .ok (.istore 5, 2) := by decide +kernel
theorem dX7_forge_165 : decode cX7_forge 165 = .ok (.iinc 7 1, 3) := by decide +kernel
theorem dX7_forge_168 : decode cX7_forge 168 = .ok (.goto (-122), 3) := by decide +kernel
theorem dX7_forge_171 : decode cX7_forge 171 = .ok (.aload_n 0, 1) := by decide +kernel
theorem dX7_forge_172 : decode cX7_forge 172 = .ok (.getfield 7, 3) := by decide +kernel
theorem dX7_forge_175 : decode cX7_forge 175 = .ok (.bipush 32, 2) := by decide +kernel
theorem dX7_forge_177 : decode cX7_forge 177 = .ok (.iload_n 1, 1) := by decide +kernel
theorem dX7_forge_178 : decode cX7_forge 178 = .ok (.iadd, 1) := by decide +kernel
theorem dX7_forge_179 : decode cX7_forge 179 = .ok (.iload_n 3, 1) := by decide +kernel
theorem dX7_forge_180 : decode cX7_forge 180 = .ok (.iastore, 1) := by decide +kernel
theorem dX7_forge_181 : decode cX7_forge 181 = .ok (.iload_n 2, 1) := by decide +kernel
theorem dX7_forge_182 : decode cX7_forge 182 = .ok (.ifCond .ne 8, 3) := by decide +kernel
theorem dX7_forge_185 : decode cX7_forge 185 = .ok (.iload 4, 2) := by decide +kernel
theorem dX7_forge_187 : decode cX7_forge 187 = .ok (.goto 5, 3) := by decide +kernel
theorem dX7_forge_190 : decode cX7_forge 190 = .ok (.iload 6, 2) := by decide +kernel
theorem dX7_forge_192 : decode cX7_forge 192 = .ok (.ireturn, 1) := by decide +kernel
theorem dX7_swap_0 : decode cX7_swap 0 = .ok (.iload_n 1, 1) := by decide +kernel
theorem dX7_swap_1 : decode cX7_swap 1 = .ok (.i2l, 1) := by decide +kernel
theorem dX7_swap_2 : decode cX7_swap 2 = .ok (.lconst 0, 1) := by decide +kernel
theorem dX7_swap_3 : decode cX7_swap 3 = .ok (.lconst 1, 1) := by decide +kernel
theorem dX7_swap_4 : decode cX7_swap 4 = .ok (.invokestatic 58, 3) := by decide +kernel
theorem dX7_swap_7 : decode cX7_swap 7 = .ok (.ifCond .ne 5, 3) := by decide +kernel
theorem dX7_swap_10 : decode cX7_swap 10 = .ok (.iconst (-1), 1) := by decide +kernel
theorem dX7_swap_11 : decode cX7_swap 11 = .ok (.ireturn, 1) := by decide +kernel
theorem dX7_swap_12 : decode cX7_swap 12 = .ok (.aload_n 0, 1) := by decide +kernel
theorem dX7_swap_13 : decode cX7_swap 13 = .ok (.iconst 0, 1) := by decide +kernel
theorem dX7_swap_14 : decode cX7_swap 14 = .ok (.invokevirtual 225, 3) := by decide +kernel
theorem dX7_swap_17 : decode cX7_swap 17 = .ok (.aload_n 0, 1) := by decide +kernel
theorem dX7_swap_18 : decode cX7_swap 18 = .ok (.invokevirtual 231, 3) := by decide +kernel
theorem dX7_swap_21 : decode cX7_swap 21 = .ok (.istore_n 2, 1) := by decide +kernel
theorem dX7_swap_22 : decode cX7_swap 22 = .ok (.bipush (-4), 2) := by decide +kernel
theorem dX7_swap_24 : decode cX7_swap 24 = .ok (.istore_n 3, 1) := by decide +kernel
theorem dX7_swap_25 : decode cX7_swap 25 = .ok (.iconst 0, 1) := by decide +kernel
theorem dX7_swap_26 : decode cX7_swap 26 = .ok (.istore 4, 2) := by decide +kernel
theorem dX7_swap_28 : decode cX7_swap 28 = .ok (.iload 4, 2) := by decide +kernel
theorem dX7_swap_30 : decode cX7_swap 30 = .ok (.bipush 8, 2) := by decide +kernel
theorem dX7_swap_32 : decode cX7_swap 32 = .ok (.if_icmp .ge 165, 3) := by decide +kernel
theorem dX7_swap_35 : decode cX7_swap 35 = .ok (.iload 4, 2) := by decide +kernel
theorem dX7_swap_37 : decode cX7_swap 37 = .ok (.iconst 1, 1) := by decide +kernel
theorem dX7_swap_38 : decode cX7_swap 38 = .ok (.iadd, 1) := by decide +kernel
theorem dX7_swap_39 : decode cX7_swap 39 = .ok (.istore 5, 2) := by decide +kernel
theorem dX7_swap_41 : decode cX7_swap 41 = .ok (.iload 5, 2) := by decide +kernel
theorem dX7_swap_43 : decode cX7_swap 43 = .ok (.bipush 8, 2) := by decide +kernel
theorem dX7_swap_45 : decode cX7_swap 45 = .ok (.if_icmp .ge 146, 3) := by decide +kernel
theorem dX7_swap_48 : decode cX7_swap 48 = .ok (.aload_n 0, 1) := by decide +kernel
theorem dX7_swap_49 : decode cX7_swap 49 = .ok (.iload 4, 2) := by decide +kernel
theorem dX7_swap_51 : decode cX7_swap 51 = .ok (.invokevirtual 158, 3) := by decide +kernel
theorem dX7_swap_54 : decode cX7_swap 54 = .ok (.ifCond .eq 131, 3) := by decide +kernel
theorem dX7_swap_57 : decode cX7_swap 57 = .ok (.aload_n 0, 1) := by decide +kernel
theorem dX7_swap_58 : decode cX7_swap 58 = .ok (.iload 5, 2) := by decide +kernel
theorem dX7_swap_60 : decode cX7_swap 60 = .ok (.invokevirtual 158, 3) := by decide +kernel
theorem dX7_swap_63 : decode cX7_swap 63 = .ok (.ifCond .eq 122, 3) := by decide +kernel
theorem dX7_swap_66 : decode cX7_swap 66 = .ok (.aload_n 0, 1) := by decide +kernel
theorem dX7_swap_67 : decode cX7_swap 67 = .ok (.iload 4, 2) := by decide +kernel
theorem dX7_swap_69 : decode cX7_swap 69 = .ok (.invokevirtual 172, 3) := by decide +kernel
theorem dX7_swap_72 : decode cX7_swap 72 = .ok (.istore 6, 2) := by decide +kernel
theorem dX7_swap_74 : decode cX7_swap 74 = .ok (.aload_n 0, 1) := by decide +kernel
theorem dX7_swap_75 : decode cX7_swap 75 = .ok (.iload 5, 2) := by decide +kernel
theorem dX7_swap_77 : decode cX7_swap 77 = .ok (.invokevirtual 172, 3) := by decide +kernel
theorem dX7_swap_80 : decode cX7_swap 80 = .ok (.istore 7, 2) := by decide +kernel
theorem dX7_swap_82 : decode cX7_swap 82 = .ok (.aload_n 0, 1) := by decide +kernel
theorem dX7_swap_83 : decode cX7_swap 83 = .ok (.getfield 7, 3) := by decide +kernel
theorem dX7_swap_86 : decode cX7_swap 86 = .ok (.bipush 32, 2) := by decide +kernel
theorem dX7_swap_88 : decode cX7_swap 88 = .ok (.iload 4, 2) := by decide +kernel
theorem dX7_swap_90 : decode cX7_swap 90 = .ok (.iadd, 1) := by decide +kernel
theorem dX7_swap_91 : decode cX7_swap 91 = .ok (.iload 7, 2) := by decide +kernel
theorem dX7_swap_93 : decode cX7_swap 93 = .ok (.iload 4, 2) := by decide +kernel
theorem dX7_swap_95 : decode cX7_swap 95 = .ok (.isub, 1) := by decide +kernel
theorem dX7_swap_96 : decode cX7_swap 96 = .ok (.iastore, 1) := by decide +kernel
theorem dX7_swap_97 : decode cX7_swap 97 = .ok (.aload_n 0, 1) := by decide +kernel
theorem dX7_swap_98 : decode cX7_swap 98 = .ok (.getfield 7, 3) := by decide +kernel
theorem dX7_swap_101 : decode cX7_swap 101 = .ok (.bipush 32, 2) := by decide +kernel
theorem dX7_swap_103 : decode cX7_swap 103 = .ok (.iload 5, 2) := by decide +kernel
theorem dX7_swap_105 : decode cX7_swap 105 = .ok (.iadd, 1) := by decide +kernel
theorem dX7_swap_106 : decode cX7_swap 106 = .ok (.iload 6, 2) := by decide +kernel
theorem dX7_swap_108 : decode cX7_swap 108 = .ok (.iload 5, 2) := by decide +kernel
theorem dX7_swap_110 : decode cX7_swap 110 = .ok (.isub, 1) := by decide +kernel
theorem dX7_swap_111 : decode cX7_swap 111 = .ok (.iastore, 1) := by decide +kernel
theorem dX7_swap_112 : decode cX7_swap 112 = .ok (.aload_n 0, 1) := by decide +kernel
theorem dX7_swap_113 : decode cX7_swap 113 = .ok (.iconst 0, 1) := by decide +kernel
theorem dX7_swap_114 : decode cX7_swap 114 = .ok (.invokevirtual 225, 3) := by decide +kernel
theorem dX7_swap_117 : decode cX7_swap 117 = .ok (.aload_n 0, 1) := by decide +kernel
theorem dX7_swap_118 : decode cX7_swap 118 = .ok (.getfield 7, 3) := by decide +kernel
theorem dX7_swap_121 : decode cX7_swap 121 = .ok (.bipush 32, 2) := by decide +kernel
theorem dX7_swap_123 : decode cX7_swap 123 = .ok (.iload 4, 2) := by decide +kernel
theorem dX7_swap_125 : decode cX7_swap 125 = .ok (.iadd, 1) := by decide +kernel
theorem dX7_swap_126 : decode cX7_swap 126 = .ok (.iload 6, 2) := by decide +kernel
theorem dX7_swap_128 : decode cX7_swap 128 = .ok (.iload 4, 2) := by decide +kernel
theorem dX7_swap_130 : decode cX7_swap 130 = .ok (.isub, 1) := by decide +kernel
theorem dX7_swap_131 : decode cX7_swap 131 = .ok (.iastore, 1) := by decide +kernel
theorem dX7_swap_132 : decode cX7_swap 132 = .ok (.aload_n 0, 1) := by decide +kernel
theorem dX7_swap_133 : decode cX7_swap 133 = .ok (.getfield 7, 3) := by decide +kernel
theorem dX7_swap_136 : decode cX7_swap 136 = .ok (.bipush 32, 2) := by decide +kernel
theorem dX7_swap_138 : decode cX7_swap 138 = .ok (.iload 5, 2) := by decide +kernel
theorem dX7_swap_140 : decode cX7_swap 140 = .ok (.iadd, 1) := by decide +kernel
theorem dX7_swap_141 : decode cX7_swap 141 = .ok (.iload 7, 2) := by decide +kernel
theorem dX7_swap_143 : decode cX7_swap 143 = .ok (.iload 5, 2) := by decide +kernel
theorem dX7_swap_145 : decode cX7_swap 145 = .ok (.isub, 1) := by decide +kernel
theorem dX7_swap_146 : decode cX7_swap 146 = .ok (.iastore, 1) := by decide +kernel
theorem dX7_swap_147 : decode cX7_swap 147 = .ok (.aload_n 0, 1) := by decide +kernel
theorem dX7_swap_148 : decode cX7_swap 148 = .ok (.invokevirtual 231, 3) := by decide +kernel
theorem dX7_swap_151 : decode cX7_swap 151 = .ok (.istore 8, 2) := by decide +kernel
theorem dX7_swap_153 : decode cX7_swap 153 = .ok (.iload 8, 2) := by decide +kernel
theorem dX7_swap_155 : decode cX7_swap 155 = .ok (.iload_n 2, 1) := by decide +kernel
theorem dX7_swap_156 : decode cX7_swap 156 = .ok (.if_icmp .le 14, 3) := by decide +kernel
theorem dX7_swap_159 : decode cX7_swap 159 = .ok (.bipush 10, 2) := by decide +kernel
theorem dX7_swap_161 : decode cX7_swap 161 = .ok (.iload 4, 2) := by decide +kernel
theorem dX7_swap_163 : decode cX7_swap 163 = .ok (.imul, 1) := by decide +kernel
theorem dX7_swap_164 : decode cX7_swap 164 = .ok (.iload 5, 2) := by decide +kernel
theorem dX7_swap_166 : decode cX7_swap 166 = .ok (.iadd, 1) := by decide +kernel
theorem dX7_swap_167 : decode cX7_swap 167 = .ok (.goto 4, 3) := by decide +kernel
theorem dX7_swap_170 : decode cX7_swap 170 = .ok (.iload_n 3, 1) := by decide +kernel
theorem dX7_swap_171 : decode cX7_swap 171 = .ok (.istore_n 3, 1) := by decide +kernel
theorem dX7_swap_172 : decode cX7_swap 172 = .ok (.iload 8, 2) := by decide +kernel
theorem dX7_swap_174 : decode cX7_swap 174 = .ok (.iload_n 2, 1) := by decide +kernel
theorem dX7_swap_175 : decode cX7_swap 175 = .ok (.if_icmp .le 8, 3) := by decide +kernel
theorem dX7_swap_178 : decode cX7_swap 178 = .ok (.iload 8, 2) := by decide +kernel
theorem dX7_swap_180 : decode cX7_swap 180 = .ok (.goto 4, 3) := by decide +kernel
theorem dX7_swap_183 : decode cX7_swap 183 = .ok (.iload_n 2, 1) := by decide +kernel
theorem dX7_swap_184 : decode cX7_swap 184 = .ok (.istore_n 2, 1) := by decide +kernel
theorem dX7_swap_185 : decode cX7_swap 185 = .ok (.iinc 5 1, 3) := by decide +kernel
theorem dX7_swap_188 : decode cX7_swap 188 = .ok (.goto (-147), 3) := by decide +kernel
theorem dX7_swap_191 : decode cX7_swap 191 = .ok (.iinc 4 1, 3) := by decide +kernel
theorem dX7_swap_194 : decode cX7_swap 194 = .ok (.goto (-166), 3) := by decide +kernel
theorem dX7_swap_197 : decode cX7_swap 197 = .ok (.iload_n 3, 1) := by decide +kernel
theorem dX7_swap_198 : decode cX7_swap 198 = .ok (.bipush (-4), 2) := by decide +kernel
theorem dX7_swap_200 : decode cX7_swap 200 = .ok (.if_icmp .eq 7, 3) := by decide +kernel
theorem dX7_swap_203 : decode cX7_swap 203 = .ok (.iload_n 1, 1) := by decide +kernel
theorem dX7_swap_204 : decode cX7_swap 204 = .ok (.ifCond .ne 7, 3) := by decide +kernel
theorem dX7_swap_207 : decode cX7_swap 207 = .ok (.iload_n 3, 1) := by decide +kernel
theorem dX7_swap_208 : decode cX7_swap 208 = .ok (.goto 4, 3) := by decide +kernel
theorem dX7_swap_211 : decode cX7_swap 211 = .ok (.iload_n 2, 1) := by decide +kernel
theorem dX7_swap_212 : decode cX7_swap 212 = .ok (.ireturn, 1) := by decide +kernel
theorem dX7_lowest_0 : decode cX7_lowest 0 = .ok (.lload_n 0, 1) := by decide +kernel
theorem dX7_lowest_1 : decode cX7_lowest 1 = .ok (.lstore 5, 2) := by decide +kernel
theorem dX7_lowest_3 : decode cX7_lowest 3 = .ok (.lload_n 2, 1) := by decide +kernel
theorem dX7_lowest_4 : decode cX7_lowest 4 = .ok (.lstore 7, 2) := by decide +kernel
theorem dX7_lowest_6 : decode cX7_lowest 6 = .ok (.lload 7, 2) := by decide +kernel
theorem dX7_lowest_8 : decode cX7_lowest 8 = .ok (.lconst 0, 1) := by decide +kernel
theorem dX7_lowest_9 : decode cX7_lowest 9 = .ok (.lcmp, 1) := by decide +kernel
theorem dX7_lowest_10 : decode cX7_lowest 10 = .ok (.ifCond .eq 21, 3) := by decide +kernel
theorem dX7_lowest_13 : decode cX7_lowest 13 = .ok (.lload 5, 2) := by decide +kernel
theorem dX7_lowest_15 : decode cX7_lowest 15 = .ok (.lload 7, 2) := by decide +kernel
theorem dX7_lowest_17 : decode cX7_lowest 17 = .ok (.lrem, 1) := by decide +kernel
theorem dX7_lowest_18 : decode cX7_lowest 18 = .ok (.lstore 9, 2) := by decide +kernel
theorem dX7_lowest_20 : decode cX7_lowest 20 = .ok (.lload 7, 2) := by decide +kernel
theorem dX7_lowest_22 : decode cX7_lowest 22 = .ok (.lstore 5, 2) := by decide +kernel
theorem dX7_lowest_24 : decode cX7_lowest 24 = .ok (.lload 9, 2) := by decide +kernel
theorem dX7_lowest_26 : decode cX7_lowest 26 = .ok (.lstore 7, 2) := by decide +kernel
theorem dX7_lowest_28 : decode cX7_lowest 28 = .ok (.goto (-22), 3) := by decide +kernel
theorem dX7_lowest_31 : decode cX7_lowest 31 = .ok (.iload 4, 2) := by decide +kernel
theorem dX7_lowest_33 : decode cX7_lowest 33 = .ok (.ifCond .ne 7, 3) := by decide +kernel
theorem dX7_lowest_36 : decode cX7_lowest 36 = .ok (.lload_n 0, 1) := by decide +kernel
theorem dX7_lowest_37 : decode cX7_lowest 37 = .ok (.goto 4, 3) := by decide +kernel
theorem dX7_lowest_40 : decode cX7_lowest 40 = .ok (.lload_n 2, 1) := by decide +kernel
theorem dX7_lowest_41 : decode cX7_lowest 41 = .ok (.lload 5, 2) := by decide +kernel
theorem dX7_lowest_43 : decode cX7_lowest 43 = .ok (.ldiv, 1) := by decide +kernel
theorem dX7_lowest_44 : decode cX7_lowest 44 = .ok (.lreturn, 1) := by decide +kernel
theorem dX7_byThieves_0 : decode cX7_byThieves 0 = .ok (.aload_n 0, 1) := by decide +kernel
theorem dX7_byThieves_1 : decode cX7_byThieves 1 = .ok (.getfield 147, 3) := by decide +kernel
theorem dX7_byThieves_4 : decode cX7_byThieves 4 = .ok (.aload_n 0, 1) := by decide +kernel
theorem dX7_byThieves_5 : decode cX7_byThieves 5 = .ok (.getfield 150, 3) := by decide +kernel
theorem dX7_byThieves_8 : decode cX7_byThieves 8 = .ok (.invokestatic 140, 3) := by decide +kernel
theorem dX7_byThieves_11 : decode cX7_byThieves 11 = .ok (.istore 4, 2) := by decide +kernel
theorem dX7_byThieves_13 : decode cX7_byThieves 13 = .ok (.lconst 0, 1) := by decide +kernel
theorem dX7_byThieves_14 : decode cX7_byThieves 14 = .ok (.lstore 5, 2) := by decide +kernel
theorem dX7_byThieves_16 : decode cX7_byThieves 16 = .ok (.lconst 1, 1) := by decide +kernel
theorem dX7_byThieves_17 : decode cX7_byThieves 17 = .ok (.lstore 7, 2) := by decide +kernel
theorem dX7_byThieves_19 : decode cX7_byThieves 19 = .ok (.iconst 0, 1) := by decide +kernel
theorem dX7_byThieves_20 : decode cX7_byThieves 20 = .ok (.istore 9, 2) := by decide +kernel
theorem dX7_byThieves_22 : decode cX7_byThieves 22 = .ok (.iload 9, 2) := by decide +kernel
theorem dX7_byThieves_24 : decode cX7_byThieves 24 = .ok (.bipush 8, 2) := by decide +kernel
theorem dX7_byThieves_26 : decode cX7_byThieves 26 = .ok (.if_icmp .ge 32, 3) := by decide +kernel
theorem dX7_byThieves_29 : decode cX7_byThieves 29 = .ok (.lload 7, 2) := by decide +kernel
theorem dX7_byThieves_31 : decode cX7_byThieves 31 = .ok (.iload 4, 2) := by decide +kernel
theorem dX7_byThieves_33 : decode cX7_byThieves 33 = .ok (.iload 9, 2) := by decide +kernel
theorem dX7_byThieves_35 : decode cX7_byThieves 35 = .ok (.ishr, 1) := by decide +kernel
theorem dX7_byThieves_36 : decode cX7_byThieves 36 = .ok (.iconst 1, 1) := by decide +kernel
theorem dX7_byThieves_37 : decode cX7_byThieves 37 = .ok (.iand, 1) := by decide +kernel
theorem dX7_byThieves_38 : decode cX7_byThieves 38 = .ok (.iconst 1, 1) := by decide +kernel
theorem dX7_byThieves_39 : decode cX7_byThieves 39 = .ok (.if_icmp .ne 9, 3) := by decide +kernel
theorem dX7_byThieves_42 : decode cX7_byThieves 42 = .ok (.ldc2_w 243, 3) := by decide +kernel
theorem dX7_byThieves_45 : decode cX7_byThieves 45 = .ok (.goto 4, 3) := by decide +kernel
theorem dX7_byThieves_48 : decode cX7_byThieves 48 = .ok (.lconst 1, 1) := by decide +kernel
theorem dX7_byThieves_49 : decode cX7_byThieves 49 = .ok (.lmul, 1) := by decide +kernel
theorem dX7_byThieves_50 : decode cX7_byThieves 50 = .ok (.lstore 7, 2) := by decide +kernel
theorem dX7_byThieves_52 : decode cX7_byThieves 52 = .ok (.iinc 9 1, 3) := by decide +kernel
theorem dX7_byThieves_55 : decode cX7_byThieves 55 = .ok (.goto (-33), 3) := by decide +kernel
theorem dX7_byThieves_58 : decode cX7_byThieves 58 = .ok (.iconst 0, 1) := by decide +kernel
theorem dX7_byThieves_59 : decode cX7_byThieves 59 = .ok (.istore 9, 2) := by decide +kernel
theorem dX7_byThieves_61 : decode cX7_byThieves 61 = .ok (.iload 9, 2) := by decide +kernel
theorem dX7_byThieves_63 : decode cX7_byThieves 63 = .ok (.sipush 256, 3) := by decide +kernel
theorem dX7_byThieves_66 : decode cX7_byThieves 66 = .ok (.if_icmp .ge 127, 3) := by decide +kernel
theorem dX7_byThieves_69 : decode cX7_byThieves 69 = .ok (.iload 9, 2) := by decide +kernel
theorem dX7_byThieves_71 : decode cX7_byThieves 71 = .ok (.iload 4, 2) := by decide +kernel
theorem dX7_byThieves_73 : decode cX7_byThieves 73 = .ok (.iconst (-1), 1) := by decide +kernel
theorem dX7_byThieves_74 : decode cX7_byThieves 74 = .ok (.ixor, 1) := by decide +kernel
theorem dX7_byThieves_75 : decode cX7_byThieves 75 = .ok (.iand, 1) := by decide +kernel
theorem dX7_byThieves_76 : decode cX7_byThieves 76 = .ok (.ifCond .ne 111, 3) := by decide +kernel
theorem dX7_byThieves_79 : decode cX7_byThieves 79 = .ok (.lconst 1, 1) := by decide +kernel
theorem dX7_byThieves_80 : decode cX7_byThieves 80 = .ok (.lstore 10, 2) := by decide +kernel
theorem dX7_byThieves_82 : decode cX7_byThieves 82 = .ok (.iconst 0, 1) := by decide +kernel
theorem dX7_byThieves_83 : decode cX7_byThieves 83 = .ok (.istore 12, 2) := by decide +kernel
theorem dX7_byThieves_85 : decode cX7_byThieves 85 = .ok (.iload 12, 2) := by decide +kernel
theorem dX7_byThieves_87 : decode cX7_byThieves 87 = .ok (.bipush 8, 2) := by decide +kernel
theorem dX7_byThieves_89 : decode cX7_byThieves 89 = .ok (.if_icmp .ge 49, 3) := by decide +kernel
theorem dX7_byThieves_92 : decode cX7_byThieves 92 = .ok (.lload 10, 2) := by decide +kernel
theorem dX7_byThieves_94 : decode cX7_byThieves 94 = .ok (.iload 4, 2) := by decide +kernel
theorem dX7_byThieves_96 : decode cX7_byThieves 96 = .ok (.iload 12, 2) := by decide +kernel
theorem dX7_byThieves_98 : decode cX7_byThieves 98 = .ok (.ishr, 1) := by decide +kernel
theorem dX7_byThieves_99 : decode cX7_byThieves 99 = .ok (.iconst 1, 1) := by decide +kernel
theorem dX7_byThieves_100 : decode cX7_byThieves 100 = .ok (.iand, 1) := by decide +kernel
theorem dX7_byThieves_101 : decode cX7_byThieves 101 = .ok (.ifCond .ne 7, 3) := by decide +kernel
theorem dX7_byThieves_104 : decode cX7_byThieves 104 = .ok (.lconst 1, 1) := by decide +kernel
theorem dX7_byThieves_105 : decode cX7_byThieves 105 = .ok (.goto 24, 3) := by decide +kernel
theorem dX7_byThieves_108 : decode cX7_byThieves 108 = .ok (.iload 9, 2) := by decide +kernel
theorem dX7_byThieves_110 : decode cX7_byThieves 110 = .ok (.iload 12, 2) := by decide +kernel
theorem dX7_byThieves_112 : decode cX7_byThieves 112 = .ok (.ishr, 1) := by decide +kernel
theorem dX7_byThieves_113 : decode cX7_byThieves 113 = .ok (.iconst 1, 1) := by decide +kernel
theorem dX7_byThieves_114 : decode cX7_byThieves 114 = .ok (.iand, 1) := by decide +kernel
theorem dX7_byThieves_115 : decode cX7_byThieves 115 = .ok (.iconst 1, 1) := by decide +kernel
theorem dX7_byThieves_116 : decode cX7_byThieves 116 = .ok (.if_icmp .ne 8, 3) := by decide +kernel
theorem dX7_byThieves_119 : decode cX7_byThieves 119 = .ok (.iload_n 1, 1) := by decide +kernel
theorem dX7_byThieves_120 : decode cX7_byThieves 120 = .ok (.i2l, 1) := by decide +kernel
theorem dX7_byThieves_121 : decode cX7_byThieves 121 = .ok (.goto 8, 3) := by decide +kernel
theorem dX7_byThieves_124 : decode cX7_byThieves 124 = .ok (.bipush 10, 2) := by decide +kernel
theorem dX7_byThieves_126 : decode cX7_byThieves 126 = .ok (.iload_n 1, 1) := by decide +kernel
theorem dX7_byThieves_127 : decode cX7_byThieves 127 = .ok (.isub, 1) := by decide +kernel
theorem dX7_byThieves_128 : decode cX7_byThieves 128 = .ok (.i2l, 1) := by decide +kernel
theorem dX7_byThieves_129 : decode cX7_byThieves 129 = .ok (.lmul, 1) := by decide +kernel
theorem dX7_byThieves_130 : decode cX7_byThieves 130 = .ok (.lstore 10, 2) := by decide +kernel
theorem dX7_byThieves_132 : decode cX7_byThieves 132 = .ok (.iinc 12 1, 3) := by decide +kernel
theorem dX7_byThieves_135 : decode cX7_byThieves 135 = .ok (.goto (-50), 3) := by decide +kernel
theorem dX7_byThieves_138 : decode cX7_byThieves 138 = .ok (.aload_n 0, 1) := by decide +kernel
theorem dX7_byThieves_139 : decode cX7_byThieves 139 = .ok (.iload 9, 2) := by decide +kernel
theorem dX7_byThieves_141 : decode cX7_byThieves 141 = .ok (.invokevirtual 195, 3) := by decide +kernel
theorem dX7_byThieves_144 : decode cX7_byThieves 144 = .ok (.aload_n 0, 1) := by decide +kernel
theorem dX7_byThieves_145 : decode cX7_byThieves 145 = .ok (.iconst 0, 1) := by decide +kernel
theorem dX7_byThieves_146 : decode cX7_byThieves 146 = .ok (.invokevirtual 222, 3) := by decide +kernel
theorem dX7_byThieves_149 : decode cX7_byThieves 149 = .ok (.lload 5, 2) := by decide +kernel
theorem dX7_byThieves_151 : decode cX7_byThieves 151 = .ok (.lload 10, 2) := by decide +kernel
theorem dX7_byThieves_153 : decode cX7_byThieves 153 = .ok (.iload_n 2, 1) := by decide +kernel
theorem dX7_byThieves_154 : decode cX7_byThieves 154 = .ok (.bipush (-4), 2) := by decide +kernel
theorem dX7_byThieves_156 : decode cX7_byThieves 156 = .ok (.if_icmp .ne 10, 3) := by decide +kernel
theorem dX7_byThieves_159 : decode cX7_byThieves 159 = .ok (.aload_n 0, 1) := by decide +kernel
theorem dX7_byThieves_160 : decode cX7_byThieves 160 = .ok (.invokevirtual 228, 3) := by decide +kernel
theorem dX7_byThieves_163 : decode cX7_byThieves 163 = .ok (.goto 19, 3) := by decide +kernel
theorem dX7_byThieves_166 : decode cX7_byThieves 166 = .ok (.aload_n 0, 1) := by decide +kernel
theorem dX7_byThieves_167 : decode cX7_byThieves 167 = .ok (.getfield 28, 3) := by decide +kernel
theorem dX7_byThieves_170 : decode cX7_byThieves 170 = .ok (.iload_n 2, 1) := by decide +kernel
theorem dX7_byThieves_171 : decode cX7_byThieves 171 = .ok (.iaload, 1) := by decide +kernel
theorem dX7_byThieves_172 : decode cX7_byThieves 172 = .ok (.bipush (-4), 2) := by decide +kernel
theorem dX7_byThieves_174 : decode cX7_byThieves 174 = .ok (.if_icmp .eq 7, 3) := by decide +kernel
theorem dX7_byThieves_177 : decode cX7_byThieves 177 = .ok (.iconst 1, 1) := by decide +kernel
theorem dX7_byThieves_178 : decode cX7_byThieves 178 = .ok (.goto 4, 3) := by decide +kernel
theorem dX7_byThieves_181 : decode cX7_byThieves 181 = .ok (.iconst 0, 1) := by decide +kernel
theorem dX7_byThieves_182 : decode cX7_byThieves 182 = .ok (.i2l, 1) := by decide +kernel
theorem dX7_byThieves_183 : decode cX7_byThieves 183 = .ok (.lmul, 1) := by decide +kernel
theorem dX7_byThieves_184 : decode cX7_byThieves 184 = .ok (.ladd, 1) := by decide +kernel
theorem dX7_byThieves_185 : decode cX7_byThieves 185 = .ok (.lstore 5, 2) := by decide +kernel
theorem dX7_byThieves_187 : decode cX7_byThieves 187 = .ok (.iinc 9 1, 3) := by decide +kernel
theorem dX7_byThieves_190 : decode cX7_byThieves 190 = .ok (.goto (-129), 3) := by decide +kernel
theorem dX7_byThieves_193 : decode cX7_byThieves 193 = .ok (.lload 5, 2) := by decide +kernel
theorem dX7_byThieves_195 : decode cX7_byThieves 195 = .ok (.lload 7, 2) := by decide +kernel
theorem dX7_byThieves_197 : decode cX7_byThieves 197 = .ok (.iload_n 3, 1) := by decide +kernel
theorem dX7_byThieves_198 : decode cX7_byThieves 198 = .ok (.invokestatic 262, 3) := by decide +kernel
theorem dX7_byThieves_201 : decode cX7_byThieves 201 = .ok (.lreturn, 1) := by decide +kernel
theorem dX7_mean_0 : decode cX7_mean 0 = .ok (.iload_n 1, 1) := by decide +kernel
theorem dX7_mean_1 : decode cX7_mean 1 = .ok (.i2l, 1) := by decide +kernel
theorem dX7_mean_2 : decode cX7_mean 2 = .ok (.lconst 0, 1) := by decide +kernel
theorem dX7_mean_3 : decode cX7_mean 3 = .ok (.ldc2_w 243, 3) := by decide +kernel
theorem dX7_mean_6 : decode cX7_mean 6 = .ok (.invokestatic 58, 3) := by decide +kernel
theorem dX7_mean_9 : decode cX7_mean 9 = .ok (.ifCond .eq 24, 3) := by decide +kernel
theorem dX7_mean_12 : decode cX7_mean 12 = .ok (.iload_n 2, 1) := by decide +kernel
theorem dX7_mean_13 : decode cX7_mean 13 = .ok (.i2l, 1) := by decide +kernel
theorem dX7_mean_14 : decode cX7_mean 14 = .ok (.lconst 0, 1) := by decide +kernel
theorem dX7_mean_15 : decode cX7_mean 15 = .ok (.lconst 1, 1) := by decide +kernel
theorem dX7_mean_16 : decode cX7_mean 16 = .ok (.invokestatic 58, 3) := by decide +kernel
theorem dX7_mean_19 : decode cX7_mean 19 = .ok (.ifCond .eq 14, 3) := by decide +kernel
theorem dX7_mean_22 : decode cX7_mean 22 = .ok (.aload_n 0, 1) := by decide +kernel
theorem dX7_mean_23 : decode cX7_mean 23 = .ok (.iload_n 1, 1) := by decide +kernel
theorem dX7_mean_24 : decode cX7_mean 24 = .ok (.bipush (-4), 2) := by decide +kernel
theorem dX7_mean_26 : decode cX7_mean 26 = .ok (.iload_n 2, 1) := by decide +kernel
theorem dX7_mean_27 : decode cX7_mean 27 = .ok (.invokevirtual 266, 3) := by decide +kernel
theorem dX7_mean_30 : decode cX7_mean 30 = .ok (.goto 6, 3) := by decide +kernel
theorem dX7_mean_33 : decode cX7_mean 33 = .ok (.ldc2_w 270, 3) := by decide +kernel
theorem dX7_mean_36 : decode cX7_mean 36 = .ok (.lreturn, 1) := by decide +kernel
theorem dX7_luck_0 : decode cX7_luck 0 = .ok (.iload_n 1, 1) := by decide +kernel
theorem dX7_luck_1 : decode cX7_luck 1 = .ok (.i2l, 1) := by decide +kernel
theorem dX7_luck_2 : decode cX7_luck 2 = .ok (.lconst 0, 1) := by decide +kernel
theorem dX7_luck_3 : decode cX7_luck 3 = .ok (.ldc2_w 243, 3) := by decide +kernel
theorem dX7_luck_6 : decode cX7_luck 6 = .ok (.invokestatic 58, 3) := by decide +kernel
theorem dX7_luck_9 : decode cX7_luck 9 = .ok (.ifCond .eq 31, 3) := by decide +kernel
theorem dX7_luck_12 : decode cX7_luck 12 = .ok (.aload_n 0, 1) := by decide +kernel
theorem dX7_luck_13 : decode cX7_luck 13 = .ok (.iload_n 2, 1) := by decide +kernel
theorem dX7_luck_14 : decode cX7_luck 14 = .ok (.invokevirtual 158, 3) := by decide +kernel
theorem dX7_luck_17 : decode cX7_luck 17 = .ok (.ifCond .eq 23, 3) := by decide +kernel
theorem dX7_luck_20 : decode cX7_luck 20 = .ok (.iload_n 3, 1) := by decide +kernel
theorem dX7_luck_21 : decode cX7_luck 21 = .ok (.i2l, 1) := by decide +kernel
theorem dX7_luck_22 : decode cX7_luck 22 = .ok (.lconst 0, 1) := by decide +kernel
theorem dX7_luck_23 : decode cX7_luck 23 = .ok (.lconst 1, 1) := by decide +kernel
theorem dX7_luck_24 : decode cX7_luck 24 = .ok (.invokestatic 58, 3) := by decide +kernel
theorem dX7_luck_27 : decode cX7_luck 27 = .ok (.ifCond .eq 13, 3) := by decide +kernel
theorem dX7_luck_30 : decode cX7_luck 30 = .ok (.aload_n 0, 1) := by decide +kernel
theorem dX7_luck_31 : decode cX7_luck 31 = .ok (.iload_n 1, 1) := by decide +kernel
theorem dX7_luck_32 : decode cX7_luck 32 = .ok (.iload_n 2, 1) := by decide +kernel
theorem dX7_luck_33 : decode cX7_luck 33 = .ok (.iload_n 3, 1) := by decide +kernel
theorem dX7_luck_34 : decode cX7_luck 34 = .ok (.invokevirtual 266, 3) := by decide +kernel
theorem dX7_luck_37 : decode cX7_luck 37 = .ok (.goto 6, 3) := by decide +kernel
theorem dX7_luck_40 : decode cX7_luck 40 = .ok (.ldc2_w 270, 3) := by decide +kernel
theorem dX7_luck_43 : decode cX7_luck 43 = .ok (.lreturn, 1) := by decide +kernel
theorem dX7_see_0 : decode cX7_see 0 = .ok (.aload_n 0, 1) := by decide +kernel
theorem dX7_see_1 : decode cX7_see 1 = .ok (.iload_n 1, 1) := by decide +kernel
theorem dX7_see_2 : decode cX7_see 2 = .ok (.invokevirtual 158, 3) := by decide +kernel
theorem dX7_see_5 : decode cX7_see 5 = .ok (.ifCond .eq 27, 3) := by decide +kernel
theorem dX7_see_8 : decode cX7_see 8 = .ok (.iload_n 2, 1) := by decide +kernel
theorem dX7_see_9 : decode cX7_see 9 = .ok (.i2l, 1) := by decide +kernel
theorem dX7_see_10 : decode cX7_see 10 = .ok (.lconst 0, 1) := by decide +kernel
theorem dX7_see_11 : decode cX7_see 11 = .ok (.ldc2_w 184, 3) := by decide +kernel
theorem dX7_see_14 : decode cX7_see 14 = .ok (.invokestatic 58, 3) := by decide +kernel
theorem dX7_see_17 : decode cX7_see 17 = .ok (.ifCond .eq 15, 3) := by decide +kernel
theorem dX7_see_20 : decode cX7_see 20 = .ok (.iload_n 3, 1) := by decide +kernel
theorem dX7_see_21 : decode cX7_see 21 = .ok (.i2l, 1) := by decide +kernel
theorem dX7_see_22 : decode cX7_see 22 = .ok (.lconst 0, 1) := by decide +kernel
theorem dX7_see_23 : decode cX7_see 23 = .ok (.ldc2_w 211, 3) := by decide +kernel
theorem dX7_see_26 : decode cX7_see 26 = .ok (.invokestatic 58, 3) := by decide +kernel
theorem dX7_see_29 : decode cX7_see 29 = .ok (.ifCond .ne 5, 3) := by decide +kernel
theorem dX7_see_32 : decode cX7_see 32 = .ok (.iconst (-1), 1) := by decide +kernel
theorem dX7_see_33 : decode cX7_see 33 = .ok (.ireturn, 1) := by decide +kernel
theorem dX7_see_34 : decode cX7_see 34 = .ok (.aload_n 0, 1) := by decide +kernel
theorem dX7_see_35 : decode cX7_see 35 = .ok (.getfield 153, 3) := by decide +kernel
theorem dX7_see_38 : decode cX7_see 38 = .ok (.bipush 6, 2) := by decide +kernel
theorem dX7_see_40 : decode cX7_see 40 = .ok (.if_icmp .ne 6, 3) := by decide +kernel
theorem dX7_see_43 : decode cX7_see 43 = .ok (.bipush (-3), 2) := by decide +kernel
theorem dX7_see_45 : decode cX7_see 45 = .ok (.ireturn, 1) := by decide +kernel
theorem dX7_see_46 : decode cX7_see 46 = .ok (.aload_n 0, 1) := by decide +kernel
theorem dX7_see_47 : decode cX7_see 47 = .ok (.getfield 37, 3) := by decide +kernel
theorem dX7_see_50 : decode cX7_see 50 = .ok (.iconst 3, 1) := by decide +kernel
theorem dX7_see_51 : decode cX7_see 51 = .ok (.aload_n 0, 1) := by decide +kernel
theorem dX7_see_52 : decode cX7_see 52 = .ok (.getfield 153, 3) := by decide +kernel
theorem dX7_see_55 : decode cX7_see 55 = .ok (.imul, 1) := by decide +kernel
theorem dX7_see_56 : decode cX7_see 56 = .ok (.iload_n 1, 1) := by decide +kernel
theorem dX7_see_57 : decode cX7_see 57 = .ok (.iastore, 1) := by decide +kernel
theorem dX7_see_58 : decode cX7_see 58 = .ok (.aload_n 0, 1) := by decide +kernel
theorem dX7_see_59 : decode cX7_see 59 = .ok (.getfield 37, 3) := by decide +kernel
theorem dX7_see_62 : decode cX7_see 62 = .ok (.iconst 3, 1) := by decide +kernel
theorem dX7_see_63 : decode cX7_see 63 = .ok (.aload_n 0, 1) := by decide +kernel
theorem dX7_see_64 : decode cX7_see 64 = .ok (.getfield 153, 3) := by decide +kernel
theorem dX7_see_67 : decode cX7_see 67 = .ok (.imul, 1) := by decide +kernel
theorem dX7_see_68 : decode cX7_see 68 = .ok (.iconst 1, 1) := by decide +kernel
theorem dX7_see_69 : decode cX7_see 69 = .ok (.iadd, 1) := by decide +kernel
theorem dX7_see_70 : decode cX7_see 70 = .ok (.iload_n 2, 1) := by decide +kernel
theorem dX7_see_71 : decode cX7_see 71 = .ok (.iastore, 1) := by decide +kernel
theorem dX7_see_72 : decode cX7_see 72 = .ok (.aload_n 0, 1) := by decide +kernel
theorem dX7_see_73 : decode cX7_see 73 = .ok (.getfield 37, 3) := by decide +kernel
theorem dX7_see_76 : decode cX7_see 76 = .ok (.iconst 3, 1) := by decide +kernel
theorem dX7_see_77 : decode cX7_see 77 = .ok (.aload_n 0, 1) := by decide +kernel
theorem dX7_see_78 : decode cX7_see 78 = .ok (.getfield 153, 3) := by decide +kernel
theorem dX7_see_81 : decode cX7_see 81 = .ok (.imul, 1) := by decide +kernel
theorem dX7_see_82 : decode cX7_see 82 = .ok (.iconst 2, 1) := by decide +kernel
theorem dX7_see_83 : decode cX7_see 83 = .ok (.iadd, 1) := by decide +kernel
theorem dX7_see_84 : decode cX7_see 84 = .ok (.iload_n 3, 1) := by decide +kernel
theorem dX7_see_85 : decode cX7_see 85 = .ok (.iastore, 1) := by decide +kernel
theorem dX7_see_86 : decode cX7_see 86 = .ok (.aload_n 0, 1) := by decide +kernel
theorem dX7_see_87 : decode cX7_see 87 = .ok (.dup, 1) := by decide +kernel
theorem dX7_see_88 : decode cX7_see 88 = .ok (.getfield 153, 3) := by decide +kernel
theorem dX7_see_91 : decode cX7_see 91 = .ok (.iconst 1, 1) := by decide +kernel
theorem dX7_see_92 : decode cX7_see 92 = .ok (.iadd, 1) := by decide +kernel
theorem dX7_see_93 : decode cX7_see 93 = .ok (.putfield 153, 3) := by decide +kernel
theorem dX7_see_96 : decode cX7_see 96 = .ok (.aload_n 0, 1) := by decide +kernel
theorem dX7_see_97 : decode cX7_see 97 = .ok (.getfield 153, 3) := by decide +kernel
theorem dX7_see_100 : decode cX7_see 100 = .ok (.ireturn, 1) := by decide +kernel
theorem dX7_forget_0 : decode cX7_forget 0 = .ok (.iload_n 1, 1) := by decide +kernel
theorem dX7_forget_1 : decode cX7_forget 1 = .ok (.i2l, 1) := by decide +kernel
theorem dX7_forget_2 : decode cX7_forget 2 = .ok (.lconst 0, 1) := by decide +kernel
theorem dX7_forget_3 : decode cX7_forget 3 = .ok (.aload_n 0, 1) := by decide +kernel
theorem dX7_forget_4 : decode cX7_forget 4 = .ok (.getfield 153, 3) := by decide +kernel
theorem dX7_forget_7 : decode cX7_forget 7 = .ok (.i2l, 1) := by decide +kernel
theorem dX7_forget_8 : decode cX7_forget 8 = .ok (.invokestatic 58, 3) := by decide +kernel
theorem dX7_forget_11 : decode cX7_forget 11 = .ok (.ifCond .ne 5, 3) := by decide +kernel
theorem dX7_forget_14 : decode cX7_forget 14 = .ok (.iconst (-1), 1) := by decide +kernel
theorem dX7_forget_15 : decode cX7_forget 15 = .ok (.ireturn, 1) := by decide +kernel
theorem dX7_forget_16 : decode cX7_forget 16 = .ok (.aload_n 0, 1) := by decide +kernel
theorem dX7_forget_17 : decode cX7_forget 17 = .ok (.getfield 153, 3) := by decide +kernel
theorem dX7_forget_20 : decode cX7_forget 20 = .ok (.istore_n 2, 1) := by decide +kernel
theorem dX7_forget_21 : decode cX7_forget 21 = .ok (.aload_n 0, 1) := by decide +kernel
theorem dX7_forget_22 : decode cX7_forget 22 = .ok (.iload_n 1, 1) := by decide +kernel
theorem dX7_forget_23 : decode cX7_forget 23 = .ok (.putfield 153, 3) := by decide +kernel
theorem dX7_forget_26 : decode cX7_forget 26 = .ok (.iload_n 2, 1) := by decide +kernel
theorem dX7_forget_27 : decode cX7_forget 27 = .ok (.ireturn, 1) := by decide +kernel
theorem dX7_pensFor_0 : decode cX7_pensFor 0 = .ok (.iconst 0, 1) := by decide +kernel
theorem dX7_pensFor_1 : decode cX7_pensFor 1 = .ok (.istore_n 2, 1) := by decide +kernel
theorem dX7_pensFor_2 : decode cX7_pensFor 2 = .ok (.aload_n 0, 1) := by decide +kernel
theorem dX7_pensFor_3 : decode cX7_pensFor 3 = .ok (.getfield 7, 3) := by decide +kernel
theorem dX7_pensFor_6 : decode cX7_pensFor 6 = .ok (.bipush 32, 2) := by decide +kernel
theorem dX7_pensFor_8 : decode cX7_pensFor 8 = .ok (.iload_n 1, 1) := by decide +kernel
theorem dX7_pensFor_9 : decode cX7_pensFor 9 = .ok (.iadd, 1) := by decide +kernel
theorem dX7_pensFor_10 : decode cX7_pensFor 10 = .ok (.iaload, 1) := by decide +kernel
theorem dX7_pensFor_11 : decode cX7_pensFor 11 = .ok (.istore_n 3, 1) := by decide +kernel
theorem dX7_pensFor_12 : decode cX7_pensFor 12 = .ok (.iconst 0, 1) := by decide +kernel
theorem dX7_pensFor_13 : decode cX7_pensFor 13 = .ok (.istore 4, 2) := by decide +kernel
theorem dX7_pensFor_15 : decode cX7_pensFor 15 = .ok (.iload 4, 2) := by decide +kernel
theorem dX7_pensFor_17 : decode cX7_pensFor 17 = .ok (.bipush 8, 2) := by decide +kernel
theorem dX7_pensFor_19 : decode cX7_pensFor 19 = .ok (.if_icmp .ge 157, 3) := by decide +kernel
theorem dX7_pensFor_22 : decode cX7_pensFor 22 = .ok (.aload_n 0, 1) := by decide +kernel
theorem dX7_pensFor_23 : decode cX7_pensFor 23 = .ok (.iload 4, 2) := by decide +kernel
theorem dX7_pensFor_25 : decode cX7_pensFor 25 = .ok (.invokevirtual 158, 3) := by decide +kernel
theorem dX7_pensFor_28 : decode cX7_pensFor 28 = .ok (.ifCond .eq 142, 3) := by decide +kernel
theorem dX7_pensFor_31 : decode cX7_pensFor 31 = .ok (.aload_n 0, 1) := by decide +kernel
theorem dX7_pensFor_32 : decode cX7_pensFor 32 = .ok (.getfield 7, 3) := by decide +kernel
theorem dX7_pensFor_35 : decode cX7_pensFor 35 = .ok (.bipush 32, 2) := by decide +kernel
theorem dX7_pensFor_37 : decode cX7_pensFor 37 = .ok (.iload_n 1, 1) := by decide +kernel
theorem dX7_pensFor_38 : decode cX7_pensFor 38 = .ok (.iadd, 1) := by decide +kernel
theorem dX7_pensFor_39 : decode cX7_pensFor 39 = .ok (.iload 4, 2) := by decide +kernel
theorem dX7_pensFor_41 : decode cX7_pensFor 41 = .ok (.iload_n 1, 1) := by decide +kernel
theorem dX7_pensFor_42 : decode cX7_pensFor 42 = .ok (.isub, 1) := by decide +kernel
theorem dX7_pensFor_43 : decode cX7_pensFor 43 = .ok (.iastore, 1) := by decide +kernel
theorem dX7_pensFor_44 : decode cX7_pensFor 44 = .ok (.iconst 1, 1) := by decide +kernel
theorem dX7_pensFor_45 : decode cX7_pensFor 45 = .ok (.istore 5, 2) := by decide +kernel
theorem dX7_pensFor_47 : decode cX7_pensFor 47 = .ok (.iconst 0, 1) := by decide +kernel
theorem dX7_pensFor_48 : decode cX7_pensFor 48 = .ok (.istore 6, 2) := by decide +kernel
theorem dX7_pensFor_50 : decode cX7_pensFor 50 = .ok (.iload 6, 2) := by decide +kernel
theorem dX7_pensFor_52 : decode cX7_pensFor 52 = .ok (.aload_n 0, 1) := by decide +kernel
theorem dX7_pensFor_53 : decode cX7_pensFor 53 = .ok (.getfield 153, 3) := by decide +kernel
theorem dX7_pensFor_56 : decode cX7_pensFor 56 = .ok (.if_icmp .ge 64, 3) := by decide +kernel
theorem dX7_pensFor_59 : decode cX7_pensFor 59 = .ok (.iload 5, 2) := by decide +kernel
theorem dX7_pensFor_61 : decode cX7_pensFor 61 = .ok (.ifCond .eq 50, 3) := by decide +kernel
theorem dX7_pensFor_64 : decode cX7_pensFor 64 = .ok (.aload_n 0, 1) := by decide +kernel
theorem dX7_pensFor_65 : decode cX7_pensFor 65 = .ok (.getfield 37, 3) := by decide +kernel
theorem dX7_pensFor_68 : decode cX7_pensFor 68 = .ok (.iconst 3, 1) := by decide +kernel
theorem dX7_pensFor_69 : decode cX7_pensFor 69 = .ok (.iload 6, 2) := by decide +kernel
theorem dX7_pensFor_71 : decode cX7_pensFor 71 = .ok (.imul, 1) := by decide +kernel
theorem dX7_pensFor_72 : decode cX7_pensFor 72 = .ok (.iaload, 1) := by decide +kernel
theorem dX7_pensFor_73 : decode cX7_pensFor 73 = .ok (.iload_n 1, 1) := by decide +kernel
theorem dX7_pensFor_74 : decode cX7_pensFor 74 = .ok (.if_icmp .ne 33, 3) := by decide +kernel
theorem dX7_pensFor_77 : decode cX7_pensFor 77 = .ok (.aload_n 0, 1) := by decide +kernel
theorem dX7_pensFor_78 : decode cX7_pensFor 78 = .ok (.iload_n 1, 1) := by decide +kernel
theorem dX7_pensFor_79 : decode cX7_pensFor 79 = .ok (.aload_n 0, 1) := by decide +kernel
theorem dX7_pensFor_80 : decode cX7_pensFor 80 = .ok (.getfield 37, 3) := by decide +kernel
theorem dX7_pensFor_83 : decode cX7_pensFor 83 = .ok (.iconst 3, 1) := by decide +kernel
theorem dX7_pensFor_84 : decode cX7_pensFor 84 = .ok (.iload 6, 2) := by decide +kernel
theorem dX7_pensFor_86 : decode cX7_pensFor 86 = .ok (.imul, 1) := by decide +kernel
theorem dX7_pensFor_87 : decode cX7_pensFor 87 = .ok (.iconst 1, 1) := by decide +kernel
theorem dX7_pensFor_88 : decode cX7_pensFor 88 = .ok (.iadd, 1) := by decide +kernel
theorem dX7_pensFor_89 : decode cX7_pensFor 89 = .ok (.iaload, 1) := by decide +kernel
theorem dX7_pensFor_90 : decode cX7_pensFor 90 = .ok (.invokevirtual 186, 3) := by decide +kernel
theorem dX7_pensFor_93 : decode cX7_pensFor 93 = .ok (.aload_n 0, 1) := by decide +kernel
theorem dX7_pensFor_94 : decode cX7_pensFor 94 = .ok (.getfield 37, 3) := by decide +kernel
theorem dX7_pensFor_97 : decode cX7_pensFor 97 = .ok (.iconst 3, 1) := by decide +kernel
theorem dX7_pensFor_98 : decode cX7_pensFor 98 = .ok (.iload 6, 2) := by decide +kernel
theorem dX7_pensFor_100 : decode cX7_pensFor 100 = .ok (.imul, 1) := by decide +kernel
theorem dX7_pensFor_101 : decode cX7_pensFor 101 = .ok (.iconst 2, 1) := by decide +kernel
theorem dX7_pensFor_102 : decode cX7_pensFor 102 = .ok (.iadd, 1) := by decide +kernel
theorem dX7_pensFor_103 : decode cX7_pensFor 103 = .ok (.iaload, 1) := by decide +kernel
theorem dX7_pensFor_104 : decode cX7_pensFor 104 = .ok (.if_icmp .ne 7, 3) := by decide +kernel
theorem dX7_pensFor_107 : decode cX7_pensFor 107 = .ok (.iconst 1, 1) := by decide +kernel
theorem dX7_pensFor_108 : decode cX7_pensFor 108 = .ok (.goto 4, 3) := by decide +kernel
theorem dX7_pensFor_111 : decode cX7_pensFor 111 = .ok (.iconst 0, 1) := by decide +kernel
theorem dX7_pensFor_112 : decode cX7_pensFor 112 = .ok (.istore 5, 2) := by decide +kernel
theorem dX7_pensFor_114 : decode cX7_pensFor 114 = .ok (.iinc 6 1, 3) := by decide +kernel
theorem dX7_pensFor_117 : decode cX7_pensFor 117 = .ok (.goto (-67), 3) := by decide +kernel
theorem dX7_pensFor_120 : decode cX7_pensFor 120 = .ok (.iconst 0, 1) := by decide +kernel
theorem dX7_pensFor_121 : decode cX7_pensFor 121 = .ok (.istore 6, 2) := by decide +kernel
theorem dX7_pensFor_123 : decode cX7_pensFor 123 = .ok (.iload 6, 2) := by decide +kernel
theorem dX7_pensFor_125 : decode cX7_pensFor 125 = .ok (.iconst 3, 1) := by decide +kernel
theorem dX7_pensFor_126 : decode cX7_pensFor 126 = .ok (.if_icmp .ge 28, 3) := by decide +kernel
theorem dX7_pensFor_129 : decode cX7_pensFor 129 = .ok (.aload_n 0, 1) := by decide +kernel
theorem dX7_pensFor_130 : decode cX7_pensFor 130 = .ok (.getfield 40, 3) := by decide +kernel
theorem dX7_pensFor_133 : decode cX7_pensFor 133 = .ok (.iconst 3, 1) := by decide +kernel
theorem dX7_pensFor_134 : decode cX7_pensFor 134 = .ok (.iload 4, 2) := by decide +kernel
theorem dX7_pensFor_136 : decode cX7_pensFor 136 = .ok (.imul, 1) := by decide +kernel
theorem dX7_pensFor_137 : decode cX7_pensFor 137 = .ok (.iload 6, 2) := by decide +kernel
theorem dX7_pensFor_139 : decode cX7_pensFor 139 = .ok (.iadd, 1) := by decide +kernel
theorem dX7_pensFor_140 : decode cX7_pensFor 140 = .ok (.aload_n 0, 1) := by decide +kernel
theorem dX7_pensFor_141 : decode cX7_pensFor 141 = .ok (.iload_n 1, 1) := by decide +kernel
theorem dX7_pensFor_142 : decode cX7_pensFor 142 = .ok (.iload 6, 2) := by decide +kernel
theorem dX7_pensFor_144 : decode cX7_pensFor 144 = .ok (.invokevirtual 186, 3) := by decide +kernel
theorem dX7_pensFor_147 : decode cX7_pensFor 147 = .ok (.iastore, 1) := by decide +kernel
theorem dX7_pensFor_148 : decode cX7_pensFor 148 = .ok (.iinc 6 1, 3) := by decide +kernel
theorem dX7_pensFor_151 : decode cX7_pensFor 151 = .ok (.goto (-28), 3) := by decide +kernel
theorem dX7_pensFor_154 : decode cX7_pensFor 154 = .ok (.iload_n 2, 1) := by decide +kernel
theorem dX7_pensFor_155 : decode cX7_pensFor 155 = .ok (.iload 5, 2) := by decide +kernel
theorem dX7_pensFor_157 : decode cX7_pensFor 157 = .ok (.ifCond .eq 10, 3) := by decide +kernel
theorem dX7_pensFor_160 : decode cX7_pensFor 160 = .ok (.iconst 1, 1) := by decide +kernel
theorem dX7_pensFor_161 : decode cX7_pensFor 161 = .ok (.iload 4, 2) := by decide +kernel
theorem dX7_pensFor_163 : decode cX7_pensFor 163 = .ok (.ishl, 1) := by decide +kernel
theorem dX7_pensFor_164 : decode cX7_pensFor 164 = .ok (.goto 4, 3) := by decide +kernel
theorem dX7_pensFor_167 : decode cX7_pensFor 167 = .ok (.iconst 0, 1) := by decide +kernel
theorem dX7_pensFor_168 : decode cX7_pensFor 168 = .ok (.ior, 1) := by decide +kernel
theorem dX7_pensFor_169 : decode cX7_pensFor 169 = .ok (.istore_n 2, 1) := by decide +kernel
theorem dX7_pensFor_170 : decode cX7_pensFor 170 = .ok (.iinc 4 1, 3) := by decide +kernel
theorem dX7_pensFor_173 : decode cX7_pensFor 173 = .ok (.goto (-158), 3) := by decide +kernel
theorem dX7_pensFor_176 : decode cX7_pensFor 176 = .ok (.aload_n 0, 1) := by decide +kernel
theorem dX7_pensFor_177 : decode cX7_pensFor 177 = .ok (.getfield 7, 3) := by decide +kernel
theorem dX7_pensFor_180 : decode cX7_pensFor 180 = .ok (.bipush 32, 2) := by decide +kernel
theorem dX7_pensFor_182 : decode cX7_pensFor 182 = .ok (.iload_n 1, 1) := by decide +kernel
theorem dX7_pensFor_183 : decode cX7_pensFor 183 = .ok (.iadd, 1) := by decide +kernel
theorem dX7_pensFor_184 : decode cX7_pensFor 184 = .ok (.iload_n 3, 1) := by decide +kernel
theorem dX7_pensFor_185 : decode cX7_pensFor 185 = .ok (.iastore, 1) := by decide +kernel
theorem dX7_pensFor_186 : decode cX7_pensFor 186 = .ok (.iload_n 2, 1) := by decide +kernel
theorem dX7_pensFor_187 : decode cX7_pensFor 187 = .ok (.ireturn, 1) := by decide +kernel
theorem dX7_fits_0 : decode cX7_fits 0 = .ok (.aload_n 0, 1) := by decide +kernel
theorem dX7_fits_1 : decode cX7_fits 1 = .ok (.iload_n 1, 1) := by decide +kernel
theorem dX7_fits_2 : decode cX7_fits 2 = .ok (.invokevirtual 158, 3) := by decide +kernel
theorem dX7_fits_5 : decode cX7_fits 5 = .ok (.ifCond .eq 11, 3) := by decide +kernel
theorem dX7_fits_8 : decode cX7_fits 8 = .ok (.aload_n 0, 1) := by decide +kernel
theorem dX7_fits_9 : decode cX7_fits 9 = .ok (.iload_n 1, 1) := by decide +kernel
theorem dX7_fits_10 : decode cX7_fits 10 = .ok (.invokevirtual 272, 3) := by decide +kernel
theorem dX7_fits_13 : decode cX7_fits 13 = .ok (.goto 4, 3) := by decide +kernel
theorem dX7_fits_16 : decode cX7_fits 16 = .ok (.iconst (-1), 1) := by decide +kernel
theorem dX7_fits_17 : decode cX7_fits 17 = .ok (.ireturn, 1) := by decide +kernel
theorem dX7_look_0 : decode cX7_look 0 = .ok (.aload_n 0, 1) := by decide +kernel
theorem dX7_look_1 : decode cX7_look 1 = .ok (.iload_n 1, 1) := by decide +kernel
theorem dX7_look_2 : decode cX7_look 2 = .ok (.invokevirtual 158, 3) := by decide +kernel
theorem dX7_look_5 : decode cX7_look 5 = .ok (.ifCond .eq 13, 3) := by decide +kernel
theorem dX7_look_8 : decode cX7_look 8 = .ok (.iload_n 2, 1) := by decide +kernel
theorem dX7_look_9 : decode cX7_look 9 = .ok (.i2l, 1) := by decide +kernel
theorem dX7_look_10 : decode cX7_look 10 = .ok (.lconst 0, 1) := by decide +kernel
theorem dX7_look_11 : decode cX7_look 11 = .ok (.lconst 1, 1) := by decide +kernel
theorem dX7_look_12 : decode cX7_look 12 = .ok (.invokestatic 58, 3) := by decide +kernel
theorem dX7_look_15 : decode cX7_look 15 = .ok (.ifCond .ne 5, 3) := by decide +kernel
theorem dX7_look_18 : decode cX7_look 18 = .ok (.iconst (-1), 1) := by decide +kernel
theorem dX7_look_19 : decode cX7_look 19 = .ok (.ireturn, 1) := by decide +kernel
theorem dX7_look_20 : decode cX7_look 20 = .ok (.aload_n 0, 1) := by decide +kernel
theorem dX7_look_21 : decode cX7_look 21 = .ok (.iload_n 1, 1) := by decide +kernel
theorem dX7_look_22 : decode cX7_look 22 = .ok (.invokevirtual 272, 3) := by decide +kernel
theorem dX7_look_25 : decode cX7_look 25 = .ok (.istore_n 3, 1) := by decide +kernel
theorem dX7_look_26 : decode cX7_look 26 = .ok (.iload_n 3, 1) := by decide +kernel
theorem dX7_look_27 : decode cX7_look 27 = .ok (.invokestatic 216, 3) := by decide +kernel
theorem dX7_look_30 : decode cX7_look 30 = .ok (.istore 4, 2) := by decide +kernel
theorem dX7_look_32 : decode cX7_look 32 = .ok (.bipush (-4), 2) := by decide +kernel
theorem dX7_look_34 : decode cX7_look 34 = .ok (.istore 5, 2) := by decide +kernel
theorem dX7_look_36 : decode cX7_look 36 = .ok (.iconst 0, 1) := by decide +kernel
theorem dX7_look_37 : decode cX7_look 37 = .ok (.istore 6, 2) := by decide +kernel
theorem dX7_look_39 : decode cX7_look 39 = .ok (.iload 6, 2) := by decide +kernel
theorem dX7_look_41 : decode cX7_look 41 = .ok (.iconst 3, 1) := by decide +kernel
theorem dX7_look_42 : decode cX7_look 42 = .ok (.if_icmp .ge 152, 3) := by decide +kernel
theorem dX7_look_45 : decode cX7_look 45 = .ok (.iconst 0, 1) := by decide +kernel
theorem dX7_look_46 : decode cX7_look 46 = .ok (.istore 7, 2) := by decide +kernel
theorem dX7_look_48 : decode cX7_look 48 = .ok (.iconst 0, 1) := by decide +kernel
theorem dX7_look_49 : decode cX7_look 49 = .ok (.istore 8, 2) := by decide +kernel
theorem dX7_look_51 : decode cX7_look 51 = .ok (.iload 8, 2) := by decide +kernel
theorem dX7_look_53 : decode cX7_look 53 = .ok (.bipush 8, 2) := by decide +kernel
theorem dX7_look_55 : decode cX7_look 55 = .ok (.if_icmp .ge 101, 3) := by decide +kernel
theorem dX7_look_58 : decode cX7_look 58 = .ok (.iconst 0, 1) := by decide +kernel
theorem dX7_look_59 : decode cX7_look 59 = .ok (.istore 9, 2) := by decide +kernel
theorem dX7_look_61 : decode cX7_look 61 = .ok (.iconst 0, 1) := by decide +kernel
theorem dX7_look_62 : decode cX7_look 62 = .ok (.istore 10, 2) := by decide +kernel
theorem dX7_look_64 : decode cX7_look 64 = .ok (.iload 10, 2) := by decide +kernel
theorem dX7_look_66 : decode cX7_look 66 = .ok (.bipush 8, 2) := by decide +kernel
theorem dX7_look_68 : decode cX7_look 68 = .ok (.if_icmp .ge 66, 3) := by decide +kernel
theorem dX7_look_71 : decode cX7_look 71 = .ok (.iload_n 3, 1) := by decide +kernel
theorem dX7_look_72 : decode cX7_look 72 = .ok (.iload 8, 2) := by decide +kernel
theorem dX7_look_74 : decode cX7_look 74 = .ok (.ishr, 1) := by decide +kernel
theorem dX7_look_75 : decode cX7_look 75 = .ok (.iconst 1, 1) := by decide +kernel
theorem dX7_look_76 : decode cX7_look 76 = .ok (.iand, 1) := by decide +kernel
theorem dX7_look_77 : decode cX7_look 77 = .ok (.iconst 1, 1) := by decide +kernel
theorem dX7_look_78 : decode cX7_look 78 = .ok (.if_icmp .ne 56, 3) := by decide +kernel
theorem dX7_look_81 : decode cX7_look 81 = .ok (.iload 9, 2) := by decide +kernel
theorem dX7_look_83 : decode cX7_look 83 = .ok (.iload_n 3, 1) := by decide +kernel
theorem dX7_look_84 : decode cX7_look 84 = .ok (.iload 10, 2) := by decide +kernel
theorem dX7_look_86 : decode cX7_look 86 = .ok (.ishr, 1) := by decide +kernel
theorem dX7_look_87 : decode cX7_look 87 = .ok (.iconst 1, 1) := by decide +kernel
theorem dX7_look_88 : decode cX7_look 88 = .ok (.iand, 1) := by decide +kernel
theorem dX7_look_89 : decode cX7_look 89 = .ok (.iconst 1, 1) := by decide +kernel
theorem dX7_look_90 : decode cX7_look 90 = .ok (.if_icmp .ne 34, 3) := by decide +kernel
theorem dX7_look_93 : decode cX7_look 93 = .ok (.aload_n 0, 1) := by decide +kernel
theorem dX7_look_94 : decode cX7_look 94 = .ok (.getfield 40, 3) := by decide +kernel
theorem dX7_look_97 : decode cX7_look 97 = .ok (.iconst 3, 1) := by decide +kernel
theorem dX7_look_98 : decode cX7_look 98 = .ok (.iload 8, 2) := by decide +kernel
theorem dX7_look_100 : decode cX7_look 100 = .ok (.imul, 1) := by decide +kernel
theorem dX7_look_101 : decode cX7_look 101 = .ok (.iload 6, 2) := by decide +kernel
theorem dX7_look_103 : decode cX7_look 103 = .ok (.iadd, 1) := by decide +kernel
theorem dX7_look_104 : decode cX7_look 104 = .ok (.iaload, 1) := by decide +kernel
theorem dX7_look_105 : decode cX7_look 105 = .ok (.aload_n 0, 1) := by decide +kernel
theorem dX7_look_106 : decode cX7_look 106 = .ok (.getfield 40, 3) := by decide +kernel
theorem dX7_look_109 : decode cX7_look 109 = .ok (.iconst 3, 1) := by decide +kernel
theorem dX7_look_110 : decode cX7_look 110 = .ok (.iload 10, 2) := by decide +kernel
theorem dX7_look_112 : decode cX7_look 112 = .ok (.imul, 1) := by decide +kernel
theorem dX7_look_113 : decode cX7_look 113 = .ok (.iload 6, 2) := by decide +kernel
theorem dX7_look_115 : decode cX7_look 115 = .ok (.iadd, 1) := by decide +kernel
theorem dX7_look_116 : decode cX7_look 116 = .ok (.iaload, 1) := by decide +kernel
theorem dX7_look_117 : decode cX7_look 117 = .ok (.if_icmp .ne 7, 3) := by decide +kernel
theorem dX7_look_120 : decode cX7_look 120 = .ok (.iconst 1, 1) := by decide +kernel
theorem dX7_look_121 : decode cX7_look 121 = .ok (.goto 4, 3) := by decide +kernel
theorem dX7_look_124 : decode cX7_look 124 = .ok (.iconst 0, 1) := by decide +kernel
theorem dX7_look_125 : decode cX7_look 125 = .ok (.iadd, 1) := by decide +kernel
theorem dX7_look_126 : decode cX7_look 126 = .ok (.istore 9, 2) := by decide +kernel
theorem dX7_look_128 : decode cX7_look 128 = .ok (.iinc 10 1, 3) := by decide +kernel
theorem dX7_look_131 : decode cX7_look 131 = .ok (.goto (-67), 3) := by decide +kernel
theorem dX7_look_134 : decode cX7_look 134 = .ok (.iload 9, 2) := by decide +kernel
theorem dX7_look_136 : decode cX7_look 136 = .ok (.iload 7, 2) := by decide +kernel
theorem dX7_look_138 : decode cX7_look 138 = .ok (.if_icmp .le 8, 3) := by decide +kernel
theorem dX7_look_141 : decode cX7_look 141 = .ok (.iload 9, 2) := by decide +kernel
theorem dX7_look_143 : decode cX7_look 143 = .ok (.goto 5, 3) := by decide +kernel
theorem dX7_look_146 : decode cX7_look 146 = .ok (.iload 7, 2) := by decide +kernel
theorem dX7_look_148 : decode cX7_look 148 = .ok (.istore 7, 2) := by decide +kernel
theorem dX7_look_150 : decode cX7_look 150 = .ok (.iinc 8 1, 3) := by decide +kernel
theorem dX7_look_153 : decode cX7_look 153 = .ok (.goto (-102), 3) := by decide +kernel
theorem dX7_look_156 : decode cX7_look 156 = .ok (.iload 7, 2) := by decide +kernel
theorem dX7_look_158 : decode cX7_look 158 = .ok (.iload 4, 2) := by decide +kernel
theorem dX7_look_160 : decode cX7_look 160 = .ok (.if_icmp .ge 8, 3) := by decide +kernel
theorem dX7_look_163 : decode cX7_look 163 = .ok (.iload 6, 2) := by decide +kernel
theorem dX7_look_165 : decode cX7_look 165 = .ok (.goto 5, 3) := by decide +kernel
theorem dX7_look_168 : decode cX7_look 168 = .ok (.iload 5, 2) := by decide +kernel
theorem dX7_look_170 : decode cX7_look 170 = .ok (.istore 5, 2) := by decide +kernel
theorem dX7_look_172 : decode cX7_look 172 = .ok (.iload 7, 2) := by decide +kernel
theorem dX7_look_174 : decode cX7_look 174 = .ok (.iload 4, 2) := by decide +kernel
theorem dX7_look_176 : decode cX7_look 176 = .ok (.if_icmp .ge 8, 3) := by decide +kernel
theorem dX7_look_179 : decode cX7_look 179 = .ok (.iload 7, 2) := by decide +kernel
theorem dX7_look_181 : decode cX7_look 181 = .ok (.goto 5, 3) := by decide +kernel
theorem dX7_look_184 : decode cX7_look 184 = .ok (.iload 4, 2) := by decide +kernel
theorem dX7_look_186 : decode cX7_look 186 = .ok (.istore 4, 2) := by decide +kernel
theorem dX7_look_188 : decode cX7_look 188 = .ok (.iinc 6 1, 3) := by decide +kernel
theorem dX7_look_191 : decode cX7_look 191 = .ok (.goto (-152), 3) := by decide +kernel
theorem dX7_look_194 : decode cX7_look 194 = .ok (.iload 5, 2) := by decide +kernel
theorem dX7_look_196 : decode cX7_look 196 = .ok (.bipush (-4), 2) := by decide +kernel
theorem dX7_look_198 : decode cX7_look 198 = .ok (.if_icmp .eq 7, 3) := by decide +kernel
theorem dX7_look_201 : decode cX7_look 201 = .ok (.iload_n 2, 1) := by decide +kernel
theorem dX7_look_202 : decode cX7_look 202 = .ok (.ifCond .ne 8, 3) := by decide +kernel
theorem dX7_look_205 : decode cX7_look 205 = .ok (.iload 5, 2) := by decide +kernel
theorem dX7_look_207 : decode cX7_look 207 = .ok (.goto 5, 3) := by decide +kernel
theorem dX7_look_210 : decode cX7_look 210 = .ok (.iload 4, 2) := by decide +kernel
theorem dX7_look_212 : decode cX7_look 212 = .ok (.ireturn, 1) := by decide +kernel
theorem dX7_drawsHand_0 : decode cX7_drawsHand 0 = .ok (.aload_n 0, 1) := by decide +kernel
theorem dX7_drawsHand_1 : decode cX7_drawsHand 1 = .ok (.aload_n 0, 1) := by decide +kernel
theorem dX7_drawsHand_2 : decode cX7_drawsHand 2 = .ok (.getfield 275, 3) := by decide +kernel
theorem dX7_drawsHand_5 : decode cX7_drawsHand 5 = .ok (.ldc_w 278, 3) := by decide +kernel
theorem dX7_drawsHand_8 : decode cX7_drawsHand 8 = .ok (.imul, 1) := by decide +kernel
theorem dX7_drawsHand_9 : decode cX7_drawsHand 9 = .ok (.sipush 12345, 3) := by decide +kernel
theorem dX7_drawsHand_12 : decode cX7_drawsHand 12 = .ok (.iadd, 1) := by decide +kernel
theorem dX7_drawsHand_13 : decode cX7_drawsHand 13 = .ok (.putfield 275, 3) := by decide +kernel
theorem dX7_drawsHand_16 : decode cX7_drawsHand 16 = .ok (.aload_n 0, 1) := by decide +kernel
theorem dX7_drawsHand_17 : decode cX7_drawsHand 17 = .ok (.getfield 275, 3) := by decide +kernel
theorem dX7_drawsHand_20 : decode cX7_drawsHand 20 = .ok (.bipush 16, 2) := by decide +kernel
theorem dX7_drawsHand_22 : decode cX7_drawsHand 22 = .ok (.ishr, 1) := by decide +kernel
theorem dX7_drawsHand_23 : decode cX7_drawsHand 23 = .ok (.sipush 32767, 3) := by decide +kernel
theorem dX7_drawsHand_26 : decode cX7_drawsHand 26 = .ok (.iand, 1) := by decide +kernel
theorem dX7_drawsHand_27 : decode cX7_drawsHand 27 = .ok (.aload_n 0, 1) := by decide +kernel
theorem dX7_drawsHand_28 : decode cX7_drawsHand 28 = .ok (.getfield 147, 3) := by decide +kernel
theorem dX7_drawsHand_31 : decode cX7_drawsHand 31 = .ok (.aload_n 0, 1) := by decide +kernel
theorem dX7_drawsHand_32 : decode cX7_drawsHand 32 = .ok (.getfield 150, 3) := by decide +kernel
theorem dX7_drawsHand_35 : decode cX7_drawsHand 35 = .ok (.iadd, 1) := by decide +kernel
theorem dX7_drawsHand_36 : decode cX7_drawsHand 36 = .ok (.irem, 1) := by decide +kernel
theorem dX7_drawsHand_37 : decode cX7_drawsHand 37 = .ok (.istore_n 1, 1) := by decide +kernel
theorem dX7_drawsHand_38 : decode cX7_drawsHand 38 = .ok (.iload_n 1, 1) := by decide +kernel
theorem dX7_drawsHand_39 : decode cX7_drawsHand 39 = .ok (.aload_n 0, 1) := by decide +kernel
theorem dX7_drawsHand_40 : decode cX7_drawsHand 40 = .ok (.getfield 147, 3) := by decide +kernel
theorem dX7_drawsHand_43 : decode cX7_drawsHand 43 = .ok (.if_icmp .ge 7, 3) := by decide +kernel
theorem dX7_drawsHand_46 : decode cX7_drawsHand 46 = .ok (.iload_n 1, 1) := by decide +kernel
theorem dX7_drawsHand_47 : decode cX7_drawsHand 47 = .ok (.goto 11, 3) := by decide +kernel
theorem dX7_drawsHand_50 : decode cX7_drawsHand 50 = .ok (.iconst 4, 1) := by decide +kernel
theorem dX7_drawsHand_51 : decode cX7_drawsHand 51 = .ok (.iload_n 1, 1) := by decide +kernel
theorem dX7_drawsHand_52 : decode cX7_drawsHand 52 = .ok (.iadd, 1) := by decide +kernel
theorem dX7_drawsHand_53 : decode cX7_drawsHand 53 = .ok (.aload_n 0, 1) := by decide +kernel
theorem dX7_drawsHand_54 : decode cX7_drawsHand 54 = .ok (.getfield 147, 3) := by decide +kernel
theorem dX7_drawsHand_57 : decode cX7_drawsHand 57 = .ok (.isub, 1) := by decide +kernel
theorem dX7_drawsHand_58 : decode cX7_drawsHand 58 = .ok (.ireturn, 1) := by decide +kernel
theorem dX7_drift_0 : decode cX7_drift 0 = .ok (.iload_n 2, 1) := by decide +kernel
theorem dX7_drift_1 : decode cX7_drift 1 = .ok (.i2l, 1) := by decide +kernel
theorem dX7_drift_2 : decode cX7_drift 2 = .ok (.lconst 1, 1) := by decide +kernel
theorem dX7_drift_3 : decode cX7_drift 3 = .ok (.ldc2_w 279, 3) := by decide +kernel
theorem dX7_drift_6 : decode cX7_drift 6 = .ok (.invokestatic 58, 3) := by decide +kernel
theorem dX7_drift_9 : decode cX7_drift 9 = .ok (.ifCond .eq 13, 3) := by decide +kernel
theorem dX7_drift_12 : decode cX7_drift 12 = .ok (.iload_n 3, 1) := by decide +kernel
theorem dX7_drift_13 : decode cX7_drift 13 = .ok (.i2l, 1) := by decide +kernel
theorem dX7_drift_14 : decode cX7_drift 14 = .ok (.lconst 0, 1) := by decide +kernel
theorem dX7_drift_15 : decode cX7_drift 15 = .ok (.lconst 1, 1) := by decide +kernel
theorem dX7_drift_16 : decode cX7_drift 16 = .ok (.invokestatic 58, 3) := by decide +kernel
theorem dX7_drift_19 : decode cX7_drift 19 = .ok (.ifCond .ne 5, 3) := by decide +kernel
theorem dX7_drift_22 : decode cX7_drift 22 = .ok (.iconst (-1), 1) := by decide +kernel
theorem dX7_drift_23 : decode cX7_drift 23 = .ok (.ireturn, 1) := by decide +kernel
theorem dX7_drift_24 : decode cX7_drift 24 = .ok (.aload_n 0, 1) := by decide +kernel
theorem dX7_drift_25 : decode cX7_drift 25 = .ok (.getfield 147, 3) := by decide +kernel
theorem dX7_drift_28 : decode cX7_drift 28 = .ok (.aload_n 0, 1) := by decide +kernel
theorem dX7_drift_29 : decode cX7_drift 29 = .ok (.getfield 150, 3) := by decide +kernel
theorem dX7_drift_32 : decode cX7_drift 32 = .ok (.iadd, 1) := by decide +kernel
theorem dX7_drift_33 : decode cX7_drift 33 = .ok (.ifCond .ne 6, 3) := by decide +kernel
theorem dX7_drift_36 : decode cX7_drift 36 = .ok (.bipush (-2), 2) := by decide +kernel
theorem dX7_drift_38 : decode cX7_drift 38 = .ok (.ireturn, 1) := by decide +kernel
theorem dX7_drift_39 : decode cX7_drift 39 = .ok (.aload_n 0, 1) := by decide +kernel
theorem dX7_drift_40 : decode cX7_drift 40 = .ok (.iconst 0, 1) := by decide +kernel
theorem dX7_drift_41 : decode cX7_drift 41 = .ok (.sipush 200, 3) := by decide +kernel
theorem dX7_drift_44 : decode cX7_drift 44 = .ok (.invokevirtual 254, 3) := by decide +kernel
theorem dX7_drift_47 : decode cX7_drift 47 = .ok (.aload_n 0, 1) := by decide +kernel
theorem dX7_drift_48 : decode cX7_drift 48 = .ok (.iload_n 1, 1) := by decide +kernel
theorem dX7_drift_49 : decode cX7_drift 49 = .ok (.putfield 275, 3) := by decide +kernel
theorem dX7_drift_52 : decode cX7_drift 52 = .ok (.iconst 0, 1) := by decide +kernel
theorem dX7_drift_53 : decode cX7_drift 53 = .ok (.istore 4, 2) := by decide +kernel
theorem dX7_drift_55 : decode cX7_drift 55 = .ok (.iconst 0, 1) := by decide +kernel
theorem dX7_drift_56 : decode cX7_drift 56 = .ok (.istore 5, 2) := by decide +kernel
theorem dX7_drift_58 : decode cX7_drift 58 = .ok (.iload 5, 2) := by decide +kernel
theorem dX7_drift_60 : decode cX7_drift 60 = .ok (.iload_n 2, 1) := by decide +kernel
theorem dX7_drift_61 : decode cX7_drift 61 = .ok (.if_icmp .ge 40, 3) := by decide +kernel
theorem dX7_drift_64 : decode cX7_drift 64 = .ok (.aload_n 0, 1) := by decide +kernel
theorem dX7_drift_65 : decode cX7_drift 65 = .ok (.invokevirtual 281, 3) := by decide +kernel
theorem dX7_drift_68 : decode cX7_drift 68 = .ok (.istore 6, 2) := by decide +kernel
theorem dX7_drift_70 : decode cX7_drift 70 = .ok (.aload_n 0, 1) := by decide +kernel
theorem dX7_drift_71 : decode cX7_drift 71 = .ok (.iload 6, 2) := by decide +kernel
theorem dX7_drift_73 : decode cX7_drift 73 = .ok (.aload_n 0, 1) := by decide +kernel
theorem dX7_drift_74 : decode cX7_drift 74 = .ok (.invokevirtual 281, 3) := by decide +kernel
theorem dX7_drift_77 : decode cX7_drift 77 = .ok (.invokevirtual 206, 3) := by decide +kernel
theorem dX7_drift_80 : decode cX7_drift 80 = .ok (.pop, 1) := by decide +kernel
theorem dX7_drift_81 : decode cX7_drift 81 = .ok (.aload_n 0, 1) := by decide +kernel
theorem dX7_drift_82 : decode cX7_drift 82 = .ok (.iconst 0, 1) := by decide +kernel
theorem dX7_drift_83 : decode cX7_drift 83 = .ok (.invokevirtual 225, 3) := by decide +kernel
theorem dX7_drift_86 : decode cX7_drift 86 = .ok (.iload 4, 2) := by decide +kernel
theorem dX7_drift_88 : decode cX7_drift 88 = .ok (.aload_n 0, 1) := by decide +kernel
theorem dX7_drift_89 : decode cX7_drift 89 = .ok (.invokevirtual 231, 3) := by decide +kernel
theorem dX7_drift_92 : decode cX7_drift 92 = .ok (.iadd, 1) := by decide +kernel
theorem dX7_drift_93 : decode cX7_drift 93 = .ok (.istore 4, 2) := by decide +kernel
theorem dX7_drift_95 : decode cX7_drift 95 = .ok (.iinc 5 1, 3) := by decide +kernel
theorem dX7_drift_98 : decode cX7_drift 98 = .ok (.goto (-40), 3) := by decide +kernel
theorem dX7_drift_101 : decode cX7_drift 101 = .ok (.aload_n 0, 1) := by decide +kernel
theorem dX7_drift_102 : decode cX7_drift 102 = .ok (.sipush 200, 3) := by decide +kernel
theorem dX7_drift_105 : decode cX7_drift 105 = .ok (.iconst 0, 1) := by decide +kernel
theorem dX7_drift_106 : decode cX7_drift 106 = .ok (.invokevirtual 254, 3) := by decide +kernel
theorem dX7_drift_109 : decode cX7_drift 109 = .ok (.iload_n 3, 1) := by decide +kernel
theorem dX7_drift_110 : decode cX7_drift 110 = .ok (.ifCond .ne 10, 3) := by decide +kernel
theorem dX7_drift_113 : decode cX7_drift 113 = .ok (.aload_n 0, 1) := by decide +kernel
theorem dX7_drift_114 : decode cX7_drift 114 = .ok (.invokevirtual 228, 3) := by decide +kernel
theorem dX7_drift_117 : decode cX7_drift 117 = .ok (.goto 5, 3) := by decide +kernel
theorem dX7_drift_120 : decode cX7_drift 120 = .ok (.iload 4, 2) := by decide +kernel
theorem dX7_drift_122 : decode cX7_drift 122 = .ok (.ireturn, 1) := by decide +kernel
theorem dX7_keep_0 : decode cX7_keep 0 = .ok (.iload_n 1, 1) := by decide +kernel
theorem dX7_keep_1 : decode cX7_keep 1 = .ok (.i2l, 1) := by decide +kernel
theorem dX7_keep_2 : decode cX7_keep 2 = .ok (.lconst 0, 1) := by decide +kernel
theorem dX7_keep_3 : decode cX7_keep 3 = .ok (.lconst 1, 1) := by decide +kernel
theorem dX7_keep_4 : decode cX7_keep 4 = .ok (.invokestatic 58, 3) := by decide +kernel
theorem dX7_keep_7 : decode cX7_keep 7 = .ok (.ifCond .ne 5, 3) := by decide +kernel
theorem dX7_keep_10 : decode cX7_keep 10 = .ok (.iconst (-1), 1) := by decide +kernel
theorem dX7_keep_11 : decode cX7_keep 11 = .ok (.ireturn, 1) := by decide +kernel
theorem dX7_keep_12 : decode cX7_keep 12 = .ok (.aload_n 0, 1) := by decide +kernel
theorem dX7_keep_13 : decode cX7_keep 13 = .ok (.iconst 0, 1) := by decide +kernel
theorem dX7_keep_14 : decode cX7_keep 14 = .ok (.bipush 50, 2) := by decide +kernel
theorem dX7_keep_16 : decode cX7_keep 16 = .ok (.iload_n 1, 1) := by decide +kernel
theorem dX7_keep_17 : decode cX7_keep 17 = .ok (.iconst 1, 1) := by decide +kernel
theorem dX7_keep_18 : decode cX7_keep 18 = .ok (.iadd, 1) := by decide +kernel
theorem dX7_keep_19 : decode cX7_keep 19 = .ok (.imul, 1) := by decide +kernel
theorem dX7_keep_20 : decode cX7_keep 20 = .ok (.invokevirtual 254, 3) := by decide +kernel
theorem dX7_keep_23 : decode cX7_keep 23 = .ok (.aload_n 0, 1) := by decide +kernel
theorem dX7_keep_24 : decode cX7_keep 24 = .ok (.getfield 43, 3) := by decide +kernel
theorem dX7_keep_27 : decode cX7_keep 27 = .ok (.iload_n 1, 1) := by decide +kernel
theorem dX7_keep_28 : decode cX7_keep 28 = .ok (.baload, 1) := by decide +kernel
theorem dX7_keep_29 : decode cX7_keep 29 = .ok (.ifCond .eq 7, 3) := by decide +kernel
theorem dX7_keep_32 : decode cX7_keep 32 = .ok (.iconst 1, 1) := by decide +kernel
theorem dX7_keep_33 : decode cX7_keep 33 = .ok (.goto 4, 3) := by decide +kernel
theorem dX7_keep_36 : decode cX7_keep 36 = .ok (.iconst 0, 1) := by decide +kernel
theorem dX7_keep_37 : decode cX7_keep 37 = .ok (.istore_n 2, 1) := by decide +kernel
theorem dX7_keep_38 : decode cX7_keep 38 = .ok (.aload_n 0, 1) := by decide +kernel
theorem dX7_keep_39 : decode cX7_keep 39 = .ok (.getfield 43, 3) := by decide +kernel
theorem dX7_keep_42 : decode cX7_keep 42 = .ok (.iload_n 1, 1) := by decide +kernel
theorem dX7_keep_43 : decode cX7_keep 43 = .ok (.iconst 1, 1) := by decide +kernel
theorem dX7_keep_44 : decode cX7_keep 44 = .ok (.bastore, 1) := by decide +kernel
theorem dX7_keep_45 : decode cX7_keep 45 = .ok (.iload_n 2, 1) := by decide +kernel
theorem dX7_keep_46 : decode cX7_keep 46 = .ok (.ireturn, 1) := by decide +kernel
theorem dX7_back_0 : decode cX7_back 0 = .ok (.iload_n 1, 1) := by decide +kernel
theorem dX7_back_1 : decode cX7_back 1 = .ok (.i2l, 1) := by decide +kernel
theorem dX7_back_2 : decode cX7_back 2 = .ok (.lconst 0, 1) := by decide +kernel
theorem dX7_back_3 : decode cX7_back 3 = .ok (.lconst 1, 1) := by decide +kernel
theorem dX7_back_4 : decode cX7_back 4 = .ok (.invokestatic 58, 3) := by decide +kernel
theorem dX7_back_7 : decode cX7_back 7 = .ok (.ifCond .ne 5, 3) := by decide +kernel
theorem dX7_back_10 : decode cX7_back 10 = .ok (.iconst (-1), 1) := by decide +kernel
theorem dX7_back_11 : decode cX7_back 11 = .ok (.ireturn, 1) := by decide +kernel
theorem dX7_back_12 : decode cX7_back 12 = .ok (.aload_n 0, 1) := by decide +kernel
theorem dX7_back_13 : decode cX7_back 13 = .ok (.getfield 43, 3) := by decide +kernel
theorem dX7_back_16 : decode cX7_back 16 = .ok (.iload_n 1, 1) := by decide +kernel
theorem dX7_back_17 : decode cX7_back 17 = .ok (.baload, 1) := by decide +kernel
theorem dX7_back_18 : decode cX7_back 18 = .ok (.ifCond .ne 6, 3) := by decide +kernel
theorem dX7_back_21 : decode cX7_back 21 = .ok (.bipush (-2), 2) := by decide +kernel
theorem dX7_back_23 : decode cX7_back 23 = .ok (.ireturn, 1) := by decide +kernel
theorem dX7_back_24 : decode cX7_back 24 = .ok (.aload_n 0, 1) := by decide +kernel
theorem dX7_back_25 : decode cX7_back 25 = .ok (.bipush 50, 2) := by decide +kernel
theorem dX7_back_27 : decode cX7_back 27 = .ok (.iload_n 1, 1) := by decide +kernel
theorem dX7_back_28 : decode cX7_back 28 = .ok (.iconst 1, 1) := by decide +kernel
theorem dX7_back_29 : decode cX7_back 29 = .ok (.iadd, 1) := by decide +kernel
theorem dX7_back_30 : decode cX7_back 30 = .ok (.imul, 1) := by decide +kernel
theorem dX7_back_31 : decode cX7_back 31 = .ok (.iconst 0, 1) := by decide +kernel
theorem dX7_back_32 : decode cX7_back 32 = .ok (.invokevirtual 254, 3) := by decide +kernel
theorem dX7_back_35 : decode cX7_back 35 = .ok (.aload_n 0, 1) := by decide +kernel
theorem dX7_back_36 : decode cX7_back 36 = .ok (.getfield 7, 3) := by decide +kernel
theorem dX7_back_39 : decode cX7_back 39 = .ok (.bipush 49, 2) := by decide +kernel
theorem dX7_back_41 : decode cX7_back 41 = .ok (.iaload, 1) := by decide +kernel
theorem dX7_back_42 : decode cX7_back 42 = .ok (.ireturn, 1) := by decide +kernel
theorem dX7_sheet_0 : decode cX7_sheet 0 = .ok (.iload_n 1, 1) := by decide +kernel
theorem dX7_sheet_1 : decode cX7_sheet 1 = .ok (.i2l, 1) := by decide +kernel
theorem dX7_sheet_2 : decode cX7_sheet 2 = .ok (.lconst 0, 1) := by decide +kernel
theorem dX7_sheet_3 : decode cX7_sheet 3 = .ok (.ldc2_w 209, 3) := by decide +kernel
theorem dX7_sheet_6 : decode cX7_sheet 6 = .ok (.invokestatic 58, 3) := by decide +kernel
theorem dX7_sheet_9 : decode cX7_sheet 9 = .ok (.ifCond .eq 21, 3) := by decide +kernel
theorem dX7_sheet_12 : decode cX7_sheet 12 = .ok (.iload_n 2, 1) := by decide +kernel
theorem dX7_sheet_13 : decode cX7_sheet 13 = .ok (.i2l, 1) := by decide +kernel
theorem dX7_sheet_14 : decode cX7_sheet 14 = .ok (.lconst 0, 1) := by decide +kernel
theorem dX7_sheet_15 : decode cX7_sheet 15 = .ok (.ldc2_w 184, 3) := by decide +kernel
theorem dX7_sheet_18 : decode cX7_sheet 18 = .ok (.invokestatic 58, 3) := by decide +kernel
theorem dX7_sheet_21 : decode cX7_sheet 21 = .ok (.ifCond .eq 9, 3) := by decide +kernel
theorem dX7_sheet_24 : decode cX7_sheet 24 = .ok (.iload_n 3, 1) := by decide +kernel
theorem dX7_sheet_25 : decode cX7_sheet 25 = .ok (.bipush 40, 2) := by decide +kernel
theorem dX7_sheet_27 : decode cX7_sheet 27 = .ok (.if_icmp .le 5, 3) := by decide +kernel
theorem dX7_sheet_30 : decode cX7_sheet 30 = .ok (.iconst (-1), 1) := by decide +kernel
theorem dX7_sheet_31 : decode cX7_sheet 31 = .ok (.ireturn, 1) := by decide +kernel
theorem dX7_sheet_32 : decode cX7_sheet 32 = .ok (.iload_n 3, 1) := by decide +kernel
theorem dX7_sheet_33 : decode cX7_sheet 33 = .ok (.ifCond .ge 6, 3) := by decide +kernel
theorem dX7_sheet_36 : decode cX7_sheet 36 = .ok (.bipush (-14), 2) := by decide +kernel
theorem dX7_sheet_38 : decode cX7_sheet 38 = .ok (.ireturn, 1) := by decide +kernel
theorem dX7_sheet_39 : decode cX7_sheet 39 = .ok (.aload_n 0, 1) := by decide +kernel
theorem dX7_sheet_40 : decode cX7_sheet 40 = .ok (.getfield 47, 3) := by decide +kernel
theorem dX7_sheet_43 : decode cX7_sheet 43 = .ok (.iload_n 1, 1) := by decide +kernel
theorem dX7_sheet_44 : decode cX7_sheet 44 = .ok (.iload_n 2, 1) := by decide +kernel
theorem dX7_sheet_45 : decode cX7_sheet 45 = .ok (.iastore, 1) := by decide +kernel
theorem dX7_sheet_46 : decode cX7_sheet 46 = .ok (.aload_n 0, 1) := by decide +kernel
theorem dX7_sheet_47 : decode cX7_sheet 47 = .ok (.getfield 50, 3) := by decide +kernel
theorem dX7_sheet_50 : decode cX7_sheet 50 = .ok (.iload_n 1, 1) := by decide +kernel
theorem dX7_sheet_51 : decode cX7_sheet 51 = .ok (.iload_n 3, 1) := by decide +kernel
theorem dX7_sheet_52 : decode cX7_sheet 52 = .ok (.iastore, 1) := by decide +kernel
theorem dX7_sheet_53 : decode cX7_sheet 53 = .ok (.iconst 0, 1) := by decide +kernel
theorem dX7_sheet_54 : decode cX7_sheet 54 = .ok (.istore 4, 2) := by decide +kernel
theorem dX7_sheet_56 : decode cX7_sheet 56 = .ok (.iload 4, 2) := by decide +kernel
theorem dX7_sheet_58 : decode cX7_sheet 58 = .ok (.bipush 40, 2) := by decide +kernel
theorem dX7_sheet_60 : decode cX7_sheet 60 = .ok (.if_icmp .ge 22, 3) := by decide +kernel
theorem dX7_sheet_63 : decode cX7_sheet 63 = .ok (.aload_n 0, 1) := by decide +kernel
theorem dX7_sheet_64 : decode cX7_sheet 64 = .ok (.getfield 53, 3) := by decide +kernel
theorem dX7_sheet_67 : decode cX7_sheet 67 = .ok (.bipush 40, 2) := by decide +kernel
theorem dX7_sheet_69 : decode cX7_sheet 69 = .ok (.iload_n 1, 1) := by decide +kernel
theorem dX7_sheet_70 : decode cX7_sheet 70 = .ok (.imul, 1) := by decide +kernel
theorem dX7_sheet_71 : decode cX7_sheet 71 = .ok (.iload 4, 2) := by decide +kernel
theorem dX7_sheet_73 : decode cX7_sheet 73 = .ok (.iadd, 1) := by decide +kernel
theorem dX7_sheet_74 : decode cX7_sheet 74 = .ok (.iconst 0, 1) := by decide +kernel
theorem dX7_sheet_75 : decode cX7_sheet 75 = .ok (.iastore, 1) := by decide +kernel
theorem dX7_sheet_76 : decode cX7_sheet 76 = .ok (.iinc 4 1, 3) := by decide +kernel
theorem dX7_sheet_79 : decode cX7_sheet 79 = .ok (.goto (-23), 3) := by decide +kernel
theorem dX7_sheet_82 : decode cX7_sheet 82 = .ok (.iconst 1, 1) := by decide +kernel
theorem dX7_sheet_83 : decode cX7_sheet 83 = .ok (.ireturn, 1) := by decide +kernel
theorem dX7_lay_0 : decode cX7_lay 0 = .ok (.iload_n 1, 1) := by decide +kernel
theorem dX7_lay_1 : decode cX7_lay 1 = .ok (.i2l, 1) := by decide +kernel
theorem dX7_lay_2 : decode cX7_lay 2 = .ok (.lconst 0, 1) := by decide +kernel
theorem dX7_lay_3 : decode cX7_lay 3 = .ok (.ldc2_w 209, 3) := by decide +kernel
theorem dX7_lay_6 : decode cX7_lay 6 = .ok (.invokestatic 58, 3) := by decide +kernel
theorem dX7_lay_9 : decode cX7_lay 9 = .ok (.ifCond .ne 5, 3) := by decide +kernel
theorem dX7_lay_12 : decode cX7_lay 12 = .ok (.iconst (-1), 1) := by decide +kernel
theorem dX7_lay_13 : decode cX7_lay 13 = .ok (.ireturn, 1) := by decide +kernel
theorem dX7_lay_14 : decode cX7_lay 14 = .ok (.aload_n 0, 1) := by decide +kernel
theorem dX7_lay_15 : decode cX7_lay 15 = .ok (.getfield 47, 3) := by decide +kernel
theorem dX7_lay_18 : decode cX7_lay 18 = .ok (.iload_n 1, 1) := by decide +kernel
theorem dX7_lay_19 : decode cX7_lay 19 = .ok (.iaload, 1) := by decide +kernel
theorem dX7_lay_20 : decode cX7_lay 20 = .ok (.bipush (-4), 2) := by decide +kernel
theorem dX7_lay_22 : decode cX7_lay 22 = .ok (.if_icmp .ne 6, 3) := by decide +kernel
theorem dX7_lay_25 : decode cX7_lay 25 = .ok (.bipush (-11), 2) := by decide +kernel
theorem dX7_lay_27 : decode cX7_lay 27 = .ok (.ireturn, 1) := by decide +kernel
theorem dX7_lay_28 : decode cX7_lay 28 = .ok (.iload_n 2, 1) := by decide +kernel
theorem dX7_lay_29 : decode cX7_lay 29 = .ok (.i2l, 1) := by decide +kernel
theorem dX7_lay_30 : decode cX7_lay 30 = .ok (.lconst 0, 1) := by decide +kernel
theorem dX7_lay_31 : decode cX7_lay 31 = .ok (.aload_n 0, 1) := by decide +kernel
theorem dX7_lay_32 : decode cX7_lay 32 = .ok (.getfield 50, 3) := by decide +kernel
theorem dX7_lay_35 : decode cX7_lay 35 = .ok (.iload_n 1, 1) := by decide +kernel
theorem dX7_lay_36 : decode cX7_lay 36 = .ok (.iaload, 1) := by decide +kernel
theorem dX7_lay_37 : decode cX7_lay 37 = .ok (.iconst 1, 1) := by decide +kernel
theorem dX7_lay_38 : decode cX7_lay 38 = .ok (.isub, 1) := by decide +kernel
theorem dX7_lay_39 : decode cX7_lay 39 = .ok (.i2l, 1) := by decide +kernel
theorem dX7_lay_40 : decode cX7_lay 40 = .ok (.invokestatic 58, 3) := by decide +kernel
theorem dX7_lay_43 : decode cX7_lay 43 = .ok (.ifCond .ne 6, 3) := by decide +kernel
theorem dX7_lay_46 : decode cX7_lay 46 = .ok (.bipush (-12), 2) := by decide +kernel
theorem dX7_lay_48 : decode cX7_lay 48 = .ok (.ireturn, 1) := by decide +kernel
theorem dX7_lay_49 : decode cX7_lay 49 = .ok (.aload_n 0, 1) := by decide +kernel
theorem dX7_lay_50 : decode cX7_lay 50 = .ok (.getfield 53, 3) := by decide +kernel
theorem dX7_lay_53 : decode cX7_lay 53 = .ok (.bipush 40, 2) := by decide +kernel
theorem dX7_lay_55 : decode cX7_lay 55 = .ok (.iload_n 1, 1) := by decide +kernel
theorem dX7_lay_56 : decode cX7_lay 56 = .ok (.imul, 1) := by decide +kernel
theorem dX7_lay_57 : decode cX7_lay 57 = .ok (.iload_n 2, 1) := by decide +kernel
theorem dX7_lay_58 : decode cX7_lay 58 = .ok (.iadd, 1) := by decide +kernel
theorem dX7_lay_59 : decode cX7_lay 59 = .ok (.aload_n 0, 1) := by decide +kernel
theorem dX7_lay_60 : decode cX7_lay 60 = .ok (.getfield 47, 3) := by decide +kernel
theorem dX7_lay_63 : decode cX7_lay 63 = .ok (.iload_n 1, 1) := by decide +kernel
theorem dX7_lay_64 : decode cX7_lay 64 = .ok (.iaload, 1) := by decide +kernel
theorem dX7_lay_65 : decode cX7_lay 65 = .ok (.ifCond .ne 13, 3) := by decide +kernel
theorem dX7_lay_68 : decode cX7_lay 68 = .ok (.iload_n 3, 1) := by decide +kernel
theorem dX7_lay_69 : decode cX7_lay 69 = .ok (.bipush 24, 2) := by decide +kernel
theorem dX7_lay_71 : decode cX7_lay 71 = .ok (.ishl, 1) := by decide +kernel
theorem dX7_lay_72 : decode cX7_lay 72 = .ok (.bipush 24, 2) := by decide +kernel
theorem dX7_lay_74 : decode cX7_lay 74 = .ok (.ishr, 1) := by decide +kernel
theorem dX7_lay_75 : decode cX7_lay 75 = .ok (.goto 24, 3) := by decide +kernel
theorem dX7_lay_78 : decode cX7_lay 78 = .ok (.aload_n 0, 1) := by decide +kernel
theorem dX7_lay_79 : decode cX7_lay 79 = .ok (.getfield 47, 3) := by decide +kernel
theorem dX7_lay_82 : decode cX7_lay 82 = .ok (.iload_n 1, 1) := by decide +kernel
theorem dX7_lay_83 : decode cX7_lay 83 = .ok (.iaload, 1) := by decide +kernel
theorem dX7_lay_84 : decode cX7_lay 84 = .ok (.iconst 1, 1) := by decide +kernel
theorem dX7_lay_85 : decode cX7_lay 85 = .ok (.if_icmp .ne 13, 3) := by decide +kernel
theorem dX7_lay_88 : decode cX7_lay 88 = .ok (.iload_n 3, 1) := by decide +kernel
theorem dX7_lay_89 : decode cX7_lay 89 = .ok (.bipush 16, 2) := by decide +kernel
theorem dX7_lay_91 : decode cX7_lay 91 = .ok (.ishl, 1) := by decide +kernel
theorem dX7_lay_92 : decode cX7_lay 92 = .ok (.bipush 16, 2) := by decide +kernel
theorem dX7_lay_94 : decode cX7_lay 94 = .ok (.ishr, 1) := by decide +kernel
theorem dX7_lay_95 : decode cX7_lay 95 = .ok (.goto 4, 3) := by decide +kernel
theorem dX7_lay_98 : decode cX7_lay 98 = .ok (.iload_n 3, 1) := by decide +kernel
theorem dX7_lay_99 : decode cX7_lay 99 = .ok (.iastore, 1) := by decide +kernel
theorem dX7_lay_100 : decode cX7_lay 100 = .ok (.iconst 1, 1) := by decide +kernel
theorem dX7_lay_101 : decode cX7_lay 101 = .ok (.ireturn, 1) := by decide +kernel
theorem dX7_read_0 : decode cX7_read 0 = .ok (.iload_n 1, 1) := by decide +kernel
theorem dX7_read_1 : decode cX7_read 1 = .ok (.i2l, 1) := by decide +kernel
theorem dX7_read_2 : decode cX7_read 2 = .ok (.lconst 0, 1) := by decide +kernel
theorem dX7_read_3 : decode cX7_read 3 = .ok (.ldc2_w 209, 3) := by decide +kernel
theorem dX7_read_6 : decode cX7_read 6 = .ok (.invokestatic 58, 3) := by decide +kernel
theorem dX7_read_9 : decode cX7_read 9 = .ok (.ifCond .eq 28, 3) := by decide +kernel
theorem dX7_read_12 : decode cX7_read 12 = .ok (.iload_n 2, 1) := by decide +kernel
theorem dX7_read_13 : decode cX7_read 13 = .ok (.i2l, 1) := by decide +kernel
theorem dX7_read_14 : decode cX7_read 14 = .ok (.lconst 0, 1) := by decide +kernel
theorem dX7_read_15 : decode cX7_read 15 = .ok (.ldc2_w 184, 3) := by decide +kernel
theorem dX7_read_18 : decode cX7_read 18 = .ok (.invokestatic 58, 3) := by decide +kernel
theorem dX7_read_21 : decode cX7_read 21 = .ok (.ifCond .eq 16, 3) := by decide +kernel
theorem dX7_read_24 : decode cX7_read 24 = .ok (.iload 4, 2) := by decide +kernel
theorem dX7_read_26 : decode cX7_read 26 = .ok (.i2l, 1) := by decide +kernel
theorem dX7_read_27 : decode cX7_read 27 = .ok (.lconst 0, 1) := by decide +kernel
theorem dX7_read_28 : decode cX7_read 28 = .ok (.ldc2_w 249, 3) := by decide +kernel
theorem dX7_read_31 : decode cX7_read 31 = .ok (.invokestatic 58, 3) := by decide +kernel
theorem dX7_read_34 : decode cX7_read 34 = .ok (.ifCond .ne 5, 3) := by decide +kernel
theorem dX7_read_37 : decode cX7_read 37 = .ok (.iconst (-1), 1) := by decide +kernel
theorem dX7_read_38 : decode cX7_read 38 = .ok (.ireturn, 1) := by decide +kernel
theorem dX7_read_39 : decode cX7_read 39 = .ok (.aload_n 0, 1) := by decide +kernel
theorem dX7_read_40 : decode cX7_read 40 = .ok (.iconst 0, 1) := by decide +kernel
theorem dX7_read_41 : decode cX7_read 41 = .ok (.sipush 150, 3) := by decide +kernel
theorem dX7_read_44 : decode cX7_read 44 = .ok (.invokevirtual 254, 3) := by decide +kernel
theorem dX7_read_47 : decode cX7_read 47 = .ok (.iconst 0, 1) := by decide +kernel
theorem dX7_read_48 : decode cX7_read 48 = .ok (.istore 5, 2) := by decide +kernel
theorem dX7_read_50 : decode cX7_read 50 = .ok (.iconst 0, 1) := by decide +kernel
theorem dX7_read_51 : decode cX7_read 51 = .ok (.istore 6, 2) := by decide +kernel
theorem dX7_read_53 : decode cX7_read 53 = .ok (.iconst 0, 1) := by decide +kernel
theorem dX7_read_54 : decode cX7_read 54 = .ok (.istore 7, 2) := by decide +kernel
theorem dX7_read_56 : decode cX7_read 56 = .ok (.iload 7, 2) := by decide +kernel
theorem dX7_read_58 : decode cX7_read 58 = .ok (.iconst 2, 1) := by decide +kernel
theorem dX7_read_59 : decode cX7_read 59 = .ok (.iload 4, 2) := by decide +kernel
theorem dX7_read_61 : decode cX7_read 61 = .ok (.imul, 1) := by decide +kernel
theorem dX7_read_62 : decode cX7_read 62 = .ok (.if_icmp .ge 136, 3) := by decide +kernel
theorem dX7_read_65 : decode cX7_read 65 = .ok (.iload 5, 2) := by decide +kernel
theorem dX7_read_67 : decode cX7_read 67 = .ok (.ifCond .ne 131, 3) := by decide +kernel
theorem dX7_read_70 : decode cX7_read 70 = .ok (.aload_n 0, 1) := by decide +kernel
theorem dX7_read_71 : decode cX7_read 71 = .ok (.getfield 47, 3) := by decide +kernel
theorem dX7_read_74 : decode cX7_read 74 = .ok (.iload_n 1, 1) := by decide +kernel
theorem dX7_read_75 : decode cX7_read 75 = .ok (.iaload, 1) := by decide +kernel
theorem dX7_read_76 : decode cX7_read 76 = .ok (.bipush (-4), 2) := by decide +kernel
theorem dX7_read_78 : decode cX7_read 78 = .ok (.if_icmp .ne 7, 3) := by decide +kernel
theorem dX7_read_81 : decode cX7_read 81 = .ok (.iconst 1, 1) := by decide +kernel
theorem dX7_read_82 : decode cX7_read 82 = .ok (.goto 44, 3) := by decide +kernel
theorem dX7_read_85 : decode cX7_read 85 = .ok (.aload_n 0, 1) := by decide +kernel
theorem dX7_read_86 : decode cX7_read 86 = .ok (.getfield 47, 3) := by decide +kernel
theorem dX7_read_89 : decode cX7_read 89 = .ok (.iload_n 1, 1) := by decide +kernel
theorem dX7_read_90 : decode cX7_read 90 = .ok (.iaload, 1) := by decide +kernel
theorem dX7_read_91 : decode cX7_read 91 = .ok (.iload_n 2, 1) := by decide +kernel
theorem dX7_read_92 : decode cX7_read 92 = .ok (.if_icmp .eq 7, 3) := by decide +kernel
theorem dX7_read_95 : decode cX7_read 95 = .ok (.iconst 3, 1) := by decide +kernel
theorem dX7_read_96 : decode cX7_read 96 = .ok (.goto 30, 3) := by decide +kernel
theorem dX7_read_99 : decode cX7_read 99 = .ok (.iload_n 3, 1) := by decide +kernel
theorem dX7_read_100 : decode cX7_read 100 = .ok (.i2l, 1) := by decide +kernel
theorem dX7_read_101 : decode cX7_read 101 = .ok (.iload 7, 2) := by decide +kernel
theorem dX7_read_103 : decode cX7_read 103 = .ok (.i2l, 1) := by decide +kernel
theorem dX7_read_104 : decode cX7_read 104 = .ok (.ladd, 1) := by decide +kernel
theorem dX7_read_105 : decode cX7_read 105 = .ok (.lconst 0, 1) := by decide +kernel
theorem dX7_read_106 : decode cX7_read 106 = .ok (.aload_n 0, 1) := by decide +kernel
theorem dX7_read_107 : decode cX7_read 107 = .ok (.getfield 50, 3) := by decide +kernel
theorem dX7_read_110 : decode cX7_read 110 = .ok (.iload_n 1, 1) := by decide +kernel
theorem dX7_read_111 : decode cX7_read 111 = .ok (.iaload, 1) := by decide +kernel
theorem dX7_read_112 : decode cX7_read 112 = .ok (.iconst 1, 1) := by decide +kernel
theorem dX7_read_113 : decode cX7_read 113 = .ok (.isub, 1) := by decide +kernel
theorem dX7_read_114 : decode cX7_read 114 = .ok (.i2l, 1) := by decide +kernel
theorem dX7_read_115 : decode cX7_read 115 = .ok (.invokestatic 58, 3) := by decide +kernel
theorem dX7_read_118 : decode cX7_read 118 = .ok (.ifCond .ne 7, 3) := by decide +kernel
theorem dX7_read_121 : decode cX7_read 121 = .ok (.iconst 2, 1) := by decide +kernel
theorem dX7_read_122 : decode cX7_read 122 = .ok (.goto 4, 3) := by decide +kernel
theorem dX7_read_125 : decode cX7_read 125 = .ok (.iconst 0, 1) := by decide +kernel
theorem dX7_read_126 : decode cX7_read 126 = .ok (.istore 5, 2) := by decide +kernel
theorem dX7_read_128 : decode cX7_read 128 = .ok (.iload 5, 2) := by decide +kernel
theorem dX7_read_130 : decode cX7_read 130 = .ok (.ifCond .ne 62, 3) := by decide +kernel
theorem dX7_read_133 : decode cX7_read 133 = .ok (.iload 7, 2) := by decide +kernel
theorem dX7_read_135 : decode cX7_read 135 = .ok (.iconst 2, 1) := by decide +kernel
theorem dX7_read_136 : decode cX7_read 136 = .ok (.irem, 1) := by decide +kernel
theorem dX7_read_137 : decode cX7_read 137 = .ok (.iconst 1, 1) := by decide +kernel
theorem dX7_read_138 : decode cX7_read 138 = .ok (.if_icmp .ne 54, 3) := by decide +kernel
theorem dX7_read_141 : decode cX7_read 141 = .ok (.bipush 40, 2) := by decide +kernel
theorem dX7_read_143 : decode cX7_read 143 = .ok (.iload_n 1, 1) := by decide +kernel
theorem dX7_read_144 : decode cX7_read 144 = .ok (.imul, 1) := by decide +kernel
theorem dX7_read_145 : decode cX7_read 145 = .ok (.iload_n 3, 1) := by decide +kernel
theorem dX7_read_146 : decode cX7_read 146 = .ok (.iadd, 1) := by decide +kernel
theorem dX7_read_147 : decode cX7_read 147 = .ok (.iload 7, 2) := by decide +kernel
theorem dX7_read_149 : decode cX7_read 149 = .ok (.iadd, 1) := by decide +kernel
theorem dX7_read_150 : decode cX7_read 150 = .ok (.istore 8, 2) := by decide +kernel
theorem dX7_read_152 : decode cX7_read 152 = .ok (.aload_n 0, 1) := by decide +kernel
theorem dX7_read_153 : decode cX7_read 153 = .ok (.aload_n 0, 1) := by decide +kernel
theorem dX7_read_154 : decode cX7_read 154 = .ok (.getfield 53, 3) := by decide +kernel
theorem dX7_read_157 : decode cX7_read 157 = .ok (.iload 8, 2) := by decide +kernel
theorem dX7_read_159 : decode cX7_read 159 = .ok (.iconst 1, 1) := by decide +kernel
theorem dX7_read_160 : decode cX7_read 160 = .ok (.isub, 1) := by decide +kernel
theorem dX7_read_161 : decode cX7_read 161 = .ok (.iaload, 1) := by decide +kernel
theorem dX7_read_162 : decode cX7_read 162 = .ok (.aload_n 0, 1) := by decide +kernel
theorem dX7_read_163 : decode cX7_read 163 = .ok (.getfield 53, 3) := by decide +kernel
theorem dX7_read_166 : decode cX7_read 166 = .ok (.iload 8, 2) := by decide +kernel
theorem dX7_read_168 : decode cX7_read 168 = .ok (.iaload, 1) := by decide +kernel
theorem dX7_read_169 : decode cX7_read 169 = .ok (.invokevirtual 206, 3) := by decide +kernel
theorem dX7_read_172 : decode cX7_read 172 = .ok (.ifCond .ge 17, 3) := by decide +kernel
theorem dX7_read_175 : decode cX7_read 175 = .ok (.aload_n 0, 1) := by decide +kernel
theorem dX7_read_176 : decode cX7_read 176 = .ok (.sipush 150, 3) := by decide +kernel
theorem dX7_read_179 : decode cX7_read 179 = .ok (.iconst 0, 1) := by decide +kernel
theorem dX7_read_180 : decode cX7_read 180 = .ok (.invokevirtual 254, 3) := by decide +kernel
theorem dX7_read_183 : decode cX7_read 183 = .ok (.bipush (-20), 2) := by decide +kernel
theorem dX7_read_185 : decode cX7_read 185 = .ok (.iload 6, 2) := by decide +kernel
theorem dX7_read_187 : decode cX7_read 187 = .ok (.isub, 1) := by decide +kernel
theorem dX7_read_188 : decode cX7_read 188 = .ok (.ireturn, 1) := by decide +kernel
theorem dX7_read_189 : decode cX7_read 189 = .ok (.iinc 6 1, 3) := by decide +kernel
theorem dX7_read_192 : decode cX7_read 192 = .ok (.iinc 7 1, 3) := by decide +kernel
theorem dX7_read_195 : decode cX7_read 195 = .ok (.goto (-139), 3) := by decide +kernel
theorem dX7_read_198 : decode cX7_read 198 = .ok (.aload_n 0, 1) := by decide +kernel
theorem dX7_read_199 : decode cX7_read 199 = .ok (.iload 5, 2) := by decide +kernel
theorem dX7_read_201 : decode cX7_read 201 = .ok (.putfield 284, 3) := by decide +kernel
theorem dX7_read_204 : decode cX7_read 204 = .ok (.iload 6, 2) := by decide +kernel
theorem dX7_read_206 : decode cX7_read 206 = .ok (.ireturn, 1) := by decide +kernel
theorem dX7_torn_0 : decode cX7_torn 0 = .ok (.aload_n 0, 1) := by decide +kernel
theorem dX7_torn_1 : decode cX7_torn 1 = .ok (.getfield 284, 3) := by decide +kernel
theorem dX7_torn_4 : decode cX7_torn 4 = .ok (.ireturn, 1) := by decide +kernel
theorem dX7_count_0 : decode cX7_count 0 = .ok (.iconst 0, 1) := by decide +kernel
theorem dX7_count_1 : decode cX7_count 1 = .ok (.istore_n 2, 1) := by decide +kernel
theorem dX7_count_2 : decode cX7_count 2 = .ok (.iconst 0, 1) := by decide +kernel
theorem dX7_count_3 : decode cX7_count 3 = .ok (.istore_n 3, 1) := by decide +kernel
theorem dX7_count_4 : decode cX7_count 4 = .ok (.iload_n 3, 1) := by decide +kernel
theorem dX7_count_5 : decode cX7_count 5 = .ok (.iconst 4, 1) := by decide +kernel
theorem dX7_count_6 : decode cX7_count 6 = .ok (.if_icmp .ge 24, 3) := by decide +kernel
theorem dX7_count_9 : decode cX7_count 9 = .ok (.iload_n 2, 1) := by decide +kernel
theorem dX7_count_10 : decode cX7_count 10 = .ok (.aload_n 0, 1) := by decide +kernel
theorem dX7_count_11 : decode cX7_count 11 = .ok (.getfield 7, 3) := by decide +kernel
theorem dX7_count_14 : decode cX7_count 14 = .ok (.bipush 40, 2) := by decide +kernel
theorem dX7_count_16 : decode cX7_count 16 = .ok (.iload_n 3, 1) := by decide +kernel
theorem dX7_count_17 : decode cX7_count 17 = .ok (.iadd, 1) := by decide +kernel
theorem dX7_count_18 : decode cX7_count 18 = .ok (.iaload, 1) := by decide +kernel
theorem dX7_count_19 : decode cX7_count 19 = .ok (.invokestatic 216, 3) := by decide +kernel
theorem dX7_count_22 : decode cX7_count 22 = .ok (.iadd, 1) := by decide +kernel
theorem dX7_count_23 : decode cX7_count 23 = .ok (.istore_n 2, 1) := by decide +kernel
theorem dX7_count_24 : decode cX7_count 24 = .ok (.iinc 3 1, 3) := by decide +kernel
theorem dX7_count_27 : decode cX7_count 27 = .ok (.goto (-23), 3) := by decide +kernel
theorem dX7_count_30 : decode cX7_count 30 = .ok (.iload_n 1, 1) := by decide +kernel
theorem dX7_count_31 : decode cX7_count 31 = .ok (.tableswitch 112 0 5 #[37, 42, 72, 77, 100, 110], 37) := by decide +kernel
theorem dX7_count_68 : decode cX7_count 68 = .ok (.aload_n 0, 1) := by decide +kernel
theorem dX7_count_69 : decode cX7_count 69 = .ok (.getfield 153, 3) := by decide +kernel
theorem dX7_count_72 : decode cX7_count 72 = .ok (.ireturn, 1) := by decide +kernel
theorem dX7_count_73 : decode cX7_count 73 = .ok (.aload_n 0, 1) := by decide +kernel
theorem dX7_count_74 : decode cX7_count 74 = .ok (.getfield 43, 3) := by decide +kernel
theorem dX7_count_77 : decode cX7_count 77 = .ok (.iconst 0, 1) := by decide +kernel
theorem dX7_count_78 : decode cX7_count 78 = .ok (.baload, 1) := by decide +kernel
theorem dX7_count_79 : decode cX7_count 79 = .ok (.ifCond .eq 7, 3) := by decide +kernel
theorem dX7_count_82 : decode cX7_count 82 = .ok (.iconst 1, 1) := by decide +kernel
theorem dX7_count_83 : decode cX7_count 83 = .ok (.goto 4, 3) := by decide +kernel
theorem dX7_count_86 : decode cX7_count 86 = .ok (.iconst 0, 1) := by decide +kernel
theorem dX7_count_87 : decode cX7_count 87 = .ok (.aload_n 0, 1) := by decide +kernel
theorem dX7_count_88 : decode cX7_count 88 = .ok (.getfield 43, 3) := by decide +kernel
theorem dX7_count_91 : decode cX7_count 91 = .ok (.iconst 1, 1) := by decide +kernel
theorem dX7_count_92 : decode cX7_count 92 = .ok (.baload, 1) := by decide +kernel
theorem dX7_count_93 : decode cX7_count 93 = .ok (.ifCond .eq 7, 3) := by decide +kernel
theorem dX7_count_96 : decode cX7_count 96 = .ok (.iconst 1, 1) := by decide +kernel
theorem dX7_count_97 : decode cX7_count 97 = .ok (.goto 4, 3) := by decide +kernel
theorem dX7_count_100 : decode cX7_count 100 = .ok (.iconst 0, 1) := by decide +kernel
theorem dX7_count_101 : decode cX7_count 101 = .ok (.iadd, 1) := by decide +kernel
theorem dX7_count_102 : decode cX7_count 102 = .ok (.ireturn, 1) := by decide +kernel
theorem dX7_count_103 : decode cX7_count 103 = .ok (.aload_n 0, 1) := by decide +kernel
theorem dX7_count_104 : decode cX7_count 104 = .ok (.getfield 62, 3) := by decide +kernel
theorem dX7_count_107 : decode cX7_count 107 = .ok (.ireturn, 1) := by decide +kernel
theorem dX7_count_108 : decode cX7_count 108 = .ok (.aload_n 0, 1) := by decide +kernel
theorem dX7_count_109 : decode cX7_count 109 = .ok (.getfield 47, 3) := by decide +kernel
theorem dX7_count_112 : decode cX7_count 112 = .ok (.iconst 0, 1) := by decide +kernel
theorem dX7_count_113 : decode cX7_count 113 = .ok (.iaload, 1) := by decide +kernel
theorem dX7_count_114 : decode cX7_count 114 = .ok (.bipush (-4), 2) := by decide +kernel
theorem dX7_count_116 : decode cX7_count 116 = .ok (.if_icmp .ne 8, 3) := by decide +kernel
theorem dX7_count_119 : decode cX7_count 119 = .ok (.bipush (-4), 2) := by decide +kernel
theorem dX7_count_121 : decode cX7_count 121 = .ok (.goto 9, 3) := by decide +kernel
theorem dX7_count_124 : decode cX7_count 124 = .ok (.aload_n 0, 1) := by decide +kernel
theorem dX7_count_125 : decode cX7_count 125 = .ok (.getfield 50, 3) := by decide +kernel
theorem dX7_count_128 : decode cX7_count 128 = .ok (.iconst 0, 1) := by decide +kernel
theorem dX7_count_129 : decode cX7_count 129 = .ok (.iaload, 1) := by decide +kernel
theorem dX7_count_130 : decode cX7_count 130 = .ok (.ireturn, 1) := by decide +kernel
theorem dX7_count_131 : decode cX7_count 131 = .ok (.aload_n 0, 1) := by decide +kernel
theorem dX7_count_132 : decode cX7_count 132 = .ok (.invokevirtual 165, 3) := by decide +kernel
theorem dX7_count_135 : decode cX7_count 135 = .ok (.invokestatic 216, 3) := by decide +kernel
theorem dX7_count_138 : decode cX7_count 138 = .ok (.iconst 2, 1) := by decide +kernel
theorem dX7_count_139 : decode cX7_count 139 = .ok (.idiv, 1) := by decide +kernel
theorem dX7_count_140 : decode cX7_count 140 = .ok (.ireturn, 1) := by decide +kernel
theorem dX7_count_141 : decode cX7_count 141 = .ok (.iload_n 2, 1) := by decide +kernel
theorem dX7_count_142 : decode cX7_count 142 = .ok (.ireturn, 1) := by decide +kernel
theorem dX7_count_143 : decode cX7_count 143 = .ok (.iconst (-1), 1) := by decide +kernel
theorem dX7_count_144 : decode cX7_count 144 = .ok (.ireturn, 1) := by decide +kernel
