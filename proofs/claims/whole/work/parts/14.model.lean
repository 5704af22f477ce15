/-! HandMarketModel.in(JJJ)Z -/
def f_X7_in  (x0 : Int64) (x2 : Int64) (x4 : Int64) (σ : k_Mem) : Option (Int32 × k_Mem) :=
  if (lg_cmp x0 x2) < 0 then (
    some (0, σ)
  ) else (
    if 0 < (lg_cmp x0 x4) then (
      some (0, σ)
    ) else (
      some (1, σ)
    )
  )
set_option maxRecDepth 100000 in
theorem c_X7_in (E : k_EV)   (x0 : Int64) (x2 : Int64) (x4 : Int64) (σ : k_Mem) : k_MC m_X7_in E k_vi [.long x0, .long x2, .long x4] σ (f_X7_in x0 x2 x4 σ) := by
  refine k_MC_of ⟨by decide, by decide⟩ (Nat.le_of_ble_eq_true rfl) ?_
  show k_GO _ _ _ 0 [(0, .long x0), (2, .long x2), (4, .long x4)] [] σ _
  unfold f_X7_in
  refine r_lload_n 0 rfl rfl 1 rfl dX7_in_0 ?_
  refine r_lload_n 1 rfl rfl 2 rfl dX7_in_1 ?_
  refine r_lcmp 3 rfl dX7_in_2 ?_
  refine r_if_lt 17 6 rfl (by decide) dX7_in_3 (fun c1 => ?_) (fun c1 => ?_)
  · refine r_iconst 0 (by decide) 18 rfl dX7_in_17 ?_
    exact r_zret rfl (Or.inl rfl) dX7_in_18
  · refine r_lload_n 0 rfl rfl 7 rfl dX7_in_6 ?_
    refine r_lload 2 rfl 9 rfl dX7_in_7 ?_
    refine r_lcmp 10 rfl dX7_in_9 ?_
    refine r_if_gt 17 13 rfl (by decide) dX7_in_10 (fun c2 => ?_) (fun c2 => ?_)
    · refine r_iconst 0 (by decide) 18 rfl dX7_in_17 ?_
      exact r_zret rfl (Or.inl rfl) dX7_in_18
    · refine r_iconst 1 (by decide) 14 rfl dX7_in_13 ?_
      refine r_goto 18 (by decide) dX7_in_14 ?_
      exact r_zret rfl (Or.inr rfl) dX7_in_18
/-! HandMarketModel.feed(I)I -/
def f_X7_feed  (x1 : Int32) (σ : k_Mem) : Option (Int32 × k_Mem) :=
  k_bd (f_X7_in  (Int32.toInt64 x1) 0 127 σ) (fun r1 σ1 =>
    if r1 = 0 then (
      some ((-1), σ1)
    ) else (
      if (σ1 67 10) = 160 then (
        some ((-3), σ1)
      ) else (
        if k_in (σ1 67 10) 160 then (
          some (((k_mset (k_mset σ1 70 (k_n (σ1 67 10)) x1) 67 10 (((k_mset σ1 70 (k_n (σ1 67 10)) x1) 67 10) + 1)) 67 10), (k_mset (k_mset σ1 70 (k_n (σ1 67 10)) x1) 67 10 (((k_mset σ1 70 (k_n (σ1 67 10)) x1) 67 10) + 1)))
        ) else none
      )
    )
  )
set_option maxRecDepth 100000 in
theorem c_X7_feed (E : k_EV)   (x1 : Int32) (σ : k_Mem) : k_MC m_X7_feed E k_vi [k_rf E 67, .int x1] σ (f_X7_feed x1 σ) := by
  refine k_MC_of ⟨by decide, by decide⟩ (Nat.le_of_ble_eq_true rfl) ?_
  show k_GO _ _ _ 0 [(0, k_rf E 67), (1, .int x1)] [] σ _
  unfold f_X7_feed
  refine r_iload_n 1 rfl rfl 1 rfl dX7_feed_0 ?_
  refine r_i2l 2 rfl dX7_feed_1 ?_
  refine r_lconst 0 (by decide) 3 rfl dX7_feed_2 ?_
  refine r_ldc2 cs_X7_56 6 rfl dX7_feed_3 ?_
  refine r_callsi (c_X7_in E   _ _ _ _) rfl ml_X7_58 cw_X7_in sw_X7_in (by decide) (Nat.le_of_ble_eq_true rfl) 9 rfl dX7_feed_6 (fun r1 σ1 => ?_)
  refine r_if_ne 14 12 rfl (by decide) dX7_feed_9 (fun c2 => ?_) (fun c2 => ?_)
  · refine r_iconst (-1) (by decide) 13 rfl dX7_feed_12 ?_
    exact r_iret rfl dX7_feed_13
  · refine r_aload_n 0 rfl rfl 15 rfl dX7_feed_14 ?_
    refine r_geti fl_X7_62 sh_67 rfl 18 rfl dX7_feed_15 ?_
    refine r_sipush 160 (by decide) 21 rfl dX7_feed_18 ?_
    refine r_icmp_ne 27 24 rfl (by decide) dX7_feed_21 (fun c3 => ?_) (fun c3 => ?_)
    · refine r_bipush (-3) (by decide) 26 rfl dX7_feed_24 ?_
      exact r_iret rfl dX7_feed_26
    · refine r_aload_n 0 rfl rfl 28 rfl dX7_feed_27 ?_
      refine r_getr fl_X7_16 sh_67 rfl 31 rfl dX7_feed_28 ?_
      refine r_aload_n 0 rfl rfl 32 rfl dX7_feed_31 ?_
      refine r_geti fl_X7_62 sh_67 rfl 35 rfl dX7_feed_32 ?_
      refine r_iload_n 1 rfl rfl 36 rfl dX7_feed_35 ?_
      refine r_iast sh_70 37 rfl dX7_feed_36 ?_
      refine r_aload_n 0 rfl rfl 38 rfl dX7_feed_37 ?_
      refine r_dup 39 rfl dX7_feed_38 rfl ?_
      refine r_geti fl_X7_62 sh_67 rfl 42 rfl dX7_feed_39 ?_
      refine r_iconst 1 (by decide) 43 rfl dX7_feed_42 ?_
      refine r_iadd 44 rfl dX7_feed_43 ?_
      refine r_puti fp_X7_62 sh_67 rfl 47 rfl dX7_feed_44 ?_
      refine r_aload_n 0 rfl rfl 48 rfl dX7_feed_47 ?_
      refine r_geti fl_X7_62 sh_67 rfl 51 rfl dX7_feed_48 ?_
      exact r_iret rfl dX7_feed_51
/-! HandMarketModel.end(I)I -/
def f_X7_end  (x1 : Int32) (σ : k_Mem) : Option (Int32 × k_Mem) :=
  k_bd (f_X7_in  (Int32.toInt64 x1) 0 (Int32.toInt64 (σ 67 10)) σ) (fun r1 σ1 =>
    if r1 = 0 then (
      some ((-1), σ1)
    ) else (
      some ((σ1 67 10), (k_mset σ1 67 10 x1))
    )
  )
set_option maxRecDepth 100000 in
theorem c_X7_end (E : k_EV)   (x1 : Int32) (σ : k_Mem) : k_MC m_X7_end E k_vi [k_rf E 67, .int x1] σ (f_X7_end x1 σ) := by
  refine k_MC_of ⟨by decide, by decide⟩ (Nat.le_of_ble_eq_true rfl) ?_
  show k_GO _ _ _ 0 [(0, k_rf E 67), (1, .int x1)] [] σ _
  unfold f_X7_end
  refine r_iload_n 1 rfl rfl 1 rfl dX7_end_0 ?_
  refine r_i2l 2 rfl dX7_end_1 ?_
  refine r_lconst 0 (by decide) 3 rfl dX7_end_2 ?_
  refine r_aload_n 0 rfl rfl 4 rfl dX7_end_3 ?_
  refine r_geti fl_X7_62 sh_67 rfl 7 rfl dX7_end_4 ?_
  refine r_i2l 8 rfl dX7_end_7 ?_
  refine r_callsi (c_X7_in E   _ _ _ _) rfl ml_X7_58 cw_X7_in sw_X7_in (by decide) (Nat.le_of_ble_eq_true rfl) 11 rfl dX7_end_8 (fun r1 σ1 => ?_)
  refine r_if_ne 16 14 rfl (by decide) dX7_end_11 (fun c2 => ?_) (fun c2 => ?_)
  · refine r_iconst (-1) (by decide) 15 rfl dX7_end_14 ?_
    exact r_iret rfl dX7_end_15
  · refine r_aload_n 0 rfl rfl 17 rfl dX7_end_16 ?_
    refine r_geti fl_X7_62 sh_67 rfl 20 rfl dX7_end_17 ?_
    refine r_istore_n [(2, .int _), (0, k_rf E 67), (1, .int _)] rfl rfl (by decide) 21 rfl dX7_end_20 ?_
    refine r_aload_n 1 rfl rfl 22 rfl dX7_end_21 ?_
    refine r_iload_n 2 rfl rfl 23 rfl dX7_end_22 ?_
    refine r_puti fp_X7_62 sh_67 rfl 26 rfl dX7_end_23 ?_
    refine r_iload_n 0 rfl rfl 27 rfl dX7_end_26 ?_
    exact r_iret rfl dX7_end_27
/-! HandMarketModel.byteAt(I)I -/
def f_X7_byteAt  (x1 : Int32) (σ : k_Mem) : Option (Int32 × k_Mem) :=
  if (σ 67 10) ≤ x1 then (
    some ((-4), σ)
  ) else (
    if k_in x1 160 then (
      some ((σ 70 (k_n x1)), σ)
    ) else none
  )
set_option maxRecDepth 100000 in
theorem c_X7_byteAt (E : k_EV)   (x1 : Int32) (σ : k_Mem) : k_MC m_X7_byteAt E k_vi [k_rf E 67, .int x1] σ (f_X7_byteAt x1 σ) := by
  refine k_MC_of ⟨by decide, by decide⟩ (Nat.le_of_ble_eq_true rfl) ?_
  show k_GO _ _ _ 0 [(0, k_rf E 67), (1, .int x1)] [] σ _
  unfold f_X7_byteAt
  refine r_iload_n 1 rfl rfl 1 rfl dX7_byteAt_0 ?_
  refine r_aload_n 0 rfl rfl 2 rfl dX7_byteAt_1 ?_
  refine r_geti fl_X7_62 sh_67 rfl 5 rfl dX7_byteAt_2 ?_
  refine r_icmp_ge 17 8 rfl (by decide) dX7_byteAt_5 (fun c1 => ?_) (fun c1 => ?_)
  · refine r_bipush (-4) (by decide) 19 rfl dX7_byteAt_17 ?_
    exact r_iret rfl dX7_byteAt_19
  · refine r_aload_n 0 rfl rfl 9 rfl dX7_byteAt_8 ?_
    refine r_getr fl_X7_16 sh_67 rfl 12 rfl dX7_byteAt_9 ?_
    refine r_iload_n 1 rfl rfl 13 rfl dX7_byteAt_12 ?_
    refine r_iald sh_70 14 rfl dX7_byteAt_13 ?_
    refine r_goto 19 (by decide) dX7_byteAt_14 ?_
    exact r_iret rfl dX7_byteAt_19
/-! HandMarketModel.fails(I)V -/
def f_X7_fails  (x1 : Int32) (σ : k_Mem) : Option (Unit × k_Mem) :=
  if (σ 67 12) = 0 then (
    some ((), (k_mset (k_mset σ 67 12 x1) 67 13 ((k_mset σ 67 12 x1) 67 15)))
  ) else (
    some ((), σ)
  )
set_option maxRecDepth 100000 in
theorem c_X7_fails (E : k_EV)   (x1 : Int32) (σ : k_Mem) : k_MC m_X7_fails E k_vv [k_rf E 67, .int x1] σ (f_X7_fails x1 σ) := by
  refine k_MC_of ⟨by decide, by decide⟩ (Nat.le_of_ble_eq_true rfl) ?_
  show k_GO _ _ _ 0 [(0, k_rf E 67), (1, .int x1)] [] σ _
  unfold f_X7_fails
  refine r_aload_n 0 rfl rfl 1 rfl dX7_fails_0 ?_
  refine r_geti fl_X7_66 sh_67 rfl 4 rfl dX7_fails_1 ?_
  refine r_if_ne 20 7 rfl (by decide) dX7_fails_4 (fun c1 => ?_) (fun c1 => ?_)
  · refine r_aload_n 0 rfl rfl 8 rfl dX7_fails_7 ?_
    refine r_iload_n 1 rfl rfl 9 rfl dX7_fails_8 ?_
    refine r_puti fp_X7_66 sh_67 rfl 12 rfl dX7_fails_9 ?_
    refine r_aload_n 0 rfl rfl 13 rfl dX7_fails_12 ?_
    refine r_aload_n 0 rfl rfl 14 rfl dX7_fails_13 ?_
    refine r_geti fl_X7_69 sh_67 rfl 17 rfl dX7_fails_14 ?_
    refine r_puti fp_X7_72 sh_67 rfl 20 rfl dX7_fails_17 ?_
    exact r_vret rfl dX7_fails_20
  · exact r_vret rfl dX7_fails_20
/-! HandMarketModel.step()V -/
def j_X7_step_201  (k140 : k_Mem → Option (Unit × k_Mem)) (xs1 : Int32) (σ : k_Mem) : Option (Unit × k_Mem) :=
  k140  (k_mset (k_mset σ 67 17 xs1) 67 14 (((k_mset σ 67 17 xs1) 67 14) + 1))
set_option maxRecDepth 100000 in
theorem gj_X7_step_201 (E : k_EV)   (k140 : k_Mem → Option (Unit × k_Mem)) (hk140 : ∀   (σ : k_Mem), k_GO m_X7_step E k_vv 140 [(0, k_rf E 67)] [] σ (k140  σ)) (xs1 : Int32)  (σ : k_Mem) : k_GO m_X7_step E k_vv 201 [(0, k_rf E 67)] [.int xs1, k_rf E 67] σ (j_X7_step_201  k140 xs1 σ) := by
  unfold j_X7_step_201
  refine r_puti fp_X7_85 sh_67 rfl 204 rfl dX7_step_201 ?_
  refine r_aload_n 0 rfl rfl 205 rfl dX7_step_204 ?_
  refine r_dup 206 rfl dX7_step_205 rfl ?_
  refine r_geti fl_X7_78 sh_67 rfl 209 rfl dX7_step_206 ?_
  refine r_iconst 1 (by decide) 210 rfl dX7_step_209 ?_
  refine r_iadd 211 rfl dX7_step_210 ?_
  refine r_puti fp_X7_78 sh_67 rfl 214 rfl dX7_step_211 ?_
  refine r_goto 140 (by decide) dX7_step_214 ?_
  exact r_sub [0] rfl (hk140   _)
def l_X7_step_140   : Nat → k_Mem → Option (Unit × k_Mem)
  | 0, _ => none
  | n + 1, σ =>
    k_bd (f_X7_byteAt  (σ 67 14) σ) (fun r12 σ12 =>
      k_bd (f_X7_in  (Int32.toInt64 r12) 48 57 σ12) (fun r13 σ13 =>
        if r13 = 0 then (
          if (((k_mset σ13 67 16 2) 67 14) - ((k_mset σ13 67 16 2) 67 15)) ≤ 2 then (
            some ((), (k_mset σ13 67 16 2))
          ) else (
            k_bd (f_X7_fails  1 (k_mset σ13 67 16 2)) (fun _ σ16 =>
              some ((), σ16)
            )
          )
        ) else (
          if 2 ≤ ((σ13 67 14) - (σ13 67 15)) then (
            j_X7_step_201  (fun  σ => l_X7_step_140   n  σ) (σ13 67 17) σ13
          ) else (
            k_bd (f_X7_byteAt  (σ13 67 14) σ13) (fun r18 σ18 =>
              j_X7_step_201  (fun  σ => l_X7_step_140   n  σ) (((10 * (σ13 67 17)) + r18) - 48) σ18
            )
          )
        )
      )
    )
set_option maxRecDepth 100000 in
theorem gl_X7_step_140 (E : k_EV)     : ∀ (n : Nat)   (σ : k_Mem), k_GO m_X7_step E k_vv 140 [(0, k_rf E 67)] [] σ (l_X7_step_140   n  σ) := by
  intro n
  induction n with
  | zero => intro   σ; exact r_none
  | succ n ih =>
    intro   σ
    rw [l_X7_step_140]
    refine r_aload_n 0 rfl rfl 141 rfl dX7_step_140 ?_
    refine r_aload_n 0 rfl rfl 142 rfl dX7_step_141 ?_
    refine r_geti fl_X7_78 sh_67 rfl 145 rfl dX7_step_142 ?_
    refine r_calli (c_X7_byteAt E   _ _) rfl sh_67 rfl ml_X7_81 cw_X7_byteAt vw_X7_byteAt (by decide) (Nat.le_of_ble_eq_true rfl) 148 rfl dX7_step_145 (fun r12 σ12 => ?_)
    refine r_i2l 149 rfl dX7_step_148 ?_
    refine r_ldc2 cs_X7_92 152 rfl dX7_step_149 ?_
    refine r_ldc2 cs_X7_94 155 rfl dX7_step_152 ?_
    refine r_callsi (c_X7_in E   _ _ _ _) rfl ml_X7_58 cw_X7_in sw_X7_in (by decide) (Nat.le_of_ble_eq_true rfl) 158 rfl dX7_step_155 (fun r13 σ13 => ?_)
    refine r_if_eq 217 161 rfl (by decide) dX7_step_158 (fun c14 => ?_) (fun c14 => ?_)
    · refine r_aload_n 0 rfl rfl 218 rfl dX7_step_217 ?_
      refine r_iconst 2 (by decide) 219 rfl dX7_step_218 ?_
      refine r_puti fp_X7_75 sh_67 rfl 222 rfl dX7_step_219 ?_
      refine r_aload_n 0 rfl rfl 223 rfl dX7_step_222 ?_
      refine r_geti fl_X7_78 sh_67 rfl 226 rfl dX7_step_223 ?_
      refine r_aload_n 0 rfl rfl 227 rfl dX7_step_226 ?_
      refine r_geti fl_X7_69 sh_67 rfl 230 rfl dX7_step_227 ?_
      refine r_isub 231 rfl dX7_step_230 ?_
      refine r_iconst 2 (by decide) 232 rfl dX7_step_231 ?_
      refine r_icmp_le 269 235 rfl (by decide) dX7_step_232 (fun c15 => ?_) (fun c15 => ?_)
      · exact r_vret rfl dX7_step_269
      · refine r_aload_n 0 rfl rfl 236 rfl dX7_step_235 ?_
        refine r_iconst 1 (by decide) 237 rfl dX7_step_236 ?_
        refine r_callv (c_X7_fails E   _ _) rfl sh_67 rfl ml_X7_96 cw_X7_fails vw_X7_fails (by decide) (Nat.le_of_ble_eq_true rfl) 240 rfl dX7_step_237 (fun _ σ16 => ?_)
        refine r_goto 269 (by decide) dX7_step_240 ?_
        exact r_vret rfl dX7_step_269
    · refine r_aload_n 0 rfl rfl 162 rfl dX7_step_161 ?_
      refine r_aload_n 0 rfl rfl 163 rfl dX7_step_162 ?_
      refine r_geti fl_X7_78 sh_67 rfl 166 rfl dX7_step_163 ?_
      refine r_aload_n 0 rfl rfl 167 rfl dX7_step_166 ?_
      refine r_geti fl_X7_69 sh_67 rfl 170 rfl dX7_step_167 ?_
      refine r_isub 171 rfl dX7_step_170 ?_
      refine r_iconst 2 (by decide) 172 rfl dX7_step_171 ?_
      refine r_icmp_ge 197 175 rfl (by decide) dX7_step_172 (fun c17 => ?_) (fun c17 => ?_)
      · refine r_aload_n 0 rfl rfl 198 rfl dX7_step_197 ?_
        refine r_geti fl_X7_85 sh_67 rfl 201 rfl dX7_step_198 ?_
        exact r_sub [0] rfl (gj_X7_step_201 E   _ (fun   σ => ih   σ) _  _)
      · refine r_bipush 10 (by decide) 177 rfl dX7_step_175 ?_
        refine r_aload_n 0 rfl rfl 178 rfl dX7_step_177 ?_
        refine r_geti fl_X7_85 sh_67 rfl 181 rfl dX7_step_178 ?_
        refine r_imul 182 rfl dX7_step_181 ?_
        refine r_aload_n 0 rfl rfl 183 rfl dX7_step_182 ?_
        refine r_aload_n 0 rfl rfl 184 rfl dX7_step_183 ?_
        refine r_geti fl_X7_78 sh_67 rfl 187 rfl dX7_step_184 ?_
        refine r_calli (c_X7_byteAt E   _ _) rfl sh_67 rfl ml_X7_81 cw_X7_byteAt vw_X7_byteAt (by decide) (Nat.le_of_ble_eq_true rfl) 190 rfl dX7_step_187 (fun r18 σ18 => ?_)
        refine r_iadd 191 rfl dX7_step_190 ?_
        refine r_bipush 48 (by decide) 193 rfl dX7_step_191 ?_
        refine r_isub 194 rfl dX7_step_193 ?_
        refine r_goto 201 (by decide) dX7_step_194 ?_
        exact r_sub [0] rfl (gj_X7_step_201 E   _ (fun   σ => ih   σ) _  _)
def l_X7_step_84   : Nat → k_Mem → Option (Unit × k_Mem)
  | 0, _ => none
  | n + 1, σ =>
    k_bd (f_X7_byteAt  (σ 67 14) σ) (fun r19 σ19 =>
      k_bd (f_X7_in  (Int32.toInt64 r19) 97 122 σ19) (fun r20 σ20 =>
        if r20 = 0 then (
          some ((), (k_mset σ20 67 16 1))
        ) else (
          l_X7_step_84   n  (k_mset σ20 67 14 ((σ20 67 14) + 1))
        )
      )
    )
set_option maxRecDepth 100000 in
theorem gl_X7_step_84 (E : k_EV)     : ∀ (n : Nat)   (σ : k_Mem), k_GO m_X7_step E k_vv 84 [(0, k_rf E 67)] [] σ (l_X7_step_84   n  σ) := by
  intro n
  induction n with
  | zero => intro   σ; exact r_none
  | succ n ih =>
    intro   σ
    rw [l_X7_step_84]
    refine r_aload_n 0 rfl rfl 85 rfl dX7_step_84 ?_
    refine r_aload_n 0 rfl rfl 86 rfl dX7_step_85 ?_
    refine r_geti fl_X7_78 sh_67 rfl 89 rfl dX7_step_86 ?_
    refine r_calli (c_X7_byteAt E   _ _) rfl sh_67 rfl ml_X7_81 cw_X7_byteAt vw_X7_byteAt (by decide) (Nat.le_of_ble_eq_true rfl) 92 rfl dX7_step_89 (fun r19 σ19 => ?_)
    refine r_i2l 93 rfl dX7_step_92 ?_
    refine r_ldc2 cs_X7_88 96 rfl dX7_step_93 ?_
    refine r_ldc2 cs_X7_90 99 rfl dX7_step_96 ?_
    refine r_callsi (c_X7_in E   _ _ _ _) rfl ml_X7_58 cw_X7_in sw_X7_in (by decide) (Nat.le_of_ble_eq_true rfl) 102 rfl dX7_step_99 (fun r20 σ20 => ?_)
    refine r_if_eq 118 105 rfl (by decide) dX7_step_102 (fun c21 => ?_) (fun c21 => ?_)
    · refine r_aload_n 0 rfl rfl 119 rfl dX7_step_118 ?_
      refine r_iconst 1 (by decide) 120 rfl dX7_step_119 ?_
      refine r_puti fp_X7_75 sh_67 rfl 123 rfl dX7_step_120 ?_
      refine r_goto 269 (by decide) dX7_step_123 ?_
      exact r_vret rfl dX7_step_269
    · refine r_aload_n 0 rfl rfl 106 rfl dX7_step_105 ?_
      refine r_dup 107 rfl dX7_step_106 rfl ?_
      refine r_geti fl_X7_78 sh_67 rfl 110 rfl dX7_step_107 ?_
      refine r_iconst 1 (by decide) 111 rfl dX7_step_110 ?_
      refine r_iadd 112 rfl dX7_step_111 ?_
      refine r_puti fp_X7_78 sh_67 rfl 115 rfl dX7_step_112 ?_
      refine r_goto 84 (by decide) dX7_step_115 ?_
      exact r_sub [0] rfl (ih   _)
def l_X7_step_8   : Nat → k_Mem → Option (Unit × k_Mem)
  | 0, _ => none
  | n + 1, σ =>
    k_bd (f_X7_byteAt  (σ 67 14) σ) (fun r2 σ2 =>
      if r2 = 32 then (
        l_X7_step_8   n  (k_mset σ2 67 14 ((σ2 67 14) + 1))
      ) else (
        k_bd (f_X7_byteAt  ((k_mset σ2 67 15 (σ2 67 14)) 67 14) (k_mset σ2 67 15 (σ2 67 14))) (fun r4 σ4 =>
          if r4 = (-4) then (
            some ((), (k_mset (k_mset σ4 67 17 0) 67 16 0))
          ) else (
            k_bd (f_X7_in  (Int32.toInt64 r4) 97 122 (k_mset σ4 67 17 0)) (fun r6 σ6 =>
              if r6 = 0 then (
                k_bd (f_X7_in  (Int32.toInt64 r4) 48 57 σ6) (fun r8 σ8 =>
                  if r8 = 0 then (
                    if r4 = 59 then (
                      some ((), (k_mset (k_mset σ8 67 16 3) 67 14 (((k_mset σ8 67 16 3) 67 14) + 1)))
                    ) else (
                      k_bd (f_X7_fails  1 (k_mset (k_mset σ8 67 16 3) 67 14 (((k_mset σ8 67 16 3) 67 14) + 1))) (fun _ σ11 =>
                        some ((), σ11)
                      )
                    )
                  ) else (
                    l_X7_step_140   1000  σ8
                  )
                )
              ) else (
                l_X7_step_84   1000  σ6
              )
            )
          )
        )
      )
    )
set_option maxRecDepth 100000 in
theorem gl_X7_step_8 (E : k_EV)     : ∀ (n : Nat)   (σ : k_Mem), k_GO m_X7_step E k_vv 8 [(0, k_rf E 67)] [] σ (l_X7_step_8   n  σ) := by
  intro n
  induction n with
  | zero => intro   σ; exact r_none
  | succ n ih =>
    intro   σ
    rw [l_X7_step_8]
    refine r_aload_n 0 rfl rfl 9 rfl dX7_step_8 ?_
    refine r_aload_n 0 rfl rfl 10 rfl dX7_step_9 ?_
    refine r_geti fl_X7_78 sh_67 rfl 13 rfl dX7_step_10 ?_
    refine r_calli (c_X7_byteAt E   _ _) rfl sh_67 rfl ml_X7_81 cw_X7_byteAt vw_X7_byteAt (by decide) (Nat.le_of_ble_eq_true rfl) 16 rfl dX7_step_13 (fun r2 σ2 => ?_)
    refine r_bipush 32 (by decide) 18 rfl dX7_step_16 ?_
    refine r_icmp_ne 34 21 rfl (by decide) dX7_step_18 (fun c3 => ?_) (fun c3 => ?_)
    · refine r_aload_n 0 rfl rfl 22 rfl dX7_step_21 ?_
      refine r_dup 23 rfl dX7_step_22 rfl ?_
      refine r_geti fl_X7_78 sh_67 rfl 26 rfl dX7_step_23 ?_
      refine r_iconst 1 (by decide) 27 rfl dX7_step_26 ?_
      refine r_iadd 28 rfl dX7_step_27 ?_
      refine r_puti fp_X7_78 sh_67 rfl 31 rfl dX7_step_28 ?_
      refine r_goto 8 (by decide) dX7_step_31 ?_
      exact r_sub [0] rfl (ih   _)
    · refine r_aload_n 0 rfl rfl 35 rfl dX7_step_34 ?_
      refine r_aload_n 0 rfl rfl 36 rfl dX7_step_35 ?_
      refine r_geti fl_X7_78 sh_67 rfl 39 rfl dX7_step_36 ?_
      refine r_puti fp_X7_69 sh_67 rfl 42 rfl dX7_step_39 ?_
      refine r_aload_n 0 rfl rfl 43 rfl dX7_step_42 ?_
      refine r_aload_n 0 rfl rfl 44 rfl dX7_step_43 ?_
      refine r_geti fl_X7_78 sh_67 rfl 47 rfl dX7_step_44 ?_
      refine r_calli (c_X7_byteAt E   _ _) rfl sh_67 rfl ml_X7_81 cw_X7_byteAt vw_X7_byteAt (by decide) (Nat.le_of_ble_eq_true rfl) 50 rfl dX7_step_47 (fun r4 σ4 => ?_)
      refine r_istore_n [(1, .int _), (0, k_rf E 67)] rfl rfl (by decide) 51 rfl dX7_step_50 ?_
      refine r_aload_n 1 rfl rfl 52 rfl dX7_step_51 ?_
      refine r_iconst 0 (by decide) 53 rfl dX7_step_52 ?_
      refine r_puti fp_X7_85 sh_67 rfl 56 rfl dX7_step_53 ?_
      refine r_iload_n 0 rfl rfl 57 rfl dX7_step_56 ?_
      refine r_bipush (-4) (by decide) 59 rfl dX7_step_57 ?_
      refine r_icmp_ne 70 62 rfl (by decide) dX7_step_59 (fun c5 => ?_) (fun c5 => ?_)
      · refine r_aload_n 1 rfl rfl 63 rfl dX7_step_62 ?_
        refine r_iconst 0 (by decide) 64 rfl dX7_step_63 ?_
        refine r_puti fp_X7_75 sh_67 rfl 67 rfl dX7_step_64 ?_
        refine r_goto 269 (by decide) dX7_step_67 ?_
        exact r_vret rfl dX7_step_269
      · refine r_iload_n 0 rfl rfl 71 rfl dX7_step_70 ?_
        refine r_i2l 72 rfl dX7_step_71 ?_
        refine r_ldc2 cs_X7_88 75 rfl dX7_step_72 ?_
        refine r_ldc2 cs_X7_90 78 rfl dX7_step_75 ?_
        refine r_callsi (c_X7_in E   _ _ _ _) rfl ml_X7_58 cw_X7_in sw_X7_in (by decide) (Nat.le_of_ble_eq_true rfl) 81 rfl dX7_step_78 (fun r6 σ6 => ?_)
        refine r_if_eq 126 84 rfl (by decide) dX7_step_81 (fun c7 => ?_) (fun c7 => ?_)
        · refine r_iload_n 0 rfl rfl 127 rfl dX7_step_126 ?_
          refine r_i2l 128 rfl dX7_step_127 ?_
          refine r_ldc2 cs_X7_92 131 rfl dX7_step_128 ?_
          refine r_ldc2 cs_X7_94 134 rfl dX7_step_131 ?_
          refine r_callsi (c_X7_in E   _ _ _ _) rfl ml_X7_58 cw_X7_in sw_X7_in (by decide) (Nat.le_of_ble_eq_true rfl) 137 rfl dX7_step_134 (fun r8 σ8 => ?_)
          refine r_if_eq 243 140 rfl (by decide) dX7_step_137 (fun c9 => ?_) (fun c9 => ?_)
          · refine r_aload_n 1 rfl rfl 244 rfl dX7_step_243 ?_
            refine r_iconst 3 (by decide) 245 rfl dX7_step_244 ?_
            refine r_puti fp_X7_75 sh_67 rfl 248 rfl dX7_step_245 ?_
            refine r_aload_n 1 rfl rfl 249 rfl dX7_step_248 ?_
            refine r_dup 250 rfl dX7_step_249 rfl ?_
            refine r_geti fl_X7_78 sh_67 rfl 253 rfl dX7_step_250 ?_
            refine r_iconst 1 (by decide) 254 rfl dX7_step_253 ?_
            refine r_iadd 255 rfl dX7_step_254 ?_
            refine r_puti fp_X7_78 sh_67 rfl 258 rfl dX7_step_255 ?_
            refine r_iload_n 0 rfl rfl 259 rfl dX7_step_258 ?_
            refine r_bipush 59 (by decide) 261 rfl dX7_step_259 ?_
            refine r_icmp_eq 269 264 rfl (by decide) dX7_step_261 (fun c10 => ?_) (fun c10 => ?_)
            · exact r_vret rfl dX7_step_269
            · refine r_aload_n 1 rfl rfl 265 rfl dX7_step_264 ?_
              refine r_iconst 1 (by decide) 266 rfl dX7_step_265 ?_
              refine r_callv (c_X7_fails E   _ _) rfl sh_67 rfl ml_X7_96 cw_X7_fails vw_X7_fails (by decide) (Nat.le_of_ble_eq_true rfl) 269 rfl dX7_step_266 (fun _ σ11 => ?_)
              exact r_vret rfl dX7_step_269
          · exact r_sub [1] rfl (gl_X7_step_140 E     1000   _)
        · exact r_sub [1] rfl (gl_X7_step_84 E     1000   _)
def f_X7_step   (σ : k_Mem) : Option (Unit × k_Mem) :=
  if (σ 67 12) ≤ 0 then (
    l_X7_step_8   1000  σ
  ) else (
    some ((), σ)
  )
set_option maxRecDepth 100000 in
theorem c_X7_step (E : k_EV)    (σ : k_Mem) : k_MC m_X7_step E k_vv [k_rf E 67] σ (f_X7_step  σ) := by
  refine k_MC_of ⟨by decide, by decide⟩ (Nat.le_of_ble_eq_true rfl) ?_
  show k_GO _ _ _ 0 [(0, k_rf E 67)] [] σ _
  unfold f_X7_step
  refine r_aload_n 0 rfl rfl 1 rfl dX7_step_0 ?_
  refine r_geti fl_X7_66 sh_67 rfl 4 rfl dX7_step_1 ?_
  refine r_if_le 8 7 rfl (by decide) dX7_step_4 (fun c1 => ?_) (fun c1 => ?_)
  · exact r_sub [0] rfl (gl_X7_step_8 E     1000   _)
  · exact r_vret rfl dX7_step_7
/-! HandMarketModel.nameHere()I -/
def j_X7_nameHere_106  (k2 : Int32 → k_Mem → Option (Int32 × k_Mem)) (x1 : Int32) (x2 : Int32) (σ : k_Mem) : Option (Int32 × k_Mem) :=
  if x2 = 0 then (
    k2 (x1 + 1) σ
  ) else (
    some (x1, σ)
  )
set_option maxRecDepth 100000 in
theorem gj_X7_nameHere_106 (E : k_EV)   (k2 : Int32 → k_Mem → Option (Int32 × k_Mem)) (hk2 : ∀ (x1 : Int32)  (σ : k_Mem), k_GO m_X7_nameHere E k_vi 2 [(0, k_rf E 67), (1, .int x1)] [] σ (k2 x1 σ)) (x1 : Int32) (x2 : Int32)  (σ : k_Mem) : k_GO m_X7_nameHere E k_vi 106 [(0, k_rf E 67), (1, .int x1), (2, .int x2)] [] σ (j_X7_nameHere_106  k2 x1 x2 σ) := by
  unfold j_X7_nameHere_106
  refine r_iload_n 2 rfl rfl 107 rfl dX7_nameHere_106 ?_
  refine r_if_eq 112 110 rfl (by decide) dX7_nameHere_107 (fun c5 => ?_) (fun c5 => ?_)
  · refine r_iinc 1 (by decide) 1 rfl [(1, .int _), (0, k_rf E 67), (2, .int _)] rfl (by decide) 115 rfl dX7_nameHere_112 ?_
    refine r_goto 2 (by decide) dX7_nameHere_115 ?_
    exact r_sub [1, 0] rfl (hk2 _  _)
  · refine r_iload_n 1 rfl rfl 111 rfl dX7_nameHere_110 ?_
    exact r_iret rfl dX7_nameHere_111
def j_X7_nameHere_99  (k2 : Int32 → k_Mem → Option (Int32 × k_Mem)) (k51 : Int32 → Int32 → Int32 → k_Mem → Option (Int32 × k_Mem)) (x1 : Int32) (x3 : Int32) (xs0 : Int32) (σ : k_Mem) : Option (Int32 × k_Mem) :=
  k51 x1 xs0 (x3 + 1) σ
set_option maxRecDepth 100000 in
theorem gj_X7_nameHere_99 (E : k_EV)   (k2 : Int32 → k_Mem → Option (Int32 × k_Mem)) (k51 : Int32 → Int32 → Int32 → k_Mem → Option (Int32 × k_Mem)) (hk2 : ∀ (x1 : Int32)  (σ : k_Mem), k_GO m_X7_nameHere E k_vi 2 [(0, k_rf E 67), (1, .int x1)] [] σ (k2 x1 σ)) (hk51 : ∀ (x1 : Int32) (x2 : Int32) (x3 : Int32)  (σ : k_Mem), k_GO m_X7_nameHere E k_vi 51 [(0, k_rf E 67), (1, .int x1), (2, .int x2), (3, .int x3)] [] σ (k51 x1 x2 x3 σ)) (x1 : Int32) (x3 : Int32) (xs0 : Int32)  (σ : k_Mem) : k_GO m_X7_nameHere E k_vi 99 [(0, k_rf E 67), (1, .int x1), (3, .int x3)] [.int xs0] σ (j_X7_nameHere_99  k2 k51 x1 x3 xs0 σ) := by
  unfold j_X7_nameHere_99
  refine r_istore_n [(2, .int _), (0, k_rf E 67), (1, .int _), (3, .int _)] rfl rfl (by decide) 100 rfl dX7_nameHere_99 ?_
  refine r_iinc 1 (by decide) 3 rfl [(3, .int _), (2, .int _), (0, k_rf E 67), (1, .int _)] rfl (by decide) 103 rfl dX7_nameHere_100 ?_
  refine r_goto 51 (by decide) dX7_nameHere_103 ?_
  exact r_sub [2, 3, 1, 0] rfl (hk51 _ _ _  _)
def l_X7_nameHere_51  (k2 : Int32 → k_Mem → Option (Int32 × k_Mem)) : Nat → Int32 → Int32 → Int32 → k_Mem → Option (Int32 × k_Mem)
  | 0, _, _, _, _ => none
  | n + 1, x1, x2, x3, σ =>
    if x2 = 0 then (
      j_X7_nameHere_106  k2 x1 x2 σ
    ) else (
      if ((σ 67 14) - (σ 67 15)) ≤ x3 then (
        j_X7_nameHere_106  k2 x1 x2 σ
      ) else (
        k_bd (f_X7_byteAt  ((σ 67 15) + x3) σ) (fun r7 σ7 =>
          if k_in x1 11 then (
            if k_in ((σ7 71 (k_n x1)) + x3) 45 then (
              if r7 = (σ7 72 (k_n ((σ7 71 (k_n x1)) + x3))) then (
                j_X7_nameHere_99  k2 (fun x1 x2 x3 σ => l_X7_nameHere_51  k2 n x1 x2 x3 σ) x1 x3 1 σ7
              ) else (
                j_X7_nameHere_99  k2 (fun x1 x2 x3 σ => l_X7_nameHere_51  k2 n x1 x2 x3 σ) x1 x3 0 σ7
              )
            ) else none
          ) else none
        )
      )
    )
set_option maxRecDepth 100000 in
theorem gl_X7_nameHere_51 (E : k_EV)   (k2 : Int32 → k_Mem → Option (Int32 × k_Mem)) (hk2 : ∀ (x1 : Int32)  (σ : k_Mem), k_GO m_X7_nameHere E k_vi 2 [(0, k_rf E 67), (1, .int x1)] [] σ (k2 x1 σ)) : ∀ (n : Nat) (x1 : Int32) (x2 : Int32) (x3 : Int32)  (σ : k_Mem), k_GO m_X7_nameHere E k_vi 51 [(0, k_rf E 67), (1, .int x1), (2, .int x2), (3, .int x3)] [] σ (l_X7_nameHere_51  k2 n x1 x2 x3 σ) := by
  intro n
  induction n with
  | zero => intro x1 x2 x3  σ; exact r_none
  | succ n ih =>
    intro x1 x2 x3  σ
    rw [l_X7_nameHere_51]
    refine r_iload_n 2 rfl rfl 52 rfl dX7_nameHere_51 ?_
    refine r_if_eq 106 55 rfl (by decide) dX7_nameHere_52 (fun c4 => ?_) (fun c4 => ?_)
    · exact r_sub [0, 1, 2] rfl (gj_X7_nameHere_106 E   _ hk2 _ _  _)
    · refine r_iload_n 3 rfl rfl 56 rfl dX7_nameHere_55 ?_
      refine r_aload_n 0 rfl rfl 57 rfl dX7_nameHere_56 ?_
      refine r_geti fl_X7_78 sh_67 rfl 60 rfl dX7_nameHere_57 ?_
      refine r_aload_n 0 rfl rfl 61 rfl dX7_nameHere_60 ?_
      refine r_geti fl_X7_69 sh_67 rfl 64 rfl dX7_nameHere_61 ?_
      refine r_isub 65 rfl dX7_nameHere_64 ?_
      refine r_icmp_ge 106 68 rfl (by decide) dX7_nameHere_65 (fun c6 => ?_) (fun c6 => ?_)
      · exact r_sub [0, 1, 2] rfl (gj_X7_nameHere_106 E   _ hk2 _ _  _)
      · refine r_aload_n 0 rfl rfl 69 rfl dX7_nameHere_68 ?_
        refine r_aload_n 0 rfl rfl 70 rfl dX7_nameHere_69 ?_
        refine r_geti fl_X7_69 sh_67 rfl 73 rfl dX7_nameHere_70 ?_
        refine r_iload_n 3 rfl rfl 74 rfl dX7_nameHere_73 ?_
        refine r_iadd 75 rfl dX7_nameHere_74 ?_
        refine r_calli (c_X7_byteAt E   _ _) rfl sh_67 rfl ml_X7_81 cw_X7_byteAt vw_X7_byteAt (by decide) (Nat.le_of_ble_eq_true rfl) 78 rfl dX7_nameHere_75 (fun r7 σ7 => ?_)
        refine r_aload_n 0 rfl rfl 79 rfl dX7_nameHere_78 ?_
        refine r_getr fl_X7_22 sh_67 rfl 82 rfl dX7_nameHere_79 ?_
        refine r_aload_n 0 rfl rfl 83 rfl dX7_nameHere_82 ?_
        refine r_getr fl_X7_19 sh_67 rfl 86 rfl dX7_nameHere_83 ?_
        refine r_iload_n 1 rfl rfl 87 rfl dX7_nameHere_86 ?_
        refine r_iald sh_71 88 rfl dX7_nameHere_87 ?_
        refine r_iload_n 3 rfl rfl 89 rfl dX7_nameHere_88 ?_
        refine r_iadd 90 rfl dX7_nameHere_89 ?_
        refine r_iald sh_72 91 rfl dX7_nameHere_90 ?_
        refine r_icmp_ne 98 94 rfl (by decide) dX7_nameHere_91 (fun c8 => ?_) (fun c8 => ?_)
        · refine r_iconst 1 (by decide) 95 rfl dX7_nameHere_94 ?_
          refine r_goto 99 (by decide) dX7_nameHere_95 ?_
          exact r_sub [0, 1, 3] rfl (gj_X7_nameHere_99 E   _ _ hk2 (fun x1 x2 x3  σ => ih x1 x2 x3  σ) _ _ _  _)
        · refine r_iconst 0 (by decide) 99 rfl dX7_nameHere_98 ?_
          exact r_sub [0, 1, 3] rfl (gj_X7_nameHere_99 E   _ _ hk2 (fun x1 x2 x3  σ => ih x1 x2 x3  σ) _ _ _  _)
def j_X7_nameHere_48  (k2 : Int32 → k_Mem → Option (Int32 × k_Mem)) (x1 : Int32) (xs0 : Int32) (σ : k_Mem) : Option (Int32 × k_Mem) :=
  l_X7_nameHere_51  k2 1000 x1 xs0 0 σ
set_option maxRecDepth 100000 in
theorem gj_X7_nameHere_48 (E : k_EV)   (k2 : Int32 → k_Mem → Option (Int32 × k_Mem)) (hk2 : ∀ (x1 : Int32)  (σ : k_Mem), k_GO m_X7_nameHere E k_vi 2 [(0, k_rf E 67), (1, .int x1)] [] σ (k2 x1 σ)) (x1 : Int32) (xs0 : Int32)  (σ : k_Mem) : k_GO m_X7_nameHere E k_vi 48 [(0, k_rf E 67), (1, .int x1)] [.int xs0] σ (j_X7_nameHere_48  k2 x1 xs0 σ) := by
  unfold j_X7_nameHere_48
  refine r_istore_n [(2, .int _), (0, k_rf E 67), (1, .int _)] rfl rfl (by decide) 49 rfl dX7_nameHere_48 ?_
  refine r_iconst 0 (by decide) 50 rfl dX7_nameHere_49 ?_
  refine r_istore_n [(3, .int _), (2, .int _), (0, k_rf E 67), (1, .int _)] rfl rfl (by decide) 51 rfl dX7_nameHere_50 ?_
  exact r_sub [2, 3, 1, 0] rfl (gl_X7_nameHere_51 E   _ hk2 1000 _ _ _  _)
def l_X7_nameHere_2   : Nat → Int32 → k_Mem → Option (Int32 × k_Mem)
  | 0, _, _ => none
  | n + 1, x1, σ =>
    if 10 ≤ x1 then (
      some ((-4), σ)
    ) else (
      if (σ 67 16) = 1 then (
        if k_in (x1 + 1) 11 then (
          if k_in x1 11 then (
            if ((σ 67 14) - (σ 67 15)) = ((σ 71 (k_n (x1 + 1))) - (σ 71 (k_n x1))) then (
              j_X7_nameHere_48  (fun x1 σ => l_X7_nameHere_2   n x1 σ) x1 1 σ
            ) else (
              j_X7_nameHere_48  (fun x1 σ => l_X7_nameHere_2   n x1 σ) x1 0 σ
            )
          ) else none
        ) else none
      ) else (
        some ((-4), σ)
      )
    )
set_option maxRecDepth 100000 in
theorem gl_X7_nameHere_2 (E : k_EV)     : ∀ (n : Nat) (x1 : Int32)  (σ : k_Mem), k_GO m_X7_nameHere E k_vi 2 [(0, k_rf E 67), (1, .int x1)] [] σ (l_X7_nameHere_2   n x1 σ) := by
  intro n
  induction n with
  | zero => intro x1  σ; exact r_none
  | succ n ih =>
    intro x1  σ
    rw [l_X7_nameHere_2]
    refine r_iload_n 1 rfl rfl 3 rfl dX7_nameHere_2 ?_
    refine r_bipush 10 (by decide) 5 rfl dX7_nameHere_3 ?_
    refine r_icmp_ge 118 8 rfl (by decide) dX7_nameHere_5 (fun c1 => ?_) (fun c1 => ?_)
    · refine r_bipush (-4) (by decide) 120 rfl dX7_nameHere_118 ?_
      exact r_iret rfl dX7_nameHere_120
    · refine r_aload_n 0 rfl rfl 9 rfl dX7_nameHere_8 ?_
      refine r_geti fl_X7_75 sh_67 rfl 12 rfl dX7_nameHere_9 ?_
      refine r_iconst 1 (by decide) 13 rfl dX7_nameHere_12 ?_
      refine r_icmp_ne 118 16 rfl (by decide) dX7_nameHere_13 (fun c2 => ?_) (fun c2 => ?_)
      · refine r_aload_n 0 rfl rfl 17 rfl dX7_nameHere_16 ?_
        refine r_geti fl_X7_78 sh_67 rfl 20 rfl dX7_nameHere_17 ?_
        refine r_aload_n 0 rfl rfl 21 rfl dX7_nameHere_20 ?_
        refine r_geti fl_X7_69 sh_67 rfl 24 rfl dX7_nameHere_21 ?_
        refine r_isub 25 rfl dX7_nameHere_24 ?_
        refine r_aload_n 0 rfl rfl 26 rfl dX7_nameHere_25 ?_
        refine r_getr fl_X7_19 sh_67 rfl 29 rfl dX7_nameHere_26 ?_
        refine r_iload_n 1 rfl rfl 30 rfl dX7_nameHere_29 ?_
        refine r_iconst 1 (by decide) 31 rfl dX7_nameHere_30 ?_
        refine r_iadd 32 rfl dX7_nameHere_31 ?_
        refine r_iald sh_71 33 rfl dX7_nameHere_32 ?_
        refine r_aload_n 0 rfl rfl 34 rfl dX7_nameHere_33 ?_
        refine r_getr fl_X7_19 sh_67 rfl 37 rfl dX7_nameHere_34 ?_
        refine r_iload_n 1 rfl rfl 38 rfl dX7_nameHere_37 ?_
        refine r_iald sh_71 39 rfl dX7_nameHere_38 ?_
        refine r_isub 40 rfl dX7_nameHere_39 ?_
        refine r_icmp_ne 47 43 rfl (by decide) dX7_nameHere_40 (fun c3 => ?_) (fun c3 => ?_)
        · refine r_iconst 1 (by decide) 44 rfl dX7_nameHere_43 ?_
          refine r_goto 48 (by decide) dX7_nameHere_44 ?_
          exact r_sub [0, 1] rfl (gj_X7_nameHere_48 E   _ (fun x1  σ => ih x1  σ) _ _  _)
        · refine r_iconst 0 (by decide) 48 rfl dX7_nameHere_47 ?_
          exact r_sub [0, 1] rfl (gj_X7_nameHere_48 E   _ (fun x1  σ => ih x1  σ) _ _  _)
      · refine r_bipush (-4) (by decide) 120 rfl dX7_nameHere_118 ?_
        exact r_iret rfl dX7_nameHere_120
def f_X7_nameHere   (σ : k_Mem) : Option (Int32 × k_Mem) :=
  l_X7_nameHere_2   1000 0 σ
set_option maxRecDepth 100000 in
theorem c_X7_nameHere (E : k_EV)    (σ : k_Mem) : k_MC m_X7_nameHere E k_vi [k_rf E 67] σ (f_X7_nameHere  σ) := by
  refine k_MC_of ⟨by decide, by decide⟩ (Nat.le_of_ble_eq_true rfl) ?_
  show k_GO _ _ _ 0 [(0, k_rf E 67)] [] σ _
  unfold f_X7_nameHere
  refine r_iconst 0 (by decide) 1 rfl dX7_nameHere_0 ?_
  refine r_istore_n [(1, .int _), (0, k_rf E 67)] rfl rfl (by decide) 2 rfl dX7_nameHere_1 ?_
  exact r_sub [1, 0] rfl (gl_X7_nameHere_2 E     1000 _  _)
/-! HandMarketModel.other(III)I -/
def j_X7_other_86   (xs0 : Int32) (σ : k_Mem) : Option (Int32 × k_Mem) :=
  k_bd (f_X7_step   σ) (fun _ σ11 =>
    some (xs0, σ11)
  )
set_option maxRecDepth 100000 in
theorem gj_X7_other_86 (E : k_EV)     (xs0 : Int32)  (σ : k_Mem) : k_GO m_X7_other E k_vi 86 [(0, k_rf E 67)] [.int xs0] σ (j_X7_other_86   xs0 σ) := by
  unfold j_X7_other_86
  refine r_istore [(4, .int _), (0, k_rf E 67)] rfl (by decide) 88 rfl dX7_other_86 ?_
  refine r_aload_n 1 rfl rfl 89 rfl dX7_other_88 ?_
  refine r_callv (c_X7_step E    _) rfl sh_67 rfl ml_X7_100 cw_X7_step vw_X7_step (by decide) (Nat.le_of_ble_eq_true rfl) 92 rfl dX7_other_89 (fun _ σ11 => ?_)
  refine r_iload 0 rfl 94 rfl dX7_other_92 ?_
  exact r_iret rfl dX7_other_94
def j_X7_other_71   (x1 : Int32) (σ : k_Mem) : Option (Int32 × k_Mem) :=
  if (σ 67 12) = 0 then (
    j_X7_other_86   (σ 67 17) σ
  ) else (
    j_X7_other_86   x1 σ
  )
set_option maxRecDepth 100000 in
theorem gj_X7_other_71 (E : k_EV)     (x1 : Int32)  (σ : k_Mem) : k_GO m_X7_other E k_vi 71 [(0, k_rf E 67), (1, .int x1)] [] σ (j_X7_other_71   x1 σ) := by
  unfold j_X7_other_71
  refine r_aload_n 0 rfl rfl 72 rfl dX7_other_71 ?_
  refine r_geti fl_X7_66 sh_67 rfl 75 rfl dX7_other_72 ?_
  refine r_if_ne 85 78 rfl (by decide) dX7_other_75 (fun c10 => ?_) (fun c10 => ?_)
  · refine r_aload_n 0 rfl rfl 79 rfl dX7_other_78 ?_
    refine r_geti fl_X7_85 sh_67 rfl 82 rfl dX7_other_79 ?_
    refine r_goto 86 (by decide) dX7_other_82 ?_
    exact r_sub [0] rfl (gj_X7_other_86 E     _  _)
  · refine r_iload_n 1 rfl rfl 86 rfl dX7_other_85 ?_
    exact r_sub [0] rfl (gj_X7_other_86 E     _  _)
def j_X7_other_47   (x1 : Int32) (x3 : Int32) (σ : k_Mem) : Option (Int32 × k_Mem) :=
  if (σ 67 12) = 0 then (
    if ((k_shr x3 (σ 67 17)) &&& 1) = 1 then (
      k_bd (f_X7_fails  4 σ) (fun _ σ9 =>
        j_X7_other_71   x1 σ9
      )
    ) else (
      j_X7_other_71   x1 σ
    )
  ) else (
    j_X7_other_71   x1 σ
  )
set_option maxRecDepth 100000 in
theorem gj_X7_other_47 (E : k_EV)     (x1 : Int32) (x3 : Int32)  (σ : k_Mem) : k_GO m_X7_other E k_vi 47 [(0, k_rf E 67), (1, .int x1), (3, .int x3)] [] σ (j_X7_other_47   x1 x3 σ) := by
  unfold j_X7_other_47
  refine r_aload_n 0 rfl rfl 48 rfl dX7_other_47 ?_
  refine r_geti fl_X7_66 sh_67 rfl 51 rfl dX7_other_48 ?_
  refine r_if_ne 71 54 rfl (by decide) dX7_other_51 (fun c7 => ?_) (fun c7 => ?_)
  · refine r_iload_n 2 rfl rfl 55 rfl dX7_other_54 ?_
    refine r_aload_n 0 rfl rfl 56 rfl dX7_other_55 ?_
    refine r_geti fl_X7_85 sh_67 rfl 59 rfl dX7_other_56 ?_
    refine r_ishr 60 rfl dX7_other_59 ?_
    refine r_iconst 1 (by decide) 61 rfl dX7_other_60 ?_
    refine r_iand 62 rfl dX7_other_61 ?_
    refine r_iconst 1 (by decide) 63 rfl dX7_other_62 ?_
    refine r_icmp_ne 71 66 rfl (by decide) dX7_other_63 (fun c8 => ?_) (fun c8 => ?_)
    · refine r_aload_n 0 rfl rfl 67 rfl dX7_other_66 ?_
      refine r_iconst 4 (by decide) 68 rfl dX7_other_67 ?_
      refine r_callv (c_X7_fails E   _ _) rfl sh_67 rfl ml_X7_96 cw_X7_fails vw_X7_fails (by decide) (Nat.le_of_ble_eq_true rfl) 71 rfl dX7_other_68 (fun _ σ9 => ?_)
      exact r_sub [0, 1] rfl (gj_X7_other_71 E     _  _)
    · exact r_sub [0, 1] rfl (gj_X7_other_71 E     _  _)
  · exact r_sub [0, 1] rfl (gj_X7_other_71 E     _  _)
def j_X7_other_20   (x1 : Int32) (x2 : Int32) (x3 : Int32) (σ : k_Mem) : Option (Int32 × k_Mem) :=
  if (σ 67 12) = 0 then (
    k_bd (f_X7_in  (Int32.toInt64 (σ 67 17)) (Int32.toInt64 x1) (Int32.toInt64 x2) σ) (fun r4 σ4 =>
      if r4 = 0 then (
        k_bd (f_X7_fails  3 σ4) (fun _ σ6 =>
          j_X7_other_47   x1 x3 σ6
        )
      ) else (
        j_X7_other_47   x1 x3 σ4
      )
    )
  ) else (
    j_X7_other_47   x1 x3 σ
  )
set_option maxRecDepth 100000 in
theorem gj_X7_other_20 (E : k_EV)     (x1 : Int32) (x2 : Int32) (x3 : Int32)  (σ : k_Mem) : k_GO m_X7_other E k_vi 20 [(0, k_rf E 67), (1, .int x1), (2, .int x2), (3, .int x3)] [] σ (j_X7_other_20   x1 x2 x3 σ) := by
  unfold j_X7_other_20
  refine r_aload_n 0 rfl rfl 21 rfl dX7_other_20 ?_
  refine r_geti fl_X7_66 sh_67 rfl 24 rfl dX7_other_21 ?_
  refine r_if_ne 47 27 rfl (by decide) dX7_other_24 (fun c3 => ?_) (fun c3 => ?_)
  · refine r_aload_n 0 rfl rfl 28 rfl dX7_other_27 ?_
    refine r_geti fl_X7_85 sh_67 rfl 31 rfl dX7_other_28 ?_
    refine r_i2l 32 rfl dX7_other_31 ?_
    refine r_iload_n 1 rfl rfl 33 rfl dX7_other_32 ?_
    refine r_i2l 34 rfl dX7_other_33 ?_
    refine r_iload_n 2 rfl rfl 35 rfl dX7_other_34 ?_
    refine r_i2l 36 rfl dX7_other_35 ?_
    refine r_callsi (c_X7_in E   _ _ _ _) rfl ml_X7_58 cw_X7_in sw_X7_in (by decide) (Nat.le_of_ble_eq_true rfl) 39 rfl dX7_other_36 (fun r4 σ4 => ?_)
    refine r_if_ne 47 42 rfl (by decide) dX7_other_39 (fun c5 => ?_) (fun c5 => ?_)
    · refine r_aload_n 0 rfl rfl 43 rfl dX7_other_42 ?_
      refine r_iconst 3 (by decide) 44 rfl dX7_other_43 ?_
      refine r_callv (c_X7_fails E   _ _) rfl sh_67 rfl ml_X7_96 cw_X7_fails vw_X7_fails (by decide) (Nat.le_of_ble_eq_true rfl) 47 rfl dX7_other_44 (fun _ σ6 => ?_)
      exact r_sub [0, 1, 3] rfl (gj_X7_other_47 E     _ _  _)
    · exact r_sub [0, 1, 3] rfl (gj_X7_other_47 E     _ _  _)
  · exact r_sub [0, 1, 3] rfl (gj_X7_other_47 E     _ _  _)
def f_X7_other  (x1 : Int32) (x2 : Int32) (x3 : Int32) (σ : k_Mem) : Option (Int32 × k_Mem) :=
  if (σ 67 12) = 0 then (
    if (σ 67 16) = 2 then (
      j_X7_other_20   x1 x2 x3 σ
    ) else (
      k_bd (f_X7_fails  2 σ) (fun _ σ12 =>
        j_X7_other_20   x1 x2 x3 σ12
      )
    )
  ) else (
    j_X7_other_20   x1 x2 x3 σ
  )
set_option maxRecDepth 100000 in
theorem c_X7_other (E : k_EV)   (x1 : Int32) (x2 : Int32) (x3 : Int32) (σ : k_Mem) : k_MC m_X7_other E k_vi [k_rf E 67, .int x1, .int x2, .int x3] σ (f_X7_other x1 x2 x3 σ) := by
  refine k_MC_of ⟨by decide, by decide⟩ (Nat.le_of_ble_eq_true rfl) ?_
  show k_GO _ _ _ 0 [(0, k_rf E 67), (1, .int x1), (2, .int x2), (3, .int x3)] [] σ _
  unfold f_X7_other
  refine r_aload_n 0 rfl rfl 1 rfl dX7_other_0 ?_
  refine r_geti fl_X7_66 sh_67 rfl 4 rfl dX7_other_1 ?_
  refine r_if_ne 20 7 rfl (by decide) dX7_other_4 (fun c1 => ?_) (fun c1 => ?_)
  · refine r_aload_n 0 rfl rfl 8 rfl dX7_other_7 ?_
    refine r_geti fl_X7_75 sh_67 rfl 11 rfl dX7_other_8 ?_
    refine r_iconst 2 (by decide) 12 rfl dX7_other_11 ?_
    refine r_icmp_eq 20 15 rfl (by decide) dX7_other_12 (fun c2 => ?_) (fun c2 => ?_)
    · exact r_sub [0, 1, 2, 3] rfl (gj_X7_other_20 E     _ _ _  _)
    · refine r_aload_n 0 rfl rfl 16 rfl dX7_other_15 ?_
      refine r_iconst 2 (by decide) 17 rfl dX7_other_16 ?_
      refine r_callv (c_X7_fails E   _ _) rfl sh_67 rfl ml_X7_96 cw_X7_fails vw_X7_fails (by decide) (Nat.le_of_ble_eq_true rfl) 20 rfl dX7_other_17 (fun _ σ12 => ?_)
      exact r_sub [0, 1, 2, 3] rfl (gj_X7_other_20 E     _ _ _  _)
  · exact r_sub [0, 1, 2, 3] rfl (gj_X7_other_20 E     _ _ _  _)
/-! HandMarketModel.readHand(I)V -/
def j_X7_readHand_162   (x2 : Int32) (xs1 : Int32) (xs2 : Int32) (σ : k_Mem) : Option (Unit × k_Mem) :=
  some ((), (k_mset (k_mset σ 67 4 (xs1 + xs2)) 67 5 (((k_mset σ 67 4 (xs1 + xs2)) 67 5) + x2)))
set_option maxRecDepth 100000 in
theorem gj_X7_readHand_162 (E : k_EV)     (x2 : Int32) (xs1 : Int32) (xs2 : Int32)  (σ : k_Mem) : k_GO m_X7_readHand E k_vv 162 [(0, k_rf E 67), (2, .int x2)] [.int xs2, .int xs1, k_rf E 67] σ (j_X7_readHand_162   x2 xs1 xs2 σ) := by
  unfold j_X7_readHand_162
  refine r_iadd 163 rfl dX7_readHand_162 ?_
  refine r_puti fp_X7_114 sh_67 rfl 166 rfl dX7_readHand_163 ?_
  refine r_aload_n 0 rfl rfl 167 rfl dX7_readHand_166 ?_
  refine r_dup 168 rfl dX7_readHand_167 rfl ?_
  refine r_geti fl_X7_117 sh_67 rfl 171 rfl dX7_readHand_168 ?_
  refine r_iload_n 1 rfl rfl 172 rfl dX7_readHand_171 ?_
  refine r_iadd 173 rfl dX7_readHand_172 ?_
  refine r_puti fp_X7_117 sh_67 rfl 176 rfl dX7_readHand_173 ?_
  exact r_vret rfl dX7_readHand_176
def j_X7_readHand_90   (x1 : Int32) (x2 : Int32) (xs0 : Int32) (σ : k_Mem) : Option (Unit × k_Mem) :=
  if k_in xs0 50 then (
    k_bd (f_X7_other  0 9 0 (k_mset σ 69 (k_n xs0) x1)) (fun r13 σ13 =>
      if k_in (8 + xs0) 50 then (
        k_bd (f_X7_other  0 9 0 (k_mset σ13 69 (k_n (8 + xs0)) r13)) (fun r14 σ14 =>
          if k_in (16 + xs0) 50 then (
            k_bd (f_X7_other  0 2 0 (k_mset σ14 69 (k_n (16 + xs0)) r14)) (fun r15 σ15 =>
              if k_in (24 + xs0) 50 then (
                if x2 = 0 then (
                  j_X7_readHand_162   x2 ((k_mset σ15 69 (k_n (24 + xs0)) r15) 67 4) 1 (k_mset σ15 69 (k_n (24 + xs0)) r15)
                ) else (
                  j_X7_readHand_162   x2 ((k_mset σ15 69 (k_n (24 + xs0)) r15) 67 4) 0 (k_mset σ15 69 (k_n (24 + xs0)) r15)
                )
              ) else none
            )
          ) else none
        )
      ) else none
    )
  ) else none
set_option maxRecDepth 100000 in
theorem gj_X7_readHand_90 (E : k_EV)     (x1 : Int32) (x2 : Int32) (xs0 : Int32)  (σ : k_Mem) : k_GO m_X7_readHand E k_vv 90 [(0, k_rf E 67), (1, .int x1), (2, .int x2)] [.int xs0] σ (j_X7_readHand_90   x1 x2 xs0 σ) := by
  unfold j_X7_readHand_90
  refine r_istore_n [(3, .int _), (0, k_rf E 67), (1, .int _), (2, .int _)] rfl rfl (by decide) 91 rfl dX7_readHand_90 ?_
  refine r_aload_n 1 rfl rfl 92 rfl dX7_readHand_91 ?_
  refine r_getr fl_X7_13 sh_67 rfl 95 rfl dX7_readHand_92 ?_
  refine r_iload_n 0 rfl rfl 96 rfl dX7_readHand_95 ?_
  refine r_iload_n 2 rfl rfl 97 rfl dX7_readHand_96 ?_
  refine r_iast sh_69 98 rfl dX7_readHand_97 ?_
  refine r_aload_n 1 rfl rfl 99 rfl dX7_readHand_98 ?_
  refine r_getr fl_X7_13 sh_67 rfl 102 rfl dX7_readHand_99 ?_
  refine r_bipush 8 (by decide) 104 rfl dX7_readHand_102 ?_
  refine r_iload_n 0 rfl rfl 105 rfl dX7_readHand_104 ?_
  refine r_iadd 106 rfl dX7_readHand_105 ?_
  refine r_aload_n 1 rfl rfl 107 rfl dX7_readHand_106 ?_
  refine r_iconst 0 (by decide) 108 rfl dX7_readHand_107 ?_
  refine r_bipush 9 (by decide) 110 rfl dX7_readHand_108 ?_
  refine r_iconst 0 (by decide) 111 rfl dX7_readHand_110 ?_
  refine r_calli (c_X7_other E   _ _ _ _) rfl sh_67 rfl ml_X7_103 cw_X7_other vw_X7_other (by decide) (Nat.le_of_ble_eq_true rfl) 114 rfl dX7_readHand_111 (fun r13 σ13 => ?_)
  refine r_iast sh_69 115 rfl dX7_readHand_114 ?_
  refine r_aload_n 1 rfl rfl 116 rfl dX7_readHand_115 ?_
  refine r_getr fl_X7_13 sh_67 rfl 119 rfl dX7_readHand_116 ?_
  refine r_bipush 16 (by decide) 121 rfl dX7_readHand_119 ?_
  refine r_iload_n 0 rfl rfl 122 rfl dX7_readHand_121 ?_
  refine r_iadd 123 rfl dX7_readHand_122 ?_
  refine r_aload_n 1 rfl rfl 124 rfl dX7_readHand_123 ?_
  refine r_iconst 0 (by decide) 125 rfl dX7_readHand_124 ?_
  refine r_bipush 9 (by decide) 127 rfl dX7_readHand_125 ?_
  refine r_iconst 0 (by decide) 128 rfl dX7_readHand_127 ?_
  refine r_calli (c_X7_other E   _ _ _ _) rfl sh_67 rfl ml_X7_103 cw_X7_other vw_X7_other (by decide) (Nat.le_of_ble_eq_true rfl) 131 rfl dX7_readHand_128 (fun r14 σ14 => ?_)
  refine r_iast sh_69 132 rfl dX7_readHand_131 ?_
  refine r_aload_n 1 rfl rfl 133 rfl dX7_readHand_132 ?_
  refine r_getr fl_X7_13 sh_67 rfl 136 rfl dX7_readHand_133 ?_
  refine r_bipush 24 (by decide) 138 rfl dX7_readHand_136 ?_
  refine r_iload_n 0 rfl rfl 139 rfl dX7_readHand_138 ?_
  refine r_iadd 140 rfl dX7_readHand_139 ?_
  refine r_aload_n 1 rfl rfl 141 rfl dX7_readHand_140 ?_
  refine r_iconst 0 (by decide) 142 rfl dX7_readHand_141 ?_
  refine r_iconst 2 (by decide) 143 rfl dX7_readHand_142 ?_
  refine r_iconst 0 (by decide) 144 rfl dX7_readHand_143 ?_
  refine r_calli (c_X7_other E   _ _ _ _) rfl sh_67 rfl ml_X7_103 cw_X7_other vw_X7_other (by decide) (Nat.le_of_ble_eq_true rfl) 147 rfl dX7_readHand_144 (fun r15 σ15 => ?_)
  refine r_iast sh_69 148 rfl dX7_readHand_147 ?_
  refine r_aload_n 1 rfl rfl 149 rfl dX7_readHand_148 ?_
  refine r_dup 150 rfl dX7_readHand_149 rfl ?_
  refine r_geti fl_X7_114 sh_67 rfl 153 rfl dX7_readHand_150 ?_
  refine r_iload_n 3 rfl rfl 154 rfl dX7_readHand_153 ?_
  refine r_if_ne 161 157 rfl (by decide) dX7_readHand_154 (fun c16 => ?_) (fun c16 => ?_)
  · refine r_iconst 1 (by decide) 158 rfl dX7_readHand_157 ?_
    refine r_goto 162 (by decide) dX7_readHand_158 ?_
    exact r_sub [1, 3] rfl (gj_X7_readHand_162 E     _ _ _  _)
  · refine r_iconst 0 (by decide) 162 rfl dX7_readHand_161 ?_
    exact r_sub [1, 3] rfl (gj_X7_readHand_162 E     _ _ _  _)
def j_X7_readHand_61   (x1 : Int32) (x2 : Int32) (σ : k_Mem) : Option (Unit × k_Mem) :=
  if (σ 67 12) ≤ 0 then (
    k_bd (f_X7_step   σ) (fun _ σ11 =>
      if x2 = 0 then (
        j_X7_readHand_90   x1 x2 (σ11 67 4) σ11
      ) else (
        j_X7_readHand_90   x1 x2 (4 + (σ11 67 5)) σ11
      )
    )
  ) else (
    some ((), σ)
  )
set_option maxRecDepth 100000 in
theorem gj_X7_readHand_61 (E : k_EV)     (x1 : Int32) (x2 : Int32)  (σ : k_Mem) : k_GO m_X7_readHand E k_vv 61 [(0, k_rf E 67), (1, .int x1), (2, .int x2)] [] σ (j_X7_readHand_61   x1 x2 σ) := by
  unfold j_X7_readHand_61
  refine r_aload_n 0 rfl rfl 62 rfl dX7_readHand_61 ?_
  refine r_geti fl_X7_66 sh_67 rfl 65 rfl dX7_readHand_62 ?_
  refine r_if_le 69 68 rfl (by decide) dX7_readHand_65 (fun c10 => ?_) (fun c10 => ?_)
  · refine r_aload_n 0 rfl rfl 70 rfl dX7_readHand_69 ?_
    refine r_callv (c_X7_step E    _) rfl sh_67 rfl ml_X7_100 cw_X7_step vw_X7_step (by decide) (Nat.le_of_ble_eq_true rfl) 73 rfl dX7_readHand_70 (fun _ σ11 => ?_)
    refine r_iload_n 2 rfl rfl 74 rfl dX7_readHand_73 ?_
    refine r_if_ne 84 77 rfl (by decide) dX7_readHand_74 (fun c12 => ?_) (fun c12 => ?_)
    · refine r_aload_n 0 rfl rfl 78 rfl dX7_readHand_77 ?_
      refine r_geti fl_X7_114 sh_67 rfl 81 rfl dX7_readHand_78 ?_
      refine r_goto 90 (by decide) dX7_readHand_81 ?_
      exact r_sub [0, 1, 2] rfl (gj_X7_readHand_90 E     _ _ _  _)
    · refine r_iconst 4 (by decide) 85 rfl dX7_readHand_84 ?_
      refine r_aload_n 0 rfl rfl 86 rfl dX7_readHand_85 ?_
      refine r_geti fl_X7_117 sh_67 rfl 89 rfl dX7_readHand_86 ?_
      refine r_iadd 90 rfl dX7_readHand_89 ?_
      exact r_sub [0, 1, 2] rfl (gj_X7_readHand_90 E     _ _ _  _)
  · exact r_vret rfl dX7_readHand_68
def j_X7_readHand_52   (x1 : Int32) (x2 : Int32) (xs0 : Int32) (σ : k_Mem) : Option (Unit × k_Mem) :=
  if xs0 = 4 then (
    k_bd (f_X7_fails  5 σ) (fun _ σ9 =>
      j_X7_readHand_61   x1 x2 σ9
    )
  ) else (
    j_X7_readHand_61   x1 x2 σ
  )
set_option maxRecDepth 100000 in
theorem gj_X7_readHand_52 (E : k_EV)     (x1 : Int32) (x2 : Int32) (xs0 : Int32)  (σ : k_Mem) : k_GO m_X7_readHand E k_vv 52 [(0, k_rf E 67), (1, .int x1), (2, .int x2)] [.int xs0] σ (j_X7_readHand_52   x1 x2 xs0 σ) := by
  unfold j_X7_readHand_52
  refine r_iconst 4 (by decide) 53 rfl dX7_readHand_52 ?_
  refine r_icmp_ne 61 56 rfl (by decide) dX7_readHand_53 (fun c8 => ?_) (fun c8 => ?_)
  · refine r_aload_n 0 rfl rfl 57 rfl dX7_readHand_56 ?_
    refine r_iconst 5 (by decide) 58 rfl dX7_readHand_57 ?_
    refine r_callv (c_X7_fails E   _ _) rfl sh_67 rfl ml_X7_96 cw_X7_fails vw_X7_fails (by decide) (Nat.le_of_ble_eq_true rfl) 61 rfl dX7_readHand_58 (fun _ σ9 => ?_)
    exact r_sub [0, 1, 2] rfl (gj_X7_readHand_61 E     _ _  _)
  · exact r_sub [0, 1, 2] rfl (gj_X7_readHand_61 E     _ _  _)
def j_X7_readHand_30   (x1 : Int32) (x2 : Int32) (σ : k_Mem) : Option (Unit × k_Mem) :=
  if (σ 67 12) = 0 then (
    if x2 = 0 then (
      j_X7_readHand_52   x1 x2 (σ 67 4) σ
    ) else (
      j_X7_readHand_52   x1 x2 (σ 67 5) σ
    )
  ) else (
    j_X7_readHand_61   x1 x2 σ
  )
set_option maxRecDepth 100000 in
theorem gj_X7_readHand_30 (E : k_EV)     (x1 : Int32) (x2 : Int32)  (σ : k_Mem) : k_GO m_X7_readHand E k_vv 30 [(0, k_rf E 67), (1, .int x1), (2, .int x2)] [] σ (j_X7_readHand_30   x1 x2 σ) := by
  unfold j_X7_readHand_30
  refine r_aload_n 0 rfl rfl 31 rfl dX7_readHand_30 ?_
  refine r_geti fl_X7_66 sh_67 rfl 34 rfl dX7_readHand_31 ?_
  refine r_if_ne 61 37 rfl (by decide) dX7_readHand_34 (fun c6 => ?_) (fun c6 => ?_)
  · refine r_iload_n 2 rfl rfl 38 rfl dX7_readHand_37 ?_
    refine r_if_ne 48 41 rfl (by decide) dX7_readHand_38 (fun c7 => ?_) (fun c7 => ?_)
    · refine r_aload_n 0 rfl rfl 42 rfl dX7_readHand_41 ?_
      refine r_geti fl_X7_114 sh_67 rfl 45 rfl dX7_readHand_42 ?_
      refine r_goto 52 (by decide) dX7_readHand_45 ?_
      exact r_sub [0, 1, 2] rfl (gj_X7_readHand_52 E     _ _ _  _)
    · refine r_aload_n 0 rfl rfl 49 rfl dX7_readHand_48 ?_
      refine r_geti fl_X7_117 sh_67 rfl 52 rfl dX7_readHand_49 ?_
      exact r_sub [0, 1, 2] rfl (gj_X7_readHand_52 E     _ _ _  _)
  · exact r_sub [0, 1, 2] rfl (gj_X7_readHand_61 E     _ _  _)
def f_X7_readHand  (x1 : Int32) (σ : k_Mem) : Option (Unit × k_Mem) :=
  k_bd (f_X7_nameHere   σ) (fun r1 σ1 =>
    if (σ1 67 12) = 0 then (
      k_bd (f_X7_in  (Int32.toInt64 (r1 - 8)) 0 1 σ1) (fun r3 σ3 =>
        if r3 = 0 then (
          k_bd (f_X7_fails  2 σ3) (fun _ σ5 =>
            j_X7_readHand_30   x1 (r1 - 8) σ5
          )
        ) else (
          j_X7_readHand_30   x1 (r1 - 8) σ3
        )
      )
    ) else (
      j_X7_readHand_30   x1 (r1 - 8) σ1
    )
  )
set_option maxRecDepth 100000 in
theorem c_X7_readHand (E : k_EV)   (x1 : Int32) (σ : k_Mem) : k_MC m_X7_readHand E k_vv [k_rf E 67, .int x1] σ (f_X7_readHand x1 σ) := by
  refine k_MC_of ⟨by decide, by decide⟩ (Nat.le_of_ble_eq_true rfl) ?_
  show k_GO _ _ _ 0 [(0, k_rf E 67), (1, .int x1)] [] σ _
  unfold f_X7_readHand
  refine r_aload_n 0 rfl rfl 1 rfl dX7_readHand_0 ?_
  refine r_calli (c_X7_nameHere E    _) rfl sh_67 rfl ml_X7_110 cw_X7_nameHere vw_X7_nameHere (by decide) (Nat.le_of_ble_eq_true rfl) 4 rfl dX7_readHand_1 (fun r1 σ1 => ?_)
  refine r_bipush 8 (by decide) 6 rfl dX7_readHand_4 ?_
  refine r_isub 7 rfl dX7_readHand_6 ?_
  refine r_istore_n [(2, .int _), (0, k_rf E 67), (1, .int _)] rfl rfl (by decide) 8 rfl dX7_readHand_7 ?_
  refine r_aload_n 1 rfl rfl 9 rfl dX7_readHand_8 ?_
  refine r_geti fl_X7_66 sh_67 rfl 12 rfl dX7_readHand_9 ?_
  refine r_if_ne 30 15 rfl (by decide) dX7_readHand_12 (fun c2 => ?_) (fun c2 => ?_)
  · refine r_iload_n 0 rfl rfl 16 rfl dX7_readHand_15 ?_
    refine r_i2l 17 rfl dX7_readHand_16 ?_
    refine r_lconst 0 (by decide) 18 rfl dX7_readHand_17 ?_
    refine r_lconst 1 (by decide) 19 rfl dX7_readHand_18 ?_
    refine r_callsi (c_X7_in E   _ _ _ _) rfl ml_X7_58 cw_X7_in sw_X7_in (by decide) (Nat.le_of_ble_eq_true rfl) 22 rfl dX7_readHand_19 (fun r3 σ3 => ?_)
    refine r_if_ne 30 25 rfl (by decide) dX7_readHand_22 (fun c4 => ?_) (fun c4 => ?_)
    · refine r_aload_n 1 rfl rfl 26 rfl dX7_readHand_25 ?_
      refine r_iconst 2 (by decide) 27 rfl dX7_readHand_26 ?_
      refine r_callv (c_X7_fails E   _ _) rfl sh_67 rfl ml_X7_96 cw_X7_fails vw_X7_fails (by decide) (Nat.le_of_ble_eq_true rfl) 30 rfl dX7_readHand_27 (fun _ σ5 => ?_)
      exact r_sub [1, 2, 0] rfl (gj_X7_readHand_30 E     _ _  _)
    · exact r_sub [1, 2, 0] rfl (gj_X7_readHand_30 E     _ _  _)
  · exact r_sub [1, 2, 0] rfl (gj_X7_readHand_30 E     _ _  _)
/-! HandMarketModel.handHere(III)I -/
def f_X7_handHere  (x1 : Int32) (x2 : Int32) (x3 : Int32) (σ : k_Mem) : Option (Int32 × k_Mem) :=
  k_bd (f_X7_other  x1 x2 x3 σ) (fun r1 σ1 =>
    some (r1, (k_mset σ1 67 8 ((σ1 67 8) ||| (k_shl 1 r1))))
  )
set_option maxRecDepth 100000 in
theorem c_X7_handHere (E : k_EV)   (x1 : Int32) (x2 : Int32) (x3 : Int32) (σ : k_Mem) : k_MC m_X7_handHere E k_vi [k_rf E 67, .int x1, .int x2, .int x3] σ (f_X7_handHere x1 x2 x3 σ) := by
  refine k_MC_of ⟨by decide, by decide⟩ (Nat.le_of_ble_eq_true rfl) ?_
  show k_GO _ _ _ 0 [(0, k_rf E 67), (1, .int x1), (2, .int x2), (3, .int x3)] [] σ _
  unfold f_X7_handHere
  refine r_aload_n 0 rfl rfl 1 rfl dX7_handHere_0 ?_
  refine r_iload_n 1 rfl rfl 2 rfl dX7_handHere_1 ?_
  refine r_iload_n 2 rfl rfl 3 rfl dX7_handHere_2 ?_
  refine r_iload_n 3 rfl rfl 4 rfl dX7_handHere_3 ?_
  refine r_calli (c_X7_other E   _ _ _ _) rfl sh_67 rfl ml_X7_103 cw_X7_other vw_X7_other (by decide) (Nat.le_of_ble_eq_true rfl) 7 rfl dX7_handHere_4 (fun r1 σ1 => ?_)
  refine r_istore [(4, .int _), (0, k_rf E 67), (1, .int _), (2, .int _), (3, .int _)] rfl (by decide) 9 rfl dX7_handHere_7 ?_
  refine r_aload_n 1 rfl rfl 10 rfl dX7_handHere_9 ?_
  refine r_dup 11 rfl dX7_handHere_10 rfl ?_
  refine r_geti fl_X7_107 sh_67 rfl 14 rfl dX7_handHere_11 ?_
  refine r_iconst 1 (by decide) 15 rfl dX7_handHere_14 ?_
  refine r_iload 0 rfl 17 rfl dX7_handHere_15 ?_
  refine r_ishl 18 rfl dX7_handHere_17 ?_
  refine r_ior 19 rfl dX7_handHere_18 ?_
  refine r_puti fp_X7_107 sh_67 rfl 22 rfl dX7_handHere_19 ?_
  refine r_iload 0 rfl 24 rfl dX7_handHere_22 ?_
  exact r_iret rfl dX7_handHere_24
/-! HandMarketModel.readMore(I)V -/
def f_X7_readMore  (x1 : Int32) (σ : k_Mem) : Option (Unit × k_Mem) :=
  if 3 < x1 then (
    if x1 = 4 then (
      k_bd (f_X7_handHere  0 7 (σ 67 6) σ) (fun r3 σ3 =>
        k_bd (f_X7_handHere  0 7 0 (k_mset σ3 67 6 ((σ3 67 6) ||| (k_shl 1 r3)))) (fun r4 σ4 =>
          if k_in (32 + r3) 50 then (
            some ((), (k_mset σ4 69 (k_n (32 + r3)) (r4 - r3)))
          ) else none
        )
      )
    ) else (
      if x1 = 5 then (
        if k_in 44 50 then (
          if k_in 44 50 then (
            k_bd (f_X7_handHere  0 7 (σ 69 (k_n 44)) σ) (fun r6 σ6 =>
              if k_in 44 50 then (
                some ((), (k_mset σ6 69 (k_n 44) ((σ 69 (k_n 44)) ||| (k_shl 1 r6))))
              ) else none
            )
          ) else none
        ) else none
      ) else (
        if x1 = 6 then (
          k_bd (f_X7_handHere  0 3 0 σ) (fun r8 σ8 =>
            if k_in (40 + r8) 50 then (
              if k_in (40 + r8) 50 then (
                k_bd (f_X7_handHere  4 7 (σ8 69 (k_n (40 + r8))) σ8) (fun r9 σ9 =>
                  if k_in (40 + r8) 50 then (
                    some ((), (k_mset σ9 69 (k_n (40 + r8)) ((σ8 69 (k_n (40 + r8))) ||| (k_shl 1 r9))))
                  ) else none
                )
              ) else none
            ) else none
          )
        ) else (
          k_bd (f_X7_handHere  0 3 (σ 67 7) σ) (fun r10 σ10 =>
            k_bd (f_X7_handHere  4 7 (σ10 67 7) σ10) (fun r11 σ11 =>
              if k_in (45 + r10) 50 then (
                some ((), (k_mset (k_mset σ11 67 7 ((σ11 67 7) ||| ((k_shl 1 r10) ||| (k_shl 1 r11)))) 69 (k_n (45 + r10)) r11))
              ) else none
            )
          )
        )
      )
    )
  ) else (
    k_bd (f_X7_readHand  x1 σ) (fun _ σ12 =>
      some ((), σ12)
    )
  )
set_option maxRecDepth 100000 in
theorem c_X7_readMore (E : k_EV)   (x1 : Int32) (σ : k_Mem) : k_MC m_X7_readMore E k_vv [k_rf E 67, .int x1] σ (f_X7_readMore x1 σ) := by
  refine k_MC_of ⟨by decide, by decide⟩ (Nat.le_of_ble_eq_true rfl) ?_
  show k_GO _ _ _ 0 [(0, k_rf E 67), (1, .int x1)] [] σ _
  unfold f_X7_readMore
  refine r_iload_n 1 rfl rfl 1 rfl dX7_readMore_0 ?_
  refine r_iconst 3 (by decide) 2 rfl dX7_readMore_1 ?_
  refine r_icmp_gt 13 5 rfl (by decide) dX7_readMore_2 (fun c1 => ?_) (fun c1 => ?_)
  · refine r_iload_n 1 rfl rfl 14 rfl dX7_readMore_13 ?_
    refine r_iconst 4 (by decide) 15 rfl dX7_readMore_14 ?_
    refine r_icmp_ne 64 18 rfl (by decide) dX7_readMore_15 (fun c2 => ?_) (fun c2 => ?_)
    · refine r_aload_n 0 rfl rfl 19 rfl dX7_readMore_18 ?_
      refine r_iconst 0 (by decide) 20 rfl dX7_readMore_19 ?_
      refine r_bipush 7 (by decide) 22 rfl dX7_readMore_20 ?_
      refine r_aload_n 0 rfl rfl 23 rfl dX7_readMore_22 ?_
      refine r_geti fl_X7_123 sh_67 rfl 26 rfl dX7_readMore_23 ?_
      refine r_calli (c_X7_handHere E   _ _ _ _) rfl sh_67 rfl ml_X7_126 cw_X7_handHere vw_X7_handHere (by decide) (Nat.le_of_ble_eq_true rfl) 29 rfl dX7_readMore_26 (fun r3 σ3 => ?_)
      refine r_istore_n [(2, .int _), (0, k_rf E 67), (1, .int _)] rfl rfl (by decide) 30 rfl dX7_readMore_29 ?_
      refine r_aload_n 1 rfl rfl 31 rfl dX7_readMore_30 ?_
      refine r_dup 32 rfl dX7_readMore_31 rfl ?_
      refine r_geti fl_X7_123 sh_67 rfl 35 rfl dX7_readMore_32 ?_
      refine r_iconst 1 (by decide) 36 rfl dX7_readMore_35 ?_
      refine r_iload_n 0 rfl rfl 37 rfl dX7_readMore_36 ?_
      refine r_ishl 38 rfl dX7_readMore_37 ?_
      refine r_ior 39 rfl dX7_readMore_38 ?_
      refine r_puti fp_X7_123 sh_67 rfl 42 rfl dX7_readMore_39 ?_
      refine r_aload_n 1 rfl rfl 43 rfl dX7_readMore_42 ?_
      refine r_getr fl_X7_13 sh_67 rfl 46 rfl dX7_readMore_43 ?_
      refine r_bipush 32 (by decide) 48 rfl dX7_readMore_46 ?_
      refine r_iload_n 0 rfl rfl 49 rfl dX7_readMore_48 ?_
      refine r_iadd 50 rfl dX7_readMore_49 ?_
      refine r_aload_n 1 rfl rfl 51 rfl dX7_readMore_50 ?_
      refine r_iconst 0 (by decide) 52 rfl dX7_readMore_51 ?_
      refine r_bipush 7 (by decide) 54 rfl dX7_readMore_52 ?_
      refine r_iconst 0 (by decide) 55 rfl dX7_readMore_54 ?_
      refine r_calli (c_X7_handHere E   _ _ _ _) rfl sh_67 rfl ml_X7_126 cw_X7_handHere vw_X7_handHere (by decide) (Nat.le_of_ble_eq_true rfl) 58 rfl dX7_readMore_55 (fun r4 σ4 => ?_)
      refine r_iload_n 0 rfl rfl 59 rfl dX7_readMore_58 ?_
      refine r_isub 60 rfl dX7_readMore_59 ?_
      refine r_iast sh_69 61 rfl dX7_readMore_60 ?_
      refine r_goto 194 (by decide) dX7_readMore_61 ?_
      exact r_vret rfl dX7_readMore_194
    · refine r_iload_n 1 rfl rfl 65 rfl dX7_readMore_64 ?_
      refine r_iconst 5 (by decide) 66 rfl dX7_readMore_65 ?_
      refine r_icmp_ne 98 69 rfl (by decide) dX7_readMore_66 (fun c5 => ?_) (fun c5 => ?_)
      · refine r_aload_n 0 rfl rfl 70 rfl dX7_readMore_69 ?_
        refine r_getr fl_X7_13 sh_67 rfl 73 rfl dX7_readMore_70 ?_
        refine r_bipush 44 (by decide) 75 rfl dX7_readMore_73 ?_
        refine r_dup2 76 rfl dX7_readMore_75 rfl rfl ?_
        refine r_iald sh_69 77 rfl dX7_readMore_76 ?_
        refine r_iconst 1 (by decide) 78 rfl dX7_readMore_77 ?_
        refine r_aload_n 0 rfl rfl 79 rfl dX7_readMore_78 ?_
        refine r_iconst 0 (by decide) 80 rfl dX7_readMore_79 ?_
        refine r_bipush 7 (by decide) 82 rfl dX7_readMore_80 ?_
        refine r_aload_n 0 rfl rfl 83 rfl dX7_readMore_82 ?_
        refine r_getr fl_X7_13 sh_67 rfl 86 rfl dX7_readMore_83 ?_
        refine r_bipush 44 (by decide) 88 rfl dX7_readMore_86 ?_
        refine r_iald sh_69 89 rfl dX7_readMore_88 ?_
        refine r_calli (c_X7_handHere E   _ _ _ _) rfl sh_67 rfl ml_X7_126 cw_X7_handHere vw_X7_handHere (by decide) (Nat.le_of_ble_eq_true rfl) 92 rfl dX7_readMore_89 (fun r6 σ6 => ?_)
        refine r_ishl 93 rfl dX7_readMore_92 ?_
        refine r_ior 94 rfl dX7_readMore_93 ?_
        refine r_iast sh_69 95 rfl dX7_readMore_94 ?_
        refine r_goto 194 (by decide) dX7_readMore_95 ?_
        exact r_vret rfl dX7_readMore_194
      · refine r_iload_n 1 rfl rfl 99 rfl dX7_readMore_98 ?_
        refine r_bipush 6 (by decide) 101 rfl dX7_readMore_99 ?_
        refine r_icmp_ne 145 104 rfl (by decide) dX7_readMore_101 (fun c7 => ?_) (fun c7 => ?_)
        · refine r_aload_n 0 rfl rfl 105 rfl dX7_readMore_104 ?_
          refine r_iconst 0 (by decide) 106 rfl dX7_readMore_105 ?_
          refine r_iconst 3 (by decide) 107 rfl dX7_readMore_106 ?_
          refine r_iconst 0 (by decide) 108 rfl dX7_readMore_107 ?_
          refine r_calli (c_X7_handHere E   _ _ _ _) rfl sh_67 rfl ml_X7_126 cw_X7_handHere vw_X7_handHere (by decide) (Nat.le_of_ble_eq_true rfl) 111 rfl dX7_readMore_108 (fun r8 σ8 => ?_)
          refine r_istore_n [(2, .int _), (0, k_rf E 67), (1, .int _)] rfl rfl (by decide) 112 rfl dX7_readMore_111 ?_
          refine r_aload_n 1 rfl rfl 113 rfl dX7_readMore_112 ?_
          refine r_getr fl_X7_13 sh_67 rfl 116 rfl dX7_readMore_113 ?_
          refine r_bipush 40 (by decide) 118 rfl dX7_readMore_116 ?_
          refine r_iload_n 0 rfl rfl 119 rfl dX7_readMore_118 ?_
          refine r_iadd 120 rfl dX7_readMore_119 ?_
          refine r_dup2 121 rfl dX7_readMore_120 rfl rfl ?_
          refine r_iald sh_69 122 rfl dX7_readMore_121 ?_
          refine r_iconst 1 (by decide) 123 rfl dX7_readMore_122 ?_
          refine r_aload_n 1 rfl rfl 124 rfl dX7_readMore_123 ?_
          refine r_iconst 4 (by decide) 125 rfl dX7_readMore_124 ?_
          refine r_bipush 7 (by decide) 127 rfl dX7_readMore_125 ?_
          refine r_aload_n 1 rfl rfl 128 rfl dX7_readMore_127 ?_
          refine r_getr fl_X7_13 sh_67 rfl 131 rfl dX7_readMore_128 ?_
          refine r_bipush 40 (by decide) 133 rfl dX7_readMore_131 ?_
          refine r_iload_n 0 rfl rfl 134 rfl dX7_readMore_133 ?_
          refine r_iadd 135 rfl dX7_readMore_134 ?_
          refine r_iald sh_69 136 rfl dX7_readMore_135 ?_
          refine r_calli (c_X7_handHere E   _ _ _ _) rfl sh_67 rfl ml_X7_126 cw_X7_handHere vw_X7_handHere (by decide) (Nat.le_of_ble_eq_true rfl) 139 rfl dX7_readMore_136 (fun r9 σ9 => ?_)
          refine r_ishl 140 rfl dX7_readMore_139 ?_
          refine r_ior 141 rfl dX7_readMore_140 ?_
          refine r_iast sh_69 142 rfl dX7_readMore_141 ?_
          refine r_goto 194 (by decide) dX7_readMore_142 ?_
          exact r_vret rfl dX7_readMore_194
        · refine r_aload_n 0 rfl rfl 146 rfl dX7_readMore_145 ?_
          refine r_iconst 0 (by decide) 147 rfl dX7_readMore_146 ?_
          refine r_iconst 3 (by decide) 148 rfl dX7_readMore_147 ?_
          refine r_aload_n 0 rfl rfl 149 rfl dX7_readMore_148 ?_
          refine r_geti fl_X7_129 sh_67 rfl 152 rfl dX7_readMore_149 ?_
          refine r_calli (c_X7_handHere E   _ _ _ _) rfl sh_67 rfl ml_X7_126 cw_X7_handHere vw_X7_handHere (by decide) (Nat.le_of_ble_eq_true rfl) 155 rfl dX7_readMore_152 (fun r10 σ10 => ?_)
          refine r_istore_n [(2, .int _), (0, k_rf E 67), (1, .int _)] rfl rfl (by decide) 156 rfl dX7_readMore_155 ?_
          refine r_aload_n 1 rfl rfl 157 rfl dX7_readMore_156 ?_
          refine r_iconst 4 (by decide) 158 rfl dX7_readMore_157 ?_
          refine r_bipush 7 (by decide) 160 rfl dX7_readMore_158 ?_
          refine r_aload_n 1 rfl rfl 161 rfl dX7_readMore_160 ?_
          refine r_geti fl_X7_129 sh_67 rfl 164 rfl dX7_readMore_161 ?_
          refine r_calli (c_X7_handHere E   _ _ _ _) rfl sh_67 rfl ml_X7_126 cw_X7_handHere vw_X7_handHere (by decide) (Nat.le_of_ble_eq_true rfl) 167 rfl dX7_readMore_164 (fun r11 σ11 => ?_)
          refine r_istore_n [(3, .int _), (2, .int _), (0, k_rf E 67), (1, .int _)] rfl rfl (by decide) 168 rfl dX7_readMore_167 ?_
          refine r_aload_n 2 rfl rfl 169 rfl dX7_readMore_168 ?_
          refine r_dup 170 rfl dX7_readMore_169 rfl ?_
          refine r_geti fl_X7_129 sh_67 rfl 173 rfl dX7_readMore_170 ?_
          refine r_iconst 1 (by decide) 174 rfl dX7_readMore_173 ?_
          refine r_iload_n 1 rfl rfl 175 rfl dX7_readMore_174 ?_
          refine r_ishl 176 rfl dX7_readMore_175 ?_
          refine r_iconst 1 (by decide) 177 rfl dX7_readMore_176 ?_
          refine r_iload_n 0 rfl rfl 178 rfl dX7_readMore_177 ?_
          refine r_ishl 179 rfl dX7_readMore_178 ?_
          refine r_ior 180 rfl dX7_readMore_179 ?_
          refine r_ior 181 rfl dX7_readMore_180 ?_
          refine r_puti fp_X7_129 sh_67 rfl 184 rfl dX7_readMore_181 ?_
          refine r_aload_n 2 rfl rfl 185 rfl dX7_readMore_184 ?_
          refine r_getr fl_X7_13 sh_67 rfl 188 rfl dX7_readMore_185 ?_
          refine r_bipush 45 (by decide) 190 rfl dX7_readMore_188 ?_
          refine r_iload_n 1 rfl rfl 191 rfl dX7_readMore_190 ?_
          refine r_iadd 192 rfl dX7_readMore_191 ?_
          refine r_iload_n 0 rfl rfl 193 rfl dX7_readMore_192 ?_
          refine r_iast sh_69 194 rfl dX7_readMore_193 ?_
          exact r_vret rfl dX7_readMore_194
  · refine r_aload_n 0 rfl rfl 6 rfl dX7_readMore_5 ?_
    refine r_iload_n 1 rfl rfl 7 rfl dX7_readMore_6 ?_
    refine r_callv (c_X7_readHand E   _ _) rfl sh_67 rfl ml_X7_120 cw_X7_readHand vw_X7_readHand (by decide) (Nat.le_of_ble_eq_true rfl) 10 rfl dX7_readMore_7 (fun _ σ12 => ?_)
    refine r_goto 194 (by decide) dX7_readMore_10 ?_
    exact r_vret rfl dX7_readMore_194
/-! HandMarketModel.readLine()V -/
def j_X7_readLine_60    (σ : k_Mem) : Option (Unit × k_Mem) :=
  k_bd (f_X7_step   σ) (fun _ σ10 =>
    some ((), σ10)
  )
set_option maxRecDepth 100000 in
theorem gj_X7_readLine_60 (E : k_EV)       (σ : k_Mem) : k_GO m_X7_readLine E k_vv 60 [(0, k_rf E 67)] [] σ (j_X7_readLine_60    σ) := by
  unfold j_X7_readLine_60
  refine r_aload_n 0 rfl rfl 61 rfl dX7_readLine_60 ?_
  refine r_callv (c_X7_step E    _) rfl sh_67 rfl ml_X7_100 cw_X7_step vw_X7_step (by decide) (Nat.le_of_ble_eq_true rfl) 64 rfl dX7_readLine_61 (fun _ σ10 => ?_)
  exact r_vret rfl dX7_readLine_64
def f_X7_readLine   (σ : k_Mem) : Option (Unit × k_Mem) :=
  k_bd (f_X7_nameHere   σ) (fun r1 σ1 =>
    k_bd (f_X7_in  (Int32.toInt64 r1) 0 7 σ1) (fun r2 σ2 =>
      if r2 = 0 then (
        k_bd (f_X7_fails  2 σ2) (fun _ σ4 =>
          some ((), σ4)
        )
      ) else (
        k_bd (f_X7_step   σ2) (fun _ σ5 =>
          if (σ5 67 12) ≤ 0 then (
            k_bd (f_X7_readMore  r1 σ5) (fun _ σ7 =>
              if (σ7 67 12) = 0 then (
                if (σ7 67 16) = 3 then (
                  j_X7_readLine_60    σ7
                ) else (
                  k_bd (f_X7_fails  2 σ7) (fun _ σ11 =>
                    j_X7_readLine_60    σ11
                  )
                )
              ) else (
                j_X7_readLine_60    σ7
              )
            )
          ) else (
            some ((), σ5)
          )
        )
      )
    )
  )
set_option maxRecDepth 100000 in
theorem c_X7_readLine (E : k_EV)    (σ : k_Mem) : k_MC m_X7_readLine E k_vv [k_rf E 67] σ (f_X7_readLine  σ) := by
  refine k_MC_of ⟨by decide, by decide⟩ (Nat.le_of_ble_eq_true rfl) ?_
  show k_GO _ _ _ 0 [(0, k_rf E 67)] [] σ _
  unfold f_X7_readLine
  refine r_aload_n 0 rfl rfl 1 rfl dX7_readLine_0 ?_
  refine r_calli (c_X7_nameHere E    _) rfl sh_67 rfl ml_X7_110 cw_X7_nameHere vw_X7_nameHere (by decide) (Nat.le_of_ble_eq_true rfl) 4 rfl dX7_readLine_1 (fun r1 σ1 => ?_)
  refine r_istore_n [(1, .int _), (0, k_rf E 67)] rfl rfl (by decide) 5 rfl dX7_readLine_4 ?_
  refine r_iload_n 0 rfl rfl 6 rfl dX7_readLine_5 ?_
  refine r_i2l 7 rfl dX7_readLine_6 ?_
  refine r_lconst 0 (by decide) 8 rfl dX7_readLine_7 ?_
  refine r_ldc2 cs_X7_132 11 rfl dX7_readLine_8 ?_
  refine r_callsi (c_X7_in E   _ _ _ _) rfl ml_X7_58 cw_X7_in sw_X7_in (by decide) (Nat.le_of_ble_eq_true rfl) 14 rfl dX7_readLine_11 (fun r2 σ2 => ?_)
  refine r_if_ne 23 17 rfl (by decide) dX7_readLine_14 (fun c3 => ?_) (fun c3 => ?_)
  · refine r_aload_n 1 rfl rfl 18 rfl dX7_readLine_17 ?_
    refine r_iconst 2 (by decide) 19 rfl dX7_readLine_18 ?_
    refine r_callv (c_X7_fails E   _ _) rfl sh_67 rfl ml_X7_96 cw_X7_fails vw_X7_fails (by decide) (Nat.le_of_ble_eq_true rfl) 22 rfl dX7_readLine_19 (fun _ σ4 => ?_)
    exact r_vret rfl dX7_readLine_22
  · refine r_aload_n 1 rfl rfl 24 rfl dX7_readLine_23 ?_
    refine r_callv (c_X7_step E    _) rfl sh_67 rfl ml_X7_100 cw_X7_step vw_X7_step (by decide) (Nat.le_of_ble_eq_true rfl) 27 rfl dX7_readLine_24 (fun _ σ5 => ?_)
    refine r_aload_n 1 rfl rfl 28 rfl dX7_readLine_27 ?_
    refine r_geti fl_X7_66 sh_67 rfl 31 rfl dX7_readLine_28 ?_
    refine r_if_le 35 34 rfl (by decide) dX7_readLine_31 (fun c6 => ?_) (fun c6 => ?_)
    · refine r_aload_n 1 rfl rfl 36 rfl dX7_readLine_35 ?_
      refine r_iload_n 0 rfl rfl 37 rfl dX7_readLine_36 ?_
      refine r_callv (c_X7_readMore E   _ _) rfl sh_67 rfl ml_X7_134 cw_X7_readMore vw_X7_readMore (by decide) (Nat.le_of_ble_eq_true rfl) 40 rfl dX7_readLine_37 (fun _ σ7 => ?_)
      refine r_aload_n 1 rfl rfl 41 rfl dX7_readLine_40 ?_
      refine r_geti fl_X7_66 sh_67 rfl 44 rfl dX7_readLine_41 ?_
      refine r_if_ne 60 47 rfl (by decide) dX7_readLine_44 (fun c8 => ?_) (fun c8 => ?_)
      · refine r_aload_n 1 rfl rfl 48 rfl dX7_readLine_47 ?_
        refine r_geti fl_X7_75 sh_67 rfl 51 rfl dX7_readLine_48 ?_
        refine r_iconst 3 (by decide) 52 rfl dX7_readLine_51 ?_
        refine r_icmp_eq 60 55 rfl (by decide) dX7_readLine_52 (fun c9 => ?_) (fun c9 => ?_)
        · exact r_sub [1] rfl (gj_X7_readLine_60 E       _)
        · refine r_aload_n 1 rfl rfl 56 rfl dX7_readLine_55 ?_
          refine r_iconst 2 (by decide) 57 rfl dX7_readLine_56 ?_
          refine r_callv (c_X7_fails E   _ _) rfl sh_67 rfl ml_X7_96 cw_X7_fails vw_X7_fails (by decide) (Nat.le_of_ble_eq_true rfl) 60 rfl dX7_readLine_57 (fun _ σ11 => ?_)
          exact r_sub [1] rfl (gj_X7_readLine_60 E       _)
      · exact r_sub [1] rfl (gj_X7_readLine_60 E       _)
    · exact r_vret rfl dX7_readLine_34
/-! HandMarketModel.handsOf(II)I -/
def f_X7_handsOf  (x0 : Int32) (x1 : Int32) (σ : k_Mem) : Option (Int32 × k_Mem) :=
  some ((((k_shl 1 x0) - 1) ||| (k_shl ((k_shl 1 x1) - 1) 4)), σ)
set_option maxRecDepth 100000 in
theorem c_X7_handsOf (E : k_EV)   (x0 : Int32) (x1 : Int32) (σ : k_Mem) : k_MC m_X7_handsOf E k_vi [.int x0, .int x1] σ (f_X7_handsOf x0 x1 σ) := by
  refine k_MC_of ⟨by decide, by decide⟩ (Nat.le_of_ble_eq_true rfl) ?_
  show k_GO _ _ _ 0 [(0, .int x0), (1, .int x1)] [] σ _
  unfold f_X7_handsOf
  refine r_iconst 1 (by decide) 1 rfl dX7_handsOf_0 ?_
  refine r_iload_n 0 rfl rfl 2 rfl dX7_handsOf_1 ?_
  refine r_ishl 3 rfl dX7_handsOf_2 ?_
  refine r_iconst 1 (by decide) 4 rfl dX7_handsOf_3 ?_
  refine r_isub 5 rfl dX7_handsOf_4 ?_
  refine r_iconst 1 (by decide) 6 rfl dX7_handsOf_5 ?_
  refine r_iload_n 1 rfl rfl 7 rfl dX7_handsOf_6 ?_
  refine r_ishl 8 rfl dX7_handsOf_7 ?_
  refine r_iconst 1 (by decide) 9 rfl dX7_handsOf_8 ?_
  refine r_isub 10 rfl dX7_handsOf_9 ?_
  refine r_iconst 4 (by decide) 11 rfl dX7_handsOf_10 ?_
  refine r_ishl 12 rfl dX7_handsOf_11 ?_
  refine r_ior 13 rfl dX7_handsOf_12 ?_
  exact r_iret rfl dX7_handsOf_13
/-! HandMarketModel.text()I -/
def l_X7_text_150   : Nat → Int32 → Int32 → k_Mem → Option (Int32 × k_Mem)
  | 0, _, _, _ => none
  | n + 1, x1, x2, σ =>
    if 50 ≤ x2 then (
      if k_in 0 2 then (
        if k_in 1 2 then (
          k_ct (k_mset (k_mset (k_mset (k_mset (k_mset σ 67 1 (σ 67 4)) 67 2 ((k_mset σ 67 1 (σ 67 4)) 67 5)) 67 25 0) 79 (k_n 0) (vp_nar .boolean 0)) 79 (k_n 1) (vp_nar .boolean 0)) (fun σ10 =>
            some (x1, σ10)
          )
        ) else none
      ) else none
    ) else (
      if k_in x2 50 then (
        if k_in x2 250 then (
          l_X7_text_150   n x1 (x2 + 1) (k_mset σ 68 (k_n x2) (σ 69 (k_n x2)))
        ) else none
      ) else none
    )
set_option maxRecDepth 100000 in
theorem gl_X7_text_150 (E : k_EV)     : ∀ (n : Nat) (x1 : Int32) (x2 : Int32)  (σ : k_Mem), k_GO m_X7_text E k_vi 150 [(0, k_rf E 67), (1, .int x1), (2, .int x2)] [] σ (l_X7_text_150   n x1 x2 σ) := by
  intro n
  induction n with
  | zero => intro x1 x2  σ; exact r_none
  | succ n ih =>
    intro x1 x2  σ
    rw [l_X7_text_150]
    refine r_iload_n 2 rfl rfl 151 rfl dX7_text_150 ?_
    refine r_bipush 50 (by decide) 153 rfl dX7_text_151 ?_
    refine r_icmp_ge 174 156 rfl (by decide) dX7_text_153 (fun c9 => ?_) (fun c9 => ?_)
    · refine r_aload_n 0 rfl rfl 175 rfl dX7_text_174 ?_
      refine r_aload_n 0 rfl rfl 176 rfl dX7_text_175 ?_
      refine r_geti fl_X7_114 sh_67 rfl 179 rfl dX7_text_176 ?_
      refine r_puti fp_X7_147 sh_67 rfl 182 rfl dX7_text_179 ?_
      refine r_aload_n 0 rfl rfl 183 rfl dX7_text_182 ?_
      refine r_aload_n 0 rfl rfl 184 rfl dX7_text_183 ?_
      refine r_geti fl_X7_117 sh_67 rfl 187 rfl dX7_text_184 ?_
      refine r_puti fp_X7_150 sh_67 rfl 190 rfl dX7_text_187 ?_
      refine r_aload_n 0 rfl rfl 191 rfl dX7_text_190 ?_
      refine r_iconst 0 (by decide) 192 rfl dX7_text_191 ?_
      refine r_puti fp_X7_153 sh_67 rfl 195 rfl dX7_text_192 ?_
      refine r_aload_n 0 rfl rfl 196 rfl dX7_text_195 ?_
      refine r_getr fl_X7_43 sh_67 rfl 199 rfl dX7_text_196 ?_
      refine r_iconst 0 (by decide) 200 rfl dX7_text_199 ?_
      refine r_iconst 0 (by decide) 201 rfl dX7_text_200 ?_
      refine r_zast sh_79 202 rfl dX7_text_201 ?_
      refine r_aload_n 0 rfl rfl 203 rfl dX7_text_202 ?_
      refine r_getr fl_X7_43 sh_67 rfl 206 rfl dX7_text_203 ?_
      refine r_iconst 1 (by decide) 207 rfl dX7_text_206 ?_
      refine r_iconst 0 (by decide) 208 rfl dX7_text_207 ?_
      refine r_zast sh_79 209 rfl dX7_text_208 ?_
      refine r_ct ?_
      refine r_iload_n 1 rfl rfl 210 rfl dX7_text_209 ?_
      exact r_iret rfl dX7_text_210
    · refine r_aload_n 0 rfl rfl 157 rfl dX7_text_156 ?_
      refine r_getr fl_X7_7 sh_67 rfl 160 rfl dX7_text_157 ?_
      refine r_iload_n 2 rfl rfl 161 rfl dX7_text_160 ?_
      refine r_aload_n 0 rfl rfl 162 rfl dX7_text_161 ?_
      refine r_getr fl_X7_13 sh_67 rfl 165 rfl dX7_text_162 ?_
      refine r_iload_n 2 rfl rfl 166 rfl dX7_text_165 ?_
      refine r_iald sh_69 167 rfl dX7_text_166 ?_
      refine r_iast sh_68 168 rfl dX7_text_167 ?_
      refine r_iinc 1 (by decide) 2 rfl [(2, .int _), (0, k_rf E 67), (1, .int _)] rfl (by decide) 171 rfl dX7_text_168 ?_
      refine r_goto 150 (by decide) dX7_text_171 ?_
      exact r_sub [1, 2, 0] rfl (ih _ _  _)
def j_X7_text_120   (x1 : Int32) (σ : k_Mem) : Option (Int32 × k_Mem) :=
  if ((k_mset (k_mset σ 67 10 0) 67 11 ((k_mset σ 67 10 0) 67 12)) 67 12) ≤ 0 then (
    l_X7_text_150   1000 x1 0 (k_mset (k_mset σ 67 10 0) 67 11 ((k_mset σ 67 10 0) 67 12))
  ) else (
    some (((-10) - ((k_mset (k_mset σ 67 10 0) 67 11 ((k_mset σ 67 10 0) 67 12)) 67 13)), (k_mset (k_mset σ 67 10 0) 67 11 ((k_mset σ 67 10 0) 67 12)))
  )
set_option maxRecDepth 100000 in
theorem gj_X7_text_120 (E : k_EV)     (x1 : Int32)  (σ : k_Mem) : k_GO m_X7_text E k_vi 120 [(0, k_rf E 67), (1, .int x1)] [] σ (j_X7_text_120   x1 σ) := by
  unfold j_X7_text_120
  refine r_aload_n 0 rfl rfl 121 rfl dX7_text_120 ?_
  refine r_iconst 0 (by decide) 122 rfl dX7_text_121 ?_
  refine r_puti fp_X7_62 sh_67 rfl 125 rfl dX7_text_122 ?_
  refine r_aload_n 0 rfl rfl 126 rfl dX7_text_125 ?_
  refine r_aload_n 0 rfl rfl 127 rfl dX7_text_126 ?_
  refine r_geti fl_X7_66 sh_67 rfl 130 rfl dX7_text_127 ?_
  refine r_puti fp_X7_144 sh_67 rfl 133 rfl dX7_text_130 ?_
  refine r_aload_n 0 rfl rfl 134 rfl dX7_text_133 ?_
  refine r_geti fl_X7_66 sh_67 rfl 137 rfl dX7_text_134 ?_
  refine r_if_le 148 140 rfl (by decide) dX7_text_137 (fun c8 => ?_) (fun c8 => ?_)
  · refine r_iconst 0 (by decide) 149 rfl dX7_text_148 ?_
    refine r_istore_n [(2, .int _), (0, k_rf E 67), (1, .int _)] rfl rfl (by decide) 150 rfl dX7_text_149 ?_
    exact r_sub [1, 2, 0] rfl (gl_X7_text_150 E     1000 _ _  _)
  · refine r_bipush (-10) (by decide) 142 rfl dX7_text_140 ?_
    refine r_aload_n 0 rfl rfl 143 rfl dX7_text_142 ?_
    refine r_geti fl_X7_72 sh_67 rfl 146 rfl dX7_text_143 ?_
    refine r_isub 147 rfl dX7_text_146 ?_
    exact r_iret rfl dX7_text_147
def j_X7_text_86   (x1 : Int32) (σ : k_Mem) : Option (Int32 × k_Mem) :=
  if (σ 67 12) = 0 then (
    k_bd (f_X7_handsOf  (σ 67 4) (σ 67 5) σ) (fun r6 σ6 =>
      if ((σ 67 8) &&& (r6 ^^^ (-1))) = 0 then (
        j_X7_text_120   x1 σ6
      ) else (
        k_bd (f_X7_fails  6 σ6) (fun _ σ11 =>
          j_X7_text_120   x1 σ11
        )
      )
    )
  ) else (
    j_X7_text_120   x1 σ
  )
set_option maxRecDepth 100000 in
theorem gj_X7_text_86 (E : k_EV)     (x1 : Int32)  (σ : k_Mem) : k_GO m_X7_text E k_vi 86 [(0, k_rf E 67), (1, .int x1)] [] σ (j_X7_text_86   x1 σ) := by
  unfold j_X7_text_86
  refine r_aload_n 0 rfl rfl 87 rfl dX7_text_86 ?_
  refine r_geti fl_X7_66 sh_67 rfl 90 rfl dX7_text_87 ?_
  refine r_if_ne 120 93 rfl (by decide) dX7_text_90 (fun c5 => ?_) (fun c5 => ?_)
  · refine r_aload_n 0 rfl rfl 94 rfl dX7_text_93 ?_
    refine r_geti fl_X7_107 sh_67 rfl 97 rfl dX7_text_94 ?_
    refine r_aload_n 0 rfl rfl 98 rfl dX7_text_97 ?_
    refine r_geti fl_X7_114 sh_67 rfl 101 rfl dX7_text_98 ?_
    refine r_aload_n 0 rfl rfl 102 rfl dX7_text_101 ?_
    refine r_geti fl_X7_117 sh_67 rfl 105 rfl dX7_text_102 ?_
    refine r_callsi (c_X7_handsOf E   _ _ _) rfl ml_X7_140 cw_X7_handsOf sw_X7_handsOf (by decide) (Nat.le_of_ble_eq_true rfl) 108 rfl dX7_text_105 (fun r6 σ6 => ?_)
    refine r_iconst (-1) (by decide) 109 rfl dX7_text_108 ?_
    refine r_ixor 110 rfl dX7_text_109 ?_
    refine r_iand 111 rfl dX7_text_110 ?_
    refine r_if_eq 120 114 rfl (by decide) dX7_text_111 (fun c7 => ?_) (fun c7 => ?_)
    · exact r_sub [0, 1] rfl (gj_X7_text_120 E     _  _)
    · refine r_aload_n 0 rfl rfl 115 rfl dX7_text_114 ?_
      refine r_bipush 6 (by decide) 117 rfl dX7_text_115 ?_
      refine r_callv (c_X7_fails E   _ _) rfl sh_67 rfl ml_X7_96 cw_X7_fails vw_X7_fails (by decide) (Nat.le_of_ble_eq_true rfl) 120 rfl dX7_text_117 (fun _ σ11 => ?_)
      exact r_sub [0, 1] rfl (gj_X7_text_120 E     _  _)
  · exact r_sub [0, 1] rfl (gj_X7_text_120 E     _  _)
def l_X7_text_62   : Nat → Int32 → k_Mem → Option (Int32 × k_Mem)
  | 0, _, _ => none
  | n + 1, x1, σ =>
    if (σ 67 12) = 0 then (
      if (σ 67 16) = 0 then (
        j_X7_text_86   x1 σ
      ) else (
        k_bd (f_X7_readLine   σ) (fun _ σ12 =>
          l_X7_text_62   n (x1 + 1) σ12
        )
      )
    ) else (
      j_X7_text_86   x1 σ
    )
set_option maxRecDepth 100000 in
theorem gl_X7_text_62 (E : k_EV)     : ∀ (n : Nat) (x1 : Int32)  (σ : k_Mem), k_GO m_X7_text E k_vi 62 [(0, k_rf E 67), (1, .int x1)] [] σ (l_X7_text_62   n x1 σ) := by
  intro n
  induction n with
  | zero => intro x1  σ; exact r_none
  | succ n ih =>
    intro x1  σ
    rw [l_X7_text_62]
    refine r_aload_n 0 rfl rfl 63 rfl dX7_text_62 ?_
    refine r_geti fl_X7_66 sh_67 rfl 66 rfl dX7_text_63 ?_
    refine r_if_ne 86 69 rfl (by decide) dX7_text_66 (fun c3 => ?_) (fun c3 => ?_)
    · refine r_aload_n 0 rfl rfl 70 rfl dX7_text_69 ?_
      refine r_geti fl_X7_75 sh_67 rfl 73 rfl dX7_text_70 ?_
      refine r_if_eq 86 76 rfl (by decide) dX7_text_73 (fun c4 => ?_) (fun c4 => ?_)
      · exact r_sub [0, 1] rfl (gj_X7_text_86 E     _  _)
      · refine r_aload_n 0 rfl rfl 77 rfl dX7_text_76 ?_
        refine r_callv (c_X7_readLine E    _) rfl sh_67 rfl ml_X7_137 cw_X7_readLine vw_X7_readLine (by decide) (Nat.le_of_ble_eq_true rfl) 80 rfl dX7_text_77 (fun _ σ12 => ?_)
        refine r_iinc 1 (by decide) 1 rfl [(1, .int _), (0, k_rf E 67)] rfl (by decide) 83 rfl dX7_text_80 ?_
        refine r_goto 62 (by decide) dX7_text_83 ?_
        exact r_sub [1, 0] rfl (ih _  _)
    · exact r_sub [0, 1] rfl (gj_X7_text_86 E     _  _)
def l_X7_text_39   : Nat → Int32 → Int32 → k_Mem → Option (Int32 × k_Mem)
  | 0, _, _, _ => none
  | n + 1, x1, x2, σ =>
    if 50 ≤ x2 then (
      k_bd (f_X7_step   σ) (fun _ σ2 =>
        l_X7_text_62   1000 x1 σ2
      )
    ) else (
      if k_in x2 50 then (
        l_X7_text_39   n x1 (x2 + 1) (k_mset σ 69 (k_n x2) 0)
      ) else none
    )
set_option maxRecDepth 100000 in
theorem gl_X7_text_39 (E : k_EV)     : ∀ (n : Nat) (x1 : Int32) (x2 : Int32)  (σ : k_Mem), k_GO m_X7_text E k_vi 39 [(0, k_rf E 67), (1, .int x1), (2, .int x2)] [] σ (l_X7_text_39   n x1 x2 σ) := by
  intro n
  induction n with
  | zero => intro x1 x2  σ; exact r_none
  | succ n ih =>
    intro x1 x2  σ
    rw [l_X7_text_39]
    refine r_iload_n 2 rfl rfl 40 rfl dX7_text_39 ?_
    refine r_bipush 50 (by decide) 42 rfl dX7_text_40 ?_
    refine r_icmp_ge 58 45 rfl (by decide) dX7_text_42 (fun c1 => ?_) (fun c1 => ?_)
    · refine r_aload_n 0 rfl rfl 59 rfl dX7_text_58 ?_
      refine r_callv (c_X7_step E    _) rfl sh_67 rfl ml_X7_100 cw_X7_step vw_X7_step (by decide) (Nat.le_of_ble_eq_true rfl) 62 rfl dX7_text_59 (fun _ σ2 => ?_)
      exact r_sub [0, 1] rfl (gl_X7_text_62 E     1000 _  _)
    · refine r_aload_n 0 rfl rfl 46 rfl dX7_text_45 ?_
      refine r_getr fl_X7_13 sh_67 rfl 49 rfl dX7_text_46 ?_
      refine r_iload_n 2 rfl rfl 50 rfl dX7_text_49 ?_
      refine r_iconst 0 (by decide) 51 rfl dX7_text_50 ?_
      refine r_iast sh_69 52 rfl dX7_text_51 ?_
      refine r_iinc 1 (by decide) 2 rfl [(2, .int _), (0, k_rf E 67), (1, .int _)] rfl (by decide) 55 rfl dX7_text_52 ?_
      refine r_goto 39 (by decide) dX7_text_55 ?_
      exact r_sub [1, 2, 0] rfl (ih _ _  _)
def f_X7_text   (σ : k_Mem) : Option (Int32 × k_Mem) :=
  l_X7_text_39   1000 0 0 (k_mset (k_mset (k_mset (k_mset (k_mset (k_mset (k_mset σ 67 12 0) 67 14 0) 67 4 0) 67 5 0) 67 6 0) 67 7 0) 67 8 0)
set_option maxRecDepth 100000 in
theorem c_X7_text (E : k_EV)    (σ : k_Mem) : k_MC m_X7_text E k_vi [k_rf E 67] σ (f_X7_text  σ) := by
  refine k_MC_of ⟨by decide, by decide⟩ (Nat.le_of_ble_eq_true rfl) ?_
  show k_GO _ _ _ 0 [(0, k_rf E 67)] [] σ _
  unfold f_X7_text
  refine r_aload_n 0 rfl rfl 1 rfl dX7_text_0 ?_
  refine r_iconst 0 (by decide) 2 rfl dX7_text_1 ?_
  refine r_puti fp_X7_66 sh_67 rfl 5 rfl dX7_text_2 ?_
  refine r_aload_n 0 rfl rfl 6 rfl dX7_text_5 ?_
  refine r_iconst 0 (by decide) 7 rfl dX7_text_6 ?_
  refine r_puti fp_X7_78 sh_67 rfl 10 rfl dX7_text_7 ?_
  refine r_aload_n 0 rfl rfl 11 rfl dX7_text_10 ?_
  refine r_iconst 0 (by decide) 12 rfl dX7_text_11 ?_
  refine r_puti fp_X7_114 sh_67 rfl 15 rfl dX7_text_12 ?_
  refine r_aload_n 0 rfl rfl 16 rfl dX7_text_15 ?_
  refine r_iconst 0 (by decide) 17 rfl dX7_text_16 ?_
  refine r_puti fp_X7_117 sh_67 rfl 20 rfl dX7_text_17 ?_
  refine r_aload_n 0 rfl rfl 21 rfl dX7_text_20 ?_
  refine r_iconst 0 (by decide) 22 rfl dX7_text_21 ?_
  refine r_puti fp_X7_123 sh_67 rfl 25 rfl dX7_text_22 ?_
  refine r_aload_n 0 rfl rfl 26 rfl dX7_text_25 ?_
  refine r_iconst 0 (by decide) 27 rfl dX7_text_26 ?_
  refine r_puti fp_X7_129 sh_67 rfl 30 rfl dX7_text_27 ?_
  refine r_aload_n 0 rfl rfl 31 rfl dX7_text_30 ?_
  refine r_iconst 0 (by decide) 32 rfl dX7_text_31 ?_
  refine r_puti fp_X7_107 sh_67 rfl 35 rfl dX7_text_32 ?_
  refine r_iconst 0 (by decide) 36 rfl dX7_text_35 ?_
  refine r_istore_n [(1, .int _), (0, k_rf E 67)] rfl rfl (by decide) 37 rfl dX7_text_36 ?_
  refine r_iconst 0 (by decide) 38 rfl dX7_text_37 ?_
  refine r_istore_n [(2, .int _), (1, .int _), (0, k_rf E 67)] rfl rfl (by decide) 39 rfl dX7_text_38 ?_
  exact r_sub [2, 1, 0] rfl (gl_X7_text_39 E     1000 _ _  _)
/-! HandMarketModel.fault()I -/
def f_X7_fault   (σ : k_Mem) : Option (Int32 × k_Mem) :=
  some ((σ 67 11), σ)
set_option maxRecDepth 100000 in
theorem c_X7_fault (E : k_EV)    (σ : k_Mem) : k_MC m_X7_fault E k_vi [k_rf E 67] σ (f_X7_fault  σ) := by
  refine k_MC_of ⟨by decide, by decide⟩ (Nat.le_of_ble_eq_true rfl) ?_
  show k_GO _ _ _ 0 [(0, k_rf E 67)] [] σ _
  unfold f_X7_fault
  refine r_aload_n 0 rfl rfl 1 rfl dX7_fault_0 ?_
  refine r_geti fl_X7_144 sh_67 rfl 4 rfl dX7_fault_1 ?_
  exact r_iret rfl dX7_fault_4
/-! HandMarketModel.wedTo(I)I -/
def l_X7_wedTo_34   : Nat → Int32 → Int32 → k_Mem → Option (Int32 × k_Mem)
  | 0, _, _, _ => none
  | n + 1, x1, x2, σ =>
    if 4 ≤ x2 then (
      some ((-4), σ)
    ) else (
      if k_in (45 + x2) 250 then (
        if (σ 68 (k_n (45 + x2))) = x1 then (
          some (x2, σ)
        ) else (
          l_X7_wedTo_34   n x1 (x2 + 1) σ
        )
      ) else none
    )
set_option maxRecDepth 100000 in
theorem gl_X7_wedTo_34 (E : k_EV)     : ∀ (n : Nat) (x1 : Int32) (x2 : Int32)  (σ : k_Mem), k_GO m_X7_wedTo E k_vi 34 [(0, k_rf E 67), (1, .int x1), (2, .int x2)] [] σ (l_X7_wedTo_34   n x1 x2 σ) := by
  intro n
  induction n with
  | zero => intro x1 x2  σ; exact r_none
  | succ n ih =>
    intro x1 x2  σ
    rw [l_X7_wedTo_34]
    refine r_iload_n 2 rfl rfl 35 rfl dX7_wedTo_34 ?_
    refine r_iconst 4 (by decide) 36 rfl dX7_wedTo_35 ?_
    refine r_icmp_ge 60 39 rfl (by decide) dX7_wedTo_36 (fun c2 => ?_) (fun c2 => ?_)
    · refine r_bipush (-4) (by decide) 62 rfl dX7_wedTo_60 ?_
      exact r_iret rfl dX7_wedTo_62
    · refine r_aload_n 0 rfl rfl 40 rfl dX7_wedTo_39 ?_
      refine r_getr fl_X7_7 sh_67 rfl 43 rfl dX7_wedTo_40 ?_
      refine r_bipush 45 (by decide) 45 rfl dX7_wedTo_43 ?_
      refine r_iload_n 2 rfl rfl 46 rfl dX7_wedTo_45 ?_
      refine r_iadd 47 rfl dX7_wedTo_46 ?_
      refine r_iald sh_68 48 rfl dX7_wedTo_47 ?_
      refine r_iload_n 1 rfl rfl 49 rfl dX7_wedTo_48 ?_
      refine r_icmp_ne 54 52 rfl (by decide) dX7_wedTo_49 (fun c3 => ?_) (fun c3 => ?_)
      · refine r_iload_n 2 rfl rfl 53 rfl dX7_wedTo_52 ?_
        exact r_iret rfl dX7_wedTo_53
      · refine r_iinc 1 (by decide) 2 rfl [(2, .int _), (0, k_rf E 67), (1, .int _)] rfl (by decide) 57 rfl dX7_wedTo_54 ?_
        refine r_goto 34 (by decide) dX7_wedTo_57 ?_
        exact r_sub [1, 2, 0] rfl (ih _ _  _)
def f_X7_wedTo  (x1 : Int32) (σ : k_Mem) : Option (Int32 × k_Mem) :=
  if 4 ≤ x1 then (
    l_X7_wedTo_34   1000 x1 0 σ
  ) else (
    if k_in (45 + x1) 250 then (
      if (σ 68 (k_n (45 + x1))) = 0 then (
        some ((-4), σ)
      ) else (
        if k_in (45 + x1) 250 then (
          some ((σ 68 (k_n (45 + x1))), σ)
        ) else none
      )
    ) else none
  )
set_option maxRecDepth 100000 in
theorem c_X7_wedTo (E : k_EV)   (x1 : Int32) (σ : k_Mem) : k_MC m_X7_wedTo E k_vi [k_rf E 67, .int x1] σ (f_X7_wedTo x1 σ) := by
  refine k_MC_of ⟨by decide, by decide⟩ (Nat.le_of_ble_eq_true rfl) ?_
  show k_GO _ _ _ 0 [(0, k_rf E 67), (1, .int x1)] [] σ _
  unfold f_X7_wedTo
  refine r_iload_n 1 rfl rfl 1 rfl dX7_wedTo_0 ?_
  refine r_iconst 4 (by decide) 2 rfl dX7_wedTo_1 ?_
  refine r_icmp_ge 32 5 rfl (by decide) dX7_wedTo_2 (fun c1 => ?_) (fun c1 => ?_)
  · refine r_iconst 0 (by decide) 33 rfl dX7_wedTo_32 ?_
    refine r_istore_n [(2, .int _), (0, k_rf E 67), (1, .int _)] rfl rfl (by decide) 34 rfl dX7_wedTo_33 ?_
    exact r_sub [1, 2, 0] rfl (gl_X7_wedTo_34 E     1000 _ _  _)
  · refine r_aload_n 0 rfl rfl 6 rfl dX7_wedTo_5 ?_
    refine r_getr fl_X7_7 sh_67 rfl 9 rfl dX7_wedTo_6 ?_
    refine r_bipush 45 (by decide) 11 rfl dX7_wedTo_9 ?_
    refine r_iload_n 1 rfl rfl 12 rfl dX7_wedTo_11 ?_
    refine r_iadd 13 rfl dX7_wedTo_12 ?_
    refine r_iald sh_68 14 rfl dX7_wedTo_13 ?_
    refine r_if_ne 22 17 rfl (by decide) dX7_wedTo_14 (fun c4 => ?_) (fun c4 => ?_)
    · refine r_bipush (-4) (by decide) 19 rfl dX7_wedTo_17 ?_
      refine r_goto 31 (by decide) dX7_wedTo_19 ?_
      exact r_iret rfl dX7_wedTo_31
    · refine r_aload_n 0 rfl rfl 23 rfl dX7_wedTo_22 ?_
      refine r_getr fl_X7_7 sh_67 rfl 26 rfl dX7_wedTo_23 ?_
      refine r_bipush 45 (by decide) 28 rfl dX7_wedTo_26 ?_
      refine r_iload_n 1 rfl rfl 29 rfl dX7_wedTo_28 ?_
      refine r_iadd 30 rfl dX7_wedTo_29 ?_
      refine r_iald sh_68 31 rfl dX7_wedTo_30 ?_
      exact r_iret rfl dX7_wedTo_31
/-! HandMarketModel.wedOnes()I -/
def j_X7_wedOnes_28  (k4 : Int32 → Int32 → k_Mem → Option (Int32 × k_Mem)) (x2 : Int32) (xs0 : Int32) (xs1 : Int32) (σ : k_Mem) : Option (Int32 × k_Mem) :=
  k4 (xs0 ||| xs1) (x2 + 1) σ
set_option maxRecDepth 100000 in
theorem gj_X7_wedOnes_28 (E : k_EV)   (k4 : Int32 → Int32 → k_Mem → Option (Int32 × k_Mem)) (hk4 : ∀ (x1 : Int32) (x2 : Int32)  (σ : k_Mem), k_GO m_X7_wedOnes E k_vi 4 [(0, k_rf E 67), (1, .int x1), (2, .int x2)] [] σ (k4 x1 x2 σ)) (x2 : Int32) (xs0 : Int32) (xs1 : Int32)  (σ : k_Mem) : k_GO m_X7_wedOnes E k_vi 28 [(0, k_rf E 67), (2, .int x2)] [.int xs1, .int xs0] σ (j_X7_wedOnes_28  k4 x2 xs0 xs1 σ) := by
  unfold j_X7_wedOnes_28
  refine r_ior 29 rfl dX7_wedOnes_28 ?_
  refine r_istore_n [(1, .int _), (0, k_rf E 67), (2, .int _)] rfl rfl (by decide) 30 rfl dX7_wedOnes_29 ?_
  refine r_iinc 1 (by decide) 2 rfl [(2, .int _), (1, .int _), (0, k_rf E 67)] rfl (by decide) 33 rfl dX7_wedOnes_30 ?_
  refine r_goto 4 (by decide) dX7_wedOnes_33 ?_
  exact r_sub [2, 1, 0] rfl (hk4 _ _  _)
def l_X7_wedOnes_4   : Nat → Int32 → Int32 → k_Mem → Option (Int32 × k_Mem)
  | 0, _, _, _ => none
  | n + 1, x1, x2, σ =>
    if 8 ≤ x2 then (
      some (x1, σ)
    ) else (
      k_bd (f_X7_wedTo  x2 σ) (fun r2 σ2 =>
        if r2 = (-4) then (
          j_X7_wedOnes_28  (fun x1 x2 σ => l_X7_wedOnes_4   n x1 x2 σ) x2 x1 0 σ2
        ) else (
          j_X7_wedOnes_28  (fun x1 x2 σ => l_X7_wedOnes_4   n x1 x2 σ) x2 x1 (k_shl 1 x2) σ2
        )
      )
    )
set_option maxRecDepth 100000 in
theorem gl_X7_wedOnes_4 (E : k_EV)     : ∀ (n : Nat) (x1 : Int32) (x2 : Int32)  (σ : k_Mem), k_GO m_X7_wedOnes E k_vi 4 [(0, k_rf E 67), (1, .int x1), (2, .int x2)] [] σ (l_X7_wedOnes_4   n x1 x2 σ) := by
  intro n
  induction n with
  | zero => intro x1 x2  σ; exact r_none
  | succ n ih =>
    intro x1 x2  σ
    rw [l_X7_wedOnes_4]
    refine r_iload_n 2 rfl rfl 5 rfl dX7_wedOnes_4 ?_
    refine r_bipush 8 (by decide) 7 rfl dX7_wedOnes_5 ?_
    refine r_icmp_ge 36 10 rfl (by decide) dX7_wedOnes_7 (fun c1 => ?_) (fun c1 => ?_)
    · refine r_iload_n 1 rfl rfl 37 rfl dX7_wedOnes_36 ?_
      exact r_iret rfl dX7_wedOnes_37
    · refine r_iload_n 1 rfl rfl 11 rfl dX7_wedOnes_10 ?_
      refine r_aload_n 0 rfl rfl 12 rfl dX7_wedOnes_11 ?_
      refine r_iload_n 2 rfl rfl 13 rfl dX7_wedOnes_12 ?_
      refine r_calli (c_X7_wedTo E   _ _) rfl sh_67 rfl ml_X7_162 cw_X7_wedTo vw_X7_wedTo (by decide) (Nat.le_of_ble_eq_true rfl) 16 rfl dX7_wedOnes_13 (fun r2 σ2 => ?_)
      refine r_bipush (-4) (by decide) 18 rfl dX7_wedOnes_16 ?_
      refine r_icmp_ne 25 21 rfl (by decide) dX7_wedOnes_18 (fun c3 => ?_) (fun c3 => ?_)
      · refine r_iconst 0 (by decide) 22 rfl dX7_wedOnes_21 ?_
        refine r_goto 28 (by decide) dX7_wedOnes_22 ?_
        exact r_sub [0, 2] rfl (gj_X7_wedOnes_28 E   _ (fun x1 x2  σ => ih x1 x2  σ) _ _ _  _)
      · refine r_iconst 1 (by decide) 26 rfl dX7_wedOnes_25 ?_
        refine r_iload_n 2 rfl rfl 27 rfl dX7_wedOnes_26 ?_
        refine r_ishl 28 rfl dX7_wedOnes_27 ?_
        exact r_sub [0, 2] rfl (gj_X7_wedOnes_28 E   _ (fun x1 x2  σ => ih x1 x2  σ) _ _ _  _)
def f_X7_wedOnes   (σ : k_Mem) : Option (Int32 × k_Mem) :=
  l_X7_wedOnes_4   1000 0 0 σ
set_option maxRecDepth 100000 in
theorem c_X7_wedOnes (E : k_EV)    (σ : k_Mem) : k_MC m_X7_wedOnes E k_vi [k_rf E 67] σ (f_X7_wedOnes  σ) := by
  refine k_MC_of ⟨by decide, by decide⟩ (Nat.le_of_ble_eq_true rfl) ?_
  show k_GO _ _ _ 0 [(0, k_rf E 67)] [] σ _
  unfold f_X7_wedOnes
  refine r_iconst 0 (by decide) 1 rfl dX7_wedOnes_0 ?_
  refine r_istore_n [(1, .int _), (0, k_rf E 67)] rfl rfl (by decide) 2 rfl dX7_wedOnes_1 ?_
  refine r_iconst 0 (by decide) 3 rfl dX7_wedOnes_2 ?_
  refine r_istore_n [(2, .int _), (1, .int _), (0, k_rf E 67)] rfl rfl (by decide) 4 rfl dX7_wedOnes_3 ?_
  exact r_sub [2, 1, 0] rfl (gl_X7_wedOnes_4 E     1000 _ _  _)
/-! HandMarketModel.rule(I)I -/
def f_X7_rule  (x1 : Int32) (σ : k_Mem) : Option (Int32 × k_Mem) :=
  if x1 = 0 then (
    some ((σ 67 1), σ)
  ) else (
  if x1 = 1 then (
    some ((σ 67 2), σ)
  ) else (
  if x1 = 2 then (
    if k_in 44 250 then (
      some ((σ 68 (k_n 44)), σ)
    ) else none
  ) else (
  if x1 = 3 then (
    k_bd (f_X7_wedOnes   σ) (fun r5 σ5 =>
      some (r5, σ5)
    )
  ) else (
  if x1 = 4 then (
    if k_in 49 250 then (
      some ((σ 68 (k_n 49)), σ)
    ) else none
  ) else (
    some ((-1), σ)
  )))))
set_option maxRecDepth 100000 in
theorem c_X7_rule (E : k_EV)   (x1 : Int32) (σ : k_Mem) : k_MC m_X7_rule E k_vi [k_rf E 67, .int x1] σ (f_X7_rule x1 σ) := by
  refine k_MC_of ⟨by decide, by decide⟩ (Nat.le_of_ble_eq_true rfl) ?_
  show k_GO _ _ _ 0 [(0, k_rf E 67), (1, .int x1)] [] σ _
  unfold f_X7_rule
  refine r_iload_n 1 rfl rfl 1 rfl dX7_rule_0 ?_
  refine r_split (fun c1 => ?_) (fun c1 => ?_)
  · refine r_tin 0 c1 35 36 (by decide) (by decide) (by decide) (by decide) dX7_rule_1 ?_
    refine r_aload_n 0 rfl rfl 37 rfl dX7_rule_36 ?_
    refine r_geti fl_X7_147 sh_67 rfl 40 rfl dX7_rule_37 ?_
    exact r_iret rfl dX7_rule_40
  refine r_split (fun c2 => ?_) (fun c2 => ?_)
  · refine r_tin 1 c2 40 41 (by decide) (by decide) (by decide) (by decide) dX7_rule_1 ?_
    refine r_aload_n 0 rfl rfl 42 rfl dX7_rule_41 ?_
    refine r_geti fl_X7_150 sh_67 rfl 45 rfl dX7_rule_42 ?_
    exact r_iret rfl dX7_rule_45
  refine r_split (fun c3 => ?_) (fun c3 => ?_)
  · refine r_tin 2 c3 45 46 (by decide) (by decide) (by decide) (by decide) dX7_rule_1 ?_
    refine r_aload_n 0 rfl rfl 47 rfl dX7_rule_46 ?_
    refine r_getr fl_X7_7 sh_67 rfl 50 rfl dX7_rule_47 ?_
    refine r_bipush 44 (by decide) 52 rfl dX7_rule_50 ?_
    refine r_iald sh_68 53 rfl dX7_rule_52 ?_
    exact r_iret rfl dX7_rule_53
  refine r_split (fun c4 => ?_) (fun c4 => ?_)
  · refine r_tin 3 c4 53 54 (by decide) (by decide) (by decide) (by decide) dX7_rule_1 ?_
    refine r_aload_n 0 rfl rfl 55 rfl dX7_rule_54 ?_
    refine r_calli (c_X7_wedOnes E    _) rfl sh_67 rfl ml_X7_165 cw_X7_wedOnes vw_X7_wedOnes (by decide) (Nat.le_of_ble_eq_true rfl) 58 rfl dX7_rule_55 (fun r5 σ5 => ?_)
    exact r_iret rfl dX7_rule_58
  refine r_split (fun c6 => ?_) (fun c6 => ?_)
  · refine r_tin 4 c6 58 59 (by decide) (by decide) (by decide) (by decide) dX7_rule_1 ?_
    refine r_aload_n 0 rfl rfl 60 rfl dX7_rule_59 ?_
    refine r_getr fl_X7_7 sh_67 rfl 63 rfl dX7_rule_60 ?_
    refine r_bipush 49 (by decide) 65 rfl dX7_rule_63 ?_
    refine r_iald sh_68 66 rfl dX7_rule_65 ?_
    exact r_iret rfl dX7_rule_66
  refine r_tout 67 (by have hc1 := lv_neT c1 (k := 0) (a := 0) (by decide); have hc2 := lv_neT c2 (k := 1) (a := 1) (by decide); have hc3 := lv_neT c3 (k := 2) (a := 2) (by decide); have hc4 := lv_neT c4 (k := 3) (a := 3) (by decide); have hc6 := lv_neT c6 (k := 4) (a := 4) (by decide); omega) (by decide) dX7_rule_1 ?_
  refine r_iconst (-1) (by decide) 68 rfl dX7_rule_67 ?_
  exact r_iret rfl dX7_rule_68
/-! HandMarketModel.isHand(I)Z -/
def f_X7_isHand  (x1 : Int32) (σ : k_Mem) : Option (Int32 × k_Mem) :=
  k_bd (f_X7_in  (Int32.toInt64 x1) 0 (Int32.toInt64 ((σ 67 1) - 1)) σ) (fun r1 σ1 =>
    if r1 = 0 then (
      k_bd (f_X7_in  (Int32.toInt64 x1) 4 (Int32.toInt64 ((4 + (σ1 67 2)) - 1)) σ1) (fun r3 σ3 =>
        if r3 = 0 then (
          some (0, σ3)
        ) else (
          some (1, σ3)
        )
      )
    ) else (
      some (1, σ1)
    )
  )
set_option maxRecDepth 100000 in
theorem c_X7_isHand (E : k_EV)   (x1 : Int32) (σ : k_Mem) : k_MC m_X7_isHand E k_vi [k_rf E 67, .int x1] σ (f_X7_isHand x1 σ) := by
  refine k_MC_of ⟨by decide, by decide⟩ (Nat.le_of_ble_eq_true rfl) ?_
  show k_GO _ _ _ 0 [(0, k_rf E 67), (1, .int x1)] [] σ _
  unfold f_X7_isHand
  refine r_iload_n 1 rfl rfl 1 rfl dX7_isHand_0 ?_
  refine r_i2l 2 rfl dX7_isHand_1 ?_
  refine r_lconst 0 (by decide) 3 rfl dX7_isHand_2 ?_
  refine r_aload_n 0 rfl rfl 4 rfl dX7_isHand_3 ?_
  refine r_geti fl_X7_147 sh_67 rfl 7 rfl dX7_isHand_4 ?_
  refine r_iconst 1 (by decide) 8 rfl dX7_isHand_7 ?_
  refine r_isub 9 rfl dX7_isHand_8 ?_
  refine r_i2l 10 rfl dX7_isHand_9 ?_
  refine r_callsi (c_X7_in E   _ _ _ _) rfl ml_X7_58 cw_X7_in sw_X7_in (by decide) (Nat.le_of_ble_eq_true rfl) 13 rfl dX7_isHand_10 (fun r1 σ1 => ?_)
  refine r_if_ne 36 16 rfl (by decide) dX7_isHand_13 (fun c2 => ?_) (fun c2 => ?_)
  · refine r_iload_n 1 rfl rfl 17 rfl dX7_isHand_16 ?_
    refine r_i2l 18 rfl dX7_isHand_17 ?_
    refine r_ldc2 cs_X7_156 21 rfl dX7_isHand_18 ?_
    refine r_iconst 4 (by decide) 22 rfl dX7_isHand_21 ?_
    refine r_aload_n 0 rfl rfl 23 rfl dX7_isHand_22 ?_
    refine r_geti fl_X7_150 sh_67 rfl 26 rfl dX7_isHand_23 ?_
    refine r_iadd 27 rfl dX7_isHand_26 ?_
    refine r_iconst 1 (by decide) 28 rfl dX7_isHand_27 ?_
    refine r_isub 29 rfl dX7_isHand_28 ?_
    refine r_i2l 30 rfl dX7_isHand_29 ?_
    refine r_callsi (c_X7_in E   _ _ _ _) rfl ml_X7_58 cw_X7_in sw_X7_in (by decide) (Nat.le_of_ble_eq_true rfl) 33 rfl dX7_isHand_30 (fun r3 σ3 => ?_)
    refine r_if_eq 40 36 rfl (by decide) dX7_isHand_33 (fun c4 => ?_) (fun c4 => ?_)
    · refine r_iconst 0 (by decide) 41 rfl dX7_isHand_40 ?_
      exact r_zret rfl (Or.inl rfl) dX7_isHand_41
    · refine r_iconst 1 (by decide) 37 rfl dX7_isHand_36 ?_
      refine r_goto 41 (by decide) dX7_isHand_37 ?_
      exact r_zret rfl (Or.inr rfl) dX7_isHand_41
  · refine r_iconst 1 (by decide) 37 rfl dX7_isHand_36 ?_
    refine r_goto 41 (by decide) dX7_isHand_37 ?_
    exact r_zret rfl (Or.inr rfl) dX7_isHand_41
/-! HandMarketModel.penOf(I)I -/
def f_X7_penOf  (x1 : Int32) (σ : k_Mem) : Option (Int32 × k_Mem) :=
  if k_in (32 + x1) 250 then (
    some (((σ 68 (k_n (32 + x1))) + x1), σ)
  ) else none
set_option maxRecDepth 100000 in
theorem c_X7_penOf (E : k_EV)   (x1 : Int32) (σ : k_Mem) : k_MC m_X7_penOf E k_vi [k_rf E 67, .int x1] σ (f_X7_penOf x1 σ) := by
  refine k_MC_of ⟨by decide, by decide⟩ (Nat.le_of_ble_eq_true rfl) ?_
  show k_GO _ _ _ 0 [(0, k_rf E 67), (1, .int x1)] [] σ _
  unfold f_X7_penOf
  refine r_aload_n 0 rfl rfl 1 rfl dX7_penOf_0 ?_
  refine r_getr fl_X7_7 sh_67 rfl 4 rfl dX7_penOf_1 ?_
  refine r_bipush 32 (by decide) 6 rfl dX7_penOf_4 ?_
  refine r_iload_n 1 rfl rfl 7 rfl dX7_penOf_6 ?_
  refine r_iadd 8 rfl dX7_penOf_7 ?_
  refine r_iald sh_68 9 rfl dX7_penOf_8 ?_
  refine r_iload_n 1 rfl rfl 10 rfl dX7_penOf_9 ?_
  refine r_iadd 11 rfl dX7_penOf_10 ?_
  exact r_iret rfl dX7_penOf_11
/-! HandMarketModel.areFolded(II)Z -/
def j_X7_areFolded_21   (x3 : Int32) (xs0 : Int32) (σ : k_Mem) : Option (Int32 × k_Mem) :=
  if k_in (40 + x3) 250 then (
    if ((k_shr (σ 68 (k_n (40 + x3))) xs0) &&& 1) = 1 then (
      some (1, σ)
    ) else (
      some (0, σ)
    )
  ) else none
set_option maxRecDepth 100000 in
theorem gj_X7_areFolded_21 (E : k_EV)     (x3 : Int32) (xs0 : Int32)  (σ : k_Mem) : k_GO m_X7_areFolded E k_vi 21 [(0, k_rf E 67), (3, .int x3)] [.int xs0] σ (j_X7_areFolded_21   x3 xs0 σ) := by
  unfold j_X7_areFolded_21
  refine r_istore [(4, .int _), (0, k_rf E 67), (3, .int _)] rfl (by decide) 23 rfl dX7_areFolded_21 ?_
  refine r_aload_n 1 rfl rfl 24 rfl dX7_areFolded_23 ?_
  refine r_getr fl_X7_7 sh_67 rfl 27 rfl dX7_areFolded_24 ?_
  refine r_bipush 40 (by decide) 29 rfl dX7_areFolded_27 ?_
  refine r_iload_n 2 rfl rfl 30 rfl dX7_areFolded_29 ?_
  refine r_iadd 31 rfl dX7_areFolded_30 ?_
  refine r_iald sh_68 32 rfl dX7_areFolded_31 ?_
  refine r_iload 0 rfl 34 rfl dX7_areFolded_32 ?_
  refine r_ishr 35 rfl dX7_areFolded_34 ?_
  refine r_iconst 1 (by decide) 36 rfl dX7_areFolded_35 ?_
  refine r_iand 37 rfl dX7_areFolded_36 ?_
  refine r_iconst 1 (by decide) 38 rfl dX7_areFolded_37 ?_
  refine r_icmp_ne 45 41 rfl (by decide) dX7_areFolded_38 (fun c3 => ?_) (fun c3 => ?_)
  · refine r_iconst 1 (by decide) 42 rfl dX7_areFolded_41 ?_
    refine r_goto 46 (by decide) dX7_areFolded_42 ?_
    exact r_zret rfl (Or.inr rfl) dX7_areFolded_46
  · refine r_iconst 0 (by decide) 46 rfl dX7_areFolded_45 ?_
    exact r_zret rfl (Or.inl rfl) dX7_areFolded_46
def j_X7_areFolded_10   (x1 : Int32) (x2 : Int32) (xs0 : Int32) (σ : k_Mem) : Option (Int32 × k_Mem) :=
  if x2 ≤ x1 then (
    j_X7_areFolded_21   xs0 x1 σ
  ) else (
    j_X7_areFolded_21   xs0 x2 σ
  )
set_option maxRecDepth 100000 in
theorem gj_X7_areFolded_10 (E : k_EV)     (x1 : Int32) (x2 : Int32) (xs0 : Int32)  (σ : k_Mem) : k_GO m_X7_areFolded E k_vi 10 [(0, k_rf E 67), (1, .int x1), (2, .int x2)] [.int xs0] σ (j_X7_areFolded_10   x1 x2 xs0 σ) := by
  unfold j_X7_areFolded_10
  refine r_istore_n [(3, .int _), (0, k_rf E 67), (1, .int _), (2, .int _)] rfl rfl (by decide) 11 rfl dX7_areFolded_10 ?_
  refine r_iload_n 2 rfl rfl 12 rfl dX7_areFolded_11 ?_
  refine r_iload_n 3 rfl rfl 13 rfl dX7_areFolded_12 ?_
  refine r_icmp_ge 20 16 rfl (by decide) dX7_areFolded_13 (fun c2 => ?_) (fun c2 => ?_)
  · refine r_iload_n 2 rfl rfl 21 rfl dX7_areFolded_20 ?_
    exact r_sub [1, 0] rfl (gj_X7_areFolded_21 E     _ _  _)
  · refine r_iload_n 3 rfl rfl 17 rfl dX7_areFolded_16 ?_
    refine r_goto 21 (by decide) dX7_areFolded_17 ?_
    exact r_sub [1, 0] rfl (gj_X7_areFolded_21 E     _ _  _)
def f_X7_areFolded  (x1 : Int32) (x2 : Int32) (σ : k_Mem) : Option (Int32 × k_Mem) :=
  if x2 ≤ x1 then (
    j_X7_areFolded_10   x1 x2 x2 σ
  ) else (
    j_X7_areFolded_10   x1 x2 x1 σ
  )
set_option maxRecDepth 100000 in
theorem c_X7_areFolded (E : k_EV)   (x1 : Int32) (x2 : Int32) (σ : k_Mem) : k_MC m_X7_areFolded E k_vi [k_rf E 67, .int x1, .int x2] σ (f_X7_areFolded x1 x2 σ) := by
  refine k_MC_of ⟨by decide, by decide⟩ (Nat.le_of_ble_eq_true rfl) ?_
  show k_GO _ _ _ 0 [(0, k_rf E 67), (1, .int x1), (2, .int x2)] [] σ _
  unfold f_X7_areFolded
  refine r_iload_n 1 rfl rfl 1 rfl dX7_areFolded_0 ?_
  refine r_iload_n 2 rfl rfl 2 rfl dX7_areFolded_1 ?_
  refine r_icmp_ge 9 5 rfl (by decide) dX7_areFolded_2 (fun c1 => ?_) (fun c1 => ?_)
  · refine r_iload_n 2 rfl rfl 10 rfl dX7_areFolded_9 ?_
    exact r_sub [0, 1, 2] rfl (gj_X7_areFolded_10 E     _ _ _  _)
  · refine r_iload_n 1 rfl rfl 6 rfl dX7_areFolded_5 ?_
    refine r_goto 10 (by decide) dX7_areFolded_6 ?_
    exact r_sub [0, 1, 2] rfl (gj_X7_areFolded_10 E     _ _ _  _)
/-! HandMarketModel.foldedWith(I)I -/
def j_X7_foldedWith_36  (k4 : Int32 → Int32 → Int32 → k_Mem → Option (Int32 × k_Mem)) (x1 : Int32) (x3 : Int32) (xs0 : Int32) (xs1 : Int32) (σ : k_Mem) : Option (Int32 × k_Mem) :=
  k4 x1 (xs0 ||| xs1) (x3 + 1) σ
set_option maxRecDepth 100000 in
theorem gj_X7_foldedWith_36 (E : k_EV)   (k4 : Int32 → Int32 → Int32 → k_Mem → Option (Int32 × k_Mem)) (hk4 : ∀ (x1 : Int32) (x2 : Int32) (x3 : Int32)  (σ : k_Mem), k_GO m_X7_foldedWith E k_vi 4 [(0, k_rf E 67), (1, .int x1), (2, .int x2), (3, .int x3)] [] σ (k4 x1 x2 x3 σ)) (x1 : Int32) (x3 : Int32) (xs0 : Int32) (xs1 : Int32)  (σ : k_Mem) : k_GO m_X7_foldedWith E k_vi 36 [(0, k_rf E 67), (1, .int x1), (3, .int x3)] [.int xs1, .int xs0] σ (j_X7_foldedWith_36  k4 x1 x3 xs0 xs1 σ) := by
  unfold j_X7_foldedWith_36
  refine r_ior 37 rfl dX7_foldedWith_36 ?_
  refine r_istore_n [(2, .int _), (0, k_rf E 67), (1, .int _), (3, .int _)] rfl rfl (by decide) 38 rfl dX7_foldedWith_37 ?_
  refine r_iinc 1 (by decide) 3 rfl [(3, .int _), (2, .int _), (0, k_rf E 67), (1, .int _)] rfl (by decide) 41 rfl dX7_foldedWith_38 ?_
  refine r_goto 4 (by decide) dX7_foldedWith_41 ?_
  exact r_sub [2, 3, 1, 0] rfl (hk4 _ _ _  _)
def j_X7_foldedWith_35  (k4 : Int32 → Int32 → Int32 → k_Mem → Option (Int32 × k_Mem)) (x1 : Int32) (x3 : Int32) (xs0 : Int32) (σ : k_Mem) : Option (Int32 × k_Mem) :=
  j_X7_foldedWith_36  k4 x1 x3 xs0 0 σ
set_option maxRecDepth 100000 in
theorem gj_X7_foldedWith_35 (E : k_EV)   (k4 : Int32 → Int32 → Int32 → k_Mem → Option (Int32 × k_Mem)) (hk4 : ∀ (x1 : Int32) (x2 : Int32) (x3 : Int32)  (σ : k_Mem), k_GO m_X7_foldedWith E k_vi 4 [(0, k_rf E 67), (1, .int x1), (2, .int x2), (3, .int x3)] [] σ (k4 x1 x2 x3 σ)) (x1 : Int32) (x3 : Int32) (xs0 : Int32)  (σ : k_Mem) : k_GO m_X7_foldedWith E k_vi 35 [(0, k_rf E 67), (1, .int x1), (3, .int x3)] [.int xs0] σ (j_X7_foldedWith_35  k4 x1 x3 xs0 σ) := by
  unfold j_X7_foldedWith_35
  refine r_iconst 0 (by decide) 36 rfl dX7_foldedWith_35 ?_
  exact r_sub [0, 1, 2] rfl (gj_X7_foldedWith_36 E   _ hk4 _ _ _ _  _)
def l_X7_foldedWith_4   : Nat → Int32 → Int32 → Int32 → k_Mem → Option (Int32 × k_Mem)
  | 0, _, _, _, _ => none
  | n + 1, x1, x2, x3, σ =>
    if 8 ≤ x3 then (
      some (x2, σ)
    ) else (
      if (x1 / 4) = (x3 / 4) then (
        j_X7_foldedWith_35  (fun x1 x2 x3 σ => l_X7_foldedWith_4   n x1 x2 x3 σ) x1 x3 x2 σ
      ) else (
        k_bd (f_X7_areFolded  x1 x3 σ) (fun r3 σ3 =>
          if r3 = 0 then (
            j_X7_foldedWith_35  (fun x1 x2 x3 σ => l_X7_foldedWith_4   n x1 x2 x3 σ) x1 x3 x2 σ3
          ) else (
            j_X7_foldedWith_36  (fun x1 x2 x3 σ => l_X7_foldedWith_4   n x1 x2 x3 σ) x1 x3 x2 (k_shl 1 x3) σ3
          )
        )
      )
    )
set_option maxRecDepth 100000 in
theorem gl_X7_foldedWith_4 (E : k_EV)     : ∀ (n : Nat) (x1 : Int32) (x2 : Int32) (x3 : Int32)  (σ : k_Mem), k_GO m_X7_foldedWith E k_vi 4 [(0, k_rf E 67), (1, .int x1), (2, .int x2), (3, .int x3)] [] σ (l_X7_foldedWith_4   n x1 x2 x3 σ) := by
  intro n
  induction n with
  | zero => intro x1 x2 x3  σ; exact r_none
  | succ n ih =>
    intro x1 x2 x3  σ
    rw [l_X7_foldedWith_4]
    refine r_iload_n 3 rfl rfl 5 rfl dX7_foldedWith_4 ?_
    refine r_bipush 8 (by decide) 7 rfl dX7_foldedWith_5 ?_
    refine r_icmp_ge 44 10 rfl (by decide) dX7_foldedWith_7 (fun c1 => ?_) (fun c1 => ?_)
    · refine r_iload_n 2 rfl rfl 45 rfl dX7_foldedWith_44 ?_
      exact r_iret rfl dX7_foldedWith_45
    · refine r_iload_n 2 rfl rfl 11 rfl dX7_foldedWith_10 ?_
      refine r_iload_n 1 rfl rfl 12 rfl dX7_foldedWith_11 ?_
      refine r_iconst 4 (by decide) 13 rfl dX7_foldedWith_12 ?_
      refine r_idiv (by decide) 14 rfl dX7_foldedWith_13 ?_
      refine r_iload_n 3 rfl rfl 15 rfl dX7_foldedWith_14 ?_
      refine r_iconst 4 (by decide) 16 rfl dX7_foldedWith_15 ?_
      refine r_idiv (by decide) 17 rfl dX7_foldedWith_16 ?_
      refine r_icmp_eq 35 20 rfl (by decide) dX7_foldedWith_17 (fun c2 => ?_) (fun c2 => ?_)
      · exact r_sub [0, 1, 3] rfl (gj_X7_foldedWith_35 E   _ (fun x1 x2 x3  σ => ih x1 x2 x3  σ) _ _ _  _)
      · refine r_aload_n 0 rfl rfl 21 rfl dX7_foldedWith_20 ?_
        refine r_iload_n 1 rfl rfl 22 rfl dX7_foldedWith_21 ?_
        refine r_iload_n 3 rfl rfl 23 rfl dX7_foldedWith_22 ?_
        refine r_calli (c_X7_areFolded E   _ _ _) rfl sh_67 rfl ml_X7_168 cw_X7_areFolded vw_X7_areFolded (by decide) (Nat.le_of_ble_eq_true rfl) 26 rfl dX7_foldedWith_23 (fun r3 σ3 => ?_)
        refine r_if_eq 35 29 rfl (by decide) dX7_foldedWith_26 (fun c4 => ?_) (fun c4 => ?_)
        · exact r_sub [0, 1, 3] rfl (gj_X7_foldedWith_35 E   _ (fun x1 x2 x3  σ => ih x1 x2 x3  σ) _ _ _  _)
        · refine r_iconst 1 (by decide) 30 rfl dX7_foldedWith_29 ?_
          refine r_iload_n 3 rfl rfl 31 rfl dX7_foldedWith_30 ?_
          refine r_ishl 32 rfl dX7_foldedWith_31 ?_
          refine r_goto 36 (by decide) dX7_foldedWith_32 ?_
          exact r_sub [0, 1, 3] rfl (gj_X7_foldedWith_36 E   _ (fun x1 x2 x3  σ => ih x1 x2 x3  σ) _ _ _ _  _)
def f_X7_foldedWith  (x1 : Int32) (σ : k_Mem) : Option (Int32 × k_Mem) :=
  l_X7_foldedWith_4   1000 x1 0 0 σ
set_option maxRecDepth 100000 in
theorem c_X7_foldedWith (E : k_EV)   (x1 : Int32) (σ : k_Mem) : k_MC m_X7_foldedWith E k_vi [k_rf E 67, .int x1] σ (f_X7_foldedWith x1 σ) := by
  refine k_MC_of ⟨by decide, by decide⟩ (Nat.le_of_ble_eq_true rfl) ?_
  show k_GO _ _ _ 0 [(0, k_rf E 67), (1, .int x1)] [] σ _
  unfold f_X7_foldedWith
  refine r_iconst 0 (by decide) 1 rfl dX7_foldedWith_0 ?_
  refine r_istore_n [(2, .int _), (0, k_rf E 67), (1, .int _)] rfl rfl (by decide) 2 rfl dX7_foldedWith_1 ?_
  refine r_iconst 0 (by decide) 3 rfl dX7_foldedWith_2 ?_
  refine r_istore_n [(3, .int _), (2, .int _), (0, k_rf E 67), (1, .int _)] rfl rfl (by decide) 4 rfl dX7_foldedWith_3 ?_
  exact r_sub [2, 3, 1, 0] rfl (gl_X7_foldedWith_4 E     1000 _ _ _  _)
/-! HandMarketModel.hand(II)I -/
def j_X7_hand_52   (x1 : Int32) (x2 : Int32) (σ : k_Mem) : Option (Int32 × k_Mem) :=
  if k_in ((8 * x2) + x1) 250 then (
    some ((σ 68 (k_n ((8 * x2) + x1))), σ)
  ) else none
set_option maxRecDepth 100000 in
theorem gj_X7_hand_52 (E : k_EV)     (x1 : Int32) (x2 : Int32)  (σ : k_Mem) : k_GO m_X7_hand E k_vi 52 [(0, k_rf E 67), (1, .int x1), (2, .int x2)] [] σ (j_X7_hand_52   x1 x2 σ) := by
  unfold j_X7_hand_52
  refine r_aload_n 0 rfl rfl 53 rfl dX7_hand_52 ?_
  refine r_getr fl_X7_7 sh_67 rfl 56 rfl dX7_hand_53 ?_
  refine r_bipush 8 (by decide) 58 rfl dX7_hand_56 ?_
  refine r_iload_n 2 rfl rfl 59 rfl dX7_hand_58 ?_
  refine r_imul 60 rfl dX7_hand_59 ?_
  refine r_iload_n 1 rfl rfl 61 rfl dX7_hand_60 ?_
  refine r_iadd 62 rfl dX7_hand_61 ?_
  refine r_iald sh_68 63 rfl dX7_hand_62 ?_
  exact r_iret rfl dX7_hand_63
def f_X7_hand  (x1 : Int32) (x2 : Int32) (σ : k_Mem) : Option (Int32 × k_Mem) :=
  k_bd (f_X7_isHand  x1 σ) (fun r1 σ1 =>
    if r1 = 0 then (
      some ((-1), σ1)
    ) else (
      if x2 = 0 then (
        j_X7_hand_52   x1 x2 σ1
      ) else (
      if x2 = 1 then (
        j_X7_hand_52   x1 x2 σ1
      ) else (
      if x2 = 2 then (
        j_X7_hand_52   x1 x2 σ1
      ) else (
      if x2 = 3 then (
        j_X7_hand_52   x1 x2 σ1
      ) else (
      if x2 = 4 then (
        k_bd (f_X7_penOf  x1 σ1) (fun r8 σ8 =>
          some (r8, σ8)
        )
      ) else (
      if x2 = 5 then (
        k_bd (f_X7_wedTo  x1 σ1) (fun r10 σ10 =>
          some (r10, σ10)
        )
      ) else (
      if x2 = 6 then (
        k_bd (f_X7_foldedWith  x1 σ1) (fun r12 σ12 =>
          some (r12, σ12)
        )
      ) else (
        some ((-1), σ1)
      )))))))
    )
  )
set_option maxRecDepth 100000 in
theorem c_X7_hand (E : k_EV)   (x1 : Int32) (x2 : Int32) (σ : k_Mem) : k_MC m_X7_hand E k_vi [k_rf E 67, .int x1, .int x2] σ (f_X7_hand x1 x2 σ) := by
  refine k_MC_of ⟨by decide, by decide⟩ (Nat.le_of_ble_eq_true rfl) ?_
  show k_GO _ _ _ 0 [(0, k_rf E 67), (1, .int x1), (2, .int x2)] [] σ _
  unfold f_X7_hand
  refine r_aload_n 0 rfl rfl 1 rfl dX7_hand_0 ?_
  refine r_iload_n 1 rfl rfl 2 rfl dX7_hand_1 ?_
  refine r_calli (c_X7_isHand E   _ _) rfl sh_67 rfl ml_X7_158 cw_X7_isHand vw_X7_isHand (by decide) (Nat.le_of_ble_eq_true rfl) 5 rfl dX7_hand_2 (fun r1 σ1 => ?_)
  refine r_if_ne 10 8 rfl (by decide) dX7_hand_5 (fun c2 => ?_) (fun c2 => ?_)
  · refine r_iconst (-1) (by decide) 9 rfl dX7_hand_8 ?_
    exact r_iret rfl dX7_hand_9
  · refine r_iload_n 2 rfl rfl 11 rfl dX7_hand_10 ?_
    refine r_split (fun c3 => ?_) (fun c3 => ?_)
    · refine r_tin 0 c3 41 52 (by decide) (by decide) (by decide) (by decide) dX7_hand_11 ?_
      exact r_sub [0, 1, 2] rfl (gj_X7_hand_52 E     _ _  _)
    refine r_split (fun c4 => ?_) (fun c4 => ?_)
    · refine r_tin 1 c4 41 52 (by decide) (by decide) (by decide) (by decide) dX7_hand_11 ?_
      exact r_sub [0, 1, 2] rfl (gj_X7_hand_52 E     _ _  _)
    refine r_split (fun c5 => ?_) (fun c5 => ?_)
    · refine r_tin 2 c5 41 52 (by decide) (by decide) (by decide) (by decide) dX7_hand_11 ?_
      exact r_sub [0, 1, 2] rfl (gj_X7_hand_52 E     _ _  _)
    refine r_split (fun c6 => ?_) (fun c6 => ?_)
    · refine r_tin 3 c6 41 52 (by decide) (by decide) (by decide) (by decide) dX7_hand_11 ?_
      exact r_sub [0, 1, 2] rfl (gj_X7_hand_52 E     _ _  _)
    refine r_split (fun c7 => ?_) (fun c7 => ?_)
    · refine r_tin 4 c7 53 64 (by decide) (by decide) (by decide) (by decide) dX7_hand_11 ?_
      refine r_aload_n 0 rfl rfl 65 rfl dX7_hand_64 ?_
      refine r_iload_n 1 rfl rfl 66 rfl dX7_hand_65 ?_
      refine r_calli (c_X7_penOf E   _ _) rfl sh_67 rfl ml_X7_172 cw_X7_penOf vw_X7_penOf (by decide) (Nat.le_of_ble_eq_true rfl) 69 rfl dX7_hand_66 (fun r8 σ8 => ?_)
      exact r_iret rfl dX7_hand_69
    refine r_split (fun c9 => ?_) (fun c9 => ?_)
    · refine r_tin 5 c9 59 70 (by decide) (by decide) (by decide) (by decide) dX7_hand_11 ?_
      refine r_aload_n 0 rfl rfl 71 rfl dX7_hand_70 ?_
      refine r_iload_n 1 rfl rfl 72 rfl dX7_hand_71 ?_
      refine r_calli (c_X7_wedTo E   _ _) rfl sh_67 rfl ml_X7_162 cw_X7_wedTo vw_X7_wedTo (by decide) (Nat.le_of_ble_eq_true rfl) 75 rfl dX7_hand_72 (fun r10 σ10 => ?_)
      exact r_iret rfl dX7_hand_75
    refine r_split (fun c11 => ?_) (fun c11 => ?_)
    · refine r_tin 6 c11 65 76 (by decide) (by decide) (by decide) (by decide) dX7_hand_11 ?_
      refine r_aload_n 0 rfl rfl 77 rfl dX7_hand_76 ?_
      refine r_iload_n 1 rfl rfl 78 rfl dX7_hand_77 ?_
      refine r_calli (c_X7_foldedWith E   _ _) rfl sh_67 rfl ml_X7_175 cw_X7_foldedWith vw_X7_foldedWith (by decide) (Nat.le_of_ble_eq_true rfl) 81 rfl dX7_hand_78 (fun r12 σ12 => ?_)
      exact r_iret rfl dX7_hand_81
    refine r_tout 82 (by have hc3 := lv_neT c3 (k := 0) (a := 0) (by decide); have hc4 := lv_neT c4 (k := 1) (a := 1) (by decide); have hc5 := lv_neT c5 (k := 2) (a := 2) (by decide); have hc6 := lv_neT c6 (k := 3) (a := 3) (by decide); have hc7 := lv_neT c7 (k := 4) (a := 4) (by decide); have hc9 := lv_neT c9 (k := 5) (a := 5) (by decide); have hc11 := lv_neT c11 (k := 6) (a := 6) (by decide); omega) (by decide) dX7_hand_11 ?_
    refine r_iconst (-1) (by decide) 83 rfl dX7_hand_82 ?_
    exact r_iret rfl dX7_hand_83
/-! HandMarketModel.isRun(I)Z -/
def f_X7_isRun  (x1 : Int32) (σ : k_Mem) : Option (Int32 × k_Mem) :=
  if k_in 44 250 then (
    if ((k_shr (σ 68 (k_n 44)) x1) &&& 1) = 1 then (
      some (1, σ)
    ) else (
      some (0, σ)
    )
  ) else none
set_option maxRecDepth 100000 in
theorem c_X7_isRun (E : k_EV)   (x1 : Int32) (σ : k_Mem) : k_MC m_X7_isRun E k_vi [k_rf E 67, .int x1] σ (f_X7_isRun x1 σ) := by
  refine k_MC_of ⟨by decide, by decide⟩ (Nat.le_of_ble_eq_true rfl) ?_
  show k_GO _ _ _ 0 [(0, k_rf E 67), (1, .int x1)] [] σ _
  unfold f_X7_isRun
  refine r_aload_n 0 rfl rfl 1 rfl dX7_isRun_0 ?_
  refine r_getr fl_X7_7 sh_67 rfl 4 rfl dX7_isRun_1 ?_
  refine r_bipush 44 (by decide) 6 rfl dX7_isRun_4 ?_
  refine r_iald sh_68 7 rfl dX7_isRun_6 ?_
  refine r_iload_n 1 rfl rfl 8 rfl dX7_isRun_7 ?_
  refine r_ishr 9 rfl dX7_isRun_8 ?_
  refine r_iconst 1 (by decide) 10 rfl dX7_isRun_9 ?_
  refine r_iand 11 rfl dX7_isRun_10 ?_
  refine r_iconst 1 (by decide) 12 rfl dX7_isRun_11 ?_
  refine r_icmp_ne 19 15 rfl (by decide) dX7_isRun_12 (fun c1 => ?_) (fun c1 => ?_)
  · refine r_iconst 1 (by decide) 16 rfl dX7_isRun_15 ?_
    refine r_goto 20 (by decide) dX7_isRun_16 ?_
    exact r_zret rfl (Or.inr rfl) dX7_isRun_20
  · refine r_iconst 0 (by decide) 20 rfl dX7_isRun_19 ?_
    exact r_zret rfl (Or.inl rfl) dX7_isRun_20
/-! HandMarketModel.runsWith(I)I -/
def j_X7_runsWith_20   (x1 : Int32) (σ : k_Mem) : Option (Int32 × k_Mem) :=
  k_bd (f_X7_isRun  x1 σ) (fun r2 σ2 =>
    if r2 = 0 then (
      some (x1, σ2)
    ) else (
      if 3 ≤ (k_rem x1 4) then (
        some (x1, σ2)
      ) else (
        k_bd (f_X7_isHand  (x1 + 1) σ2) (fun r5 σ5 =>
          if r5 = 0 then (
            some (x1, σ5)
          ) else (
            some ((x1 + 1), σ5)
          )
        )
      )
    )
  )
set_option maxRecDepth 100000 in
theorem gj_X7_runsWith_20 (E : k_EV)     (x1 : Int32)  (σ : k_Mem) : k_GO m_X7_runsWith E k_vi 20 [(0, k_rf E 67), (1, .int x1)] [] σ (j_X7_runsWith_20   x1 σ) := by
  unfold j_X7_runsWith_20
  refine r_aload_n 0 rfl rfl 21 rfl dX7_runsWith_20 ?_
  refine r_iload_n 1 rfl rfl 22 rfl dX7_runsWith_21 ?_
  refine r_calli (c_X7_isRun E   _ _) rfl sh_67 rfl ml_X7_178 cw_X7_isRun vw_X7_isRun (by decide) (Nat.le_of_ble_eq_true rfl) 25 rfl dX7_runsWith_22 (fun r2 σ2 => ?_)
  refine r_if_eq 51 28 rfl (by decide) dX7_runsWith_25 (fun c3 => ?_) (fun c3 => ?_)
  · refine r_iload_n 1 rfl rfl 52 rfl dX7_runsWith_51 ?_
    exact r_iret rfl dX7_runsWith_52
  · refine r_iload_n 1 rfl rfl 29 rfl dX7_runsWith_28 ?_
    refine r_iconst 4 (by decide) 30 rfl dX7_runsWith_29 ?_
    refine r_irem (by decide) 31 rfl dX7_runsWith_30 ?_
    refine r_iconst 3 (by decide) 32 rfl dX7_runsWith_31 ?_
    refine r_icmp_ge 51 35 rfl (by decide) dX7_runsWith_32 (fun c4 => ?_) (fun c4 => ?_)
    · refine r_iload_n 1 rfl rfl 52 rfl dX7_runsWith_51 ?_
      exact r_iret rfl dX7_runsWith_52
    · refine r_aload_n 0 rfl rfl 36 rfl dX7_runsWith_35 ?_
      refine r_iload_n 1 rfl rfl 37 rfl dX7_runsWith_36 ?_
      refine r_iconst 1 (by decide) 38 rfl dX7_runsWith_37 ?_
      refine r_iadd 39 rfl dX7_runsWith_38 ?_
      refine r_calli (c_X7_isHand E   _ _) rfl sh_67 rfl ml_X7_158 cw_X7_isHand vw_X7_isHand (by decide) (Nat.le_of_ble_eq_true rfl) 42 rfl dX7_runsWith_39 (fun r5 σ5 => ?_)
      refine r_if_eq 51 45 rfl (by decide) dX7_runsWith_42 (fun c6 => ?_) (fun c6 => ?_)
      · refine r_iload_n 1 rfl rfl 52 rfl dX7_runsWith_51 ?_
        exact r_iret rfl dX7_runsWith_52
      · refine r_iload_n 1 rfl rfl 46 rfl dX7_runsWith_45 ?_
        refine r_iconst 1 (by decide) 47 rfl dX7_runsWith_46 ?_
        refine r_iadd 48 rfl dX7_runsWith_47 ?_
        refine r_goto 52 (by decide) dX7_runsWith_48 ?_
        exact r_iret rfl dX7_runsWith_52
def f_X7_runsWith  (x1 : Int32) (σ : k_Mem) : Option (Int32 × k_Mem) :=
  if (k_rem x1 4) ≤ 0 then (
    j_X7_runsWith_20   x1 σ
  ) else (
    k_bd (f_X7_isRun  (x1 - 1) σ) (fun r7 σ7 =>
      if r7 = 0 then (
        j_X7_runsWith_20   x1 σ7
      ) else (
        some ((x1 - 1), σ7)
      )
    )
  )
set_option maxRecDepth 100000 in
theorem c_X7_runsWith (E : k_EV)   (x1 : Int32) (σ : k_Mem) : k_MC m_X7_runsWith E k_vi [k_rf E 67, .int x1] σ (f_X7_runsWith x1 σ) := by
  refine k_MC_of ⟨by decide, by decide⟩ (Nat.le_of_ble_eq_true rfl) ?_
  show k_GO _ _ _ 0 [(0, k_rf E 67), (1, .int x1)] [] σ _
  unfold f_X7_runsWith
  refine r_iload_n 1 rfl rfl 1 rfl dX7_runsWith_0 ?_
  refine r_iconst 4 (by decide) 2 rfl dX7_runsWith_1 ?_
  refine r_irem (by decide) 3 rfl dX7_runsWith_2 ?_
  refine r_if_le 20 6 rfl (by decide) dX7_runsWith_3 (fun c1 => ?_) (fun c1 => ?_)
  · exact r_sub [0, 1] rfl (gj_X7_runsWith_20 E     _  _)
  · refine r_aload_n 0 rfl rfl 7 rfl dX7_runsWith_6 ?_
    refine r_iload_n 1 rfl rfl 8 rfl dX7_runsWith_7 ?_
    refine r_iconst 1 (by decide) 9 rfl dX7_runsWith_8 ?_
    refine r_isub 10 rfl dX7_runsWith_9 ?_
    refine r_calli (c_X7_isRun E   _ _) rfl sh_67 rfl ml_X7_178 cw_X7_isRun vw_X7_isRun (by decide) (Nat.le_of_ble_eq_true rfl) 13 rfl dX7_runsWith_10 (fun r7 σ7 => ?_)
    refine r_if_eq 20 16 rfl (by decide) dX7_runsWith_13 (fun c8 => ?_) (fun c8 => ?_)
    · exact r_sub [0, 1] rfl (gj_X7_runsWith_20 E     _  _)
    · refine r_iload_n 1 rfl rfl 17 rfl dX7_runsWith_16 ?_
      refine r_iconst 1 (by decide) 18 rfl dX7_runsWith_17 ?_
      refine r_isub 19 rfl dX7_runsWith_18 ?_
      exact r_iret rfl dX7_runsWith_19
/-! HandMarketModel.shows(II)I -/
def f_X7_shows  (x1 : Int32) (x2 : Int32) (σ : k_Mem) : Option (Int32 × k_Mem) :=
  k_bd (f_X7_penOf  x1 σ) (fun r1 σ1 =>
    if k_in ((8 + (8 * x2)) + r1) 250 then (
      k_bd (f_X7_runsWith  x1 σ1) (fun r2 σ2 =>
        if r2 = x1 then (
          some ((σ1 68 (k_n ((8 + (8 * x2)) + r1))), σ2)
        ) else (
          if x2 = 2 then (
            some ((σ1 68 (k_n ((8 + (8 * x2)) + r1))), σ2)
          ) else (
            k_bd (f_X7_penOf  r2 σ2) (fun r5 σ5 =>
              if k_in ((8 + (8 * x2)) + r5) 250 then (
                some ((((σ1 68 (k_n ((8 + (8 * x2)) + r1))) + (σ5 68 (k_n ((8 + (8 * x2)) + r5)))) / 2), σ5)
              ) else none
            )
          )
        )
      )
    ) else none
  )
set_option maxRecDepth 100000 in
theorem c_X7_shows (E : k_EV)   (x1 : Int32) (x2 : Int32) (σ : k_Mem) : k_MC m_X7_shows E k_vi [k_rf E 67, .int x1, .int x2] σ (f_X7_shows x1 x2 σ) := by
  refine k_MC_of ⟨by decide, by decide⟩ (Nat.le_of_ble_eq_true rfl) ?_
  show k_GO _ _ _ 0 [(0, k_rf E 67), (1, .int x1), (2, .int x2)] [] σ _
  unfold f_X7_shows
  refine r_aload_n 0 rfl rfl 1 rfl dX7_shows_0 ?_
  refine r_iload_n 1 rfl rfl 2 rfl dX7_shows_1 ?_
  refine r_calli (c_X7_penOf E   _ _) rfl sh_67 rfl ml_X7_172 cw_X7_penOf vw_X7_penOf (by decide) (Nat.le_of_ble_eq_true rfl) 5 rfl dX7_shows_2 (fun r1 σ1 => ?_)
  refine r_istore_n [(3, .int _), (0, k_rf E 67), (1, .int _), (2, .int _)] rfl rfl (by decide) 6 rfl dX7_shows_5 ?_
  refine r_aload_n 1 rfl rfl 7 rfl dX7_shows_6 ?_
  refine r_getr fl_X7_7 sh_67 rfl 10 rfl dX7_shows_7 ?_
  refine r_bipush 8 (by decide) 12 rfl dX7_shows_10 ?_
  refine r_bipush 8 (by decide) 14 rfl dX7_shows_12 ?_
  refine r_iload_n 3 rfl rfl 15 rfl dX7_shows_14 ?_
  refine r_imul 16 rfl dX7_shows_15 ?_
  refine r_iadd 17 rfl dX7_shows_16 ?_
  refine r_iload_n 0 rfl rfl 18 rfl dX7_shows_17 ?_
  refine r_iadd 19 rfl dX7_shows_18 ?_
  refine r_iald sh_68 20 rfl dX7_shows_19 ?_
  refine r_istore [(4, .int _), (3, .int _), (0, k_rf E 67), (1, .int _), (2, .int _)] rfl (by decide) 22 rfl dX7_shows_20 ?_
  refine r_aload_n 2 rfl rfl 23 rfl dX7_shows_22 ?_
  refine r_iload_n 3 rfl rfl 24 rfl dX7_shows_23 ?_
  refine r_calli (c_X7_runsWith E   _ _) rfl sh_67 rfl ml_X7_181 cw_X7_runsWith vw_X7_runsWith (by decide) (Nat.le_of_ble_eq_true rfl) 27 rfl dX7_shows_24 (fun r2 σ2 => ?_)
  refine r_istore [(5, .int _), (4, .int _), (3, .int _), (0, k_rf E 67), (1, .int _), (2, .int _)] rfl (by decide) 29 rfl dX7_shows_27 ?_
  refine r_iload 0 rfl 31 rfl dX7_shows_29 ?_
  refine r_iload_n 4 rfl rfl 32 rfl dX7_shows_31 ?_
  refine r_icmp_eq 40 35 rfl (by decide) dX7_shows_32 (fun c3 => ?_) (fun c3 => ?_)
  · refine r_iload 1 rfl 42 rfl dX7_shows_40 ?_
    refine r_goto 69 (by decide) dX7_shows_42 ?_
    exact r_iret rfl dX7_shows_69
  · refine r_iload_n 5 rfl rfl 36 rfl dX7_shows_35 ?_
    refine r_iconst 2 (by decide) 37 rfl dX7_shows_36 ?_
    refine r_icmp_ne 45 40 rfl (by decide) dX7_shows_37 (fun c4 => ?_) (fun c4 => ?_)
    · refine r_iload 1 rfl 42 rfl dX7_shows_40 ?_
      refine r_goto 69 (by decide) dX7_shows_42 ?_
      exact r_iret rfl dX7_shows_69
    · refine r_iload 1 rfl 47 rfl dX7_shows_45 ?_
      refine r_aload_n 3 rfl rfl 48 rfl dX7_shows_47 ?_
      refine r_getr fl_X7_7 sh_67 rfl 51 rfl dX7_shows_48 ?_
      refine r_bipush 8 (by decide) 53 rfl dX7_shows_51 ?_
      refine r_bipush 8 (by decide) 55 rfl dX7_shows_53 ?_
      refine r_iload_n 5 rfl rfl 56 rfl dX7_shows_55 ?_
      refine r_imul 57 rfl dX7_shows_56 ?_
      refine r_iadd 58 rfl dX7_shows_57 ?_
      refine r_aload_n 3 rfl rfl 59 rfl dX7_shows_58 ?_
      refine r_iload 0 rfl 61 rfl dX7_shows_59 ?_
      refine r_calli (c_X7_penOf E   _ _) rfl sh_67 rfl ml_X7_172 cw_X7_penOf vw_X7_penOf (by decide) (Nat.le_of_ble_eq_true rfl) 64 rfl dX7_shows_61 (fun r5 σ5 => ?_)
      refine r_iadd 65 rfl dX7_shows_64 ?_
      refine r_iald sh_68 66 rfl dX7_shows_65 ?_
      refine r_iadd 67 rfl dX7_shows_66 ?_
      refine r_iconst 2 (by decide) 68 rfl dX7_shows_67 ?_
      refine r_idiv (by decide) 69 rfl dX7_shows_68 ?_
      exact r_iret rfl dX7_shows_69
/-! HandMarketModel.page(II)I -/
def f_X7_page  (x1 : Int32) (x2 : Int32) (σ : k_Mem) : Option (Int32 × k_Mem) :=
  k_bd (f_X7_isHand  x1 σ) (fun r1 σ1 =>
    if r1 = 0 then (
      some ((-1), σ1)
    ) else (
      k_bd (f_X7_in  (Int32.toInt64 x2) 0 2 σ1) (fun r3 σ3 =>
        if r3 = 0 then (
          some ((-1), σ3)
        ) else (
          k_bd (f_X7_shows  x1 x2 σ3) (fun r5 σ5 =>
            some (r5, σ5)
          )
        )
      )
    )
  )
set_option maxRecDepth 100000 in
theorem c_X7_page (E : k_EV)   (x1 : Int32) (x2 : Int32) (σ : k_Mem) : k_MC m_X7_page E k_vi [k_rf E 67, .int x1, .int x2] σ (f_X7_page x1 x2 σ) := by
  refine k_MC_of ⟨by decide, by decide⟩ (Nat.le_of_ble_eq_true rfl) ?_
  show k_GO _ _ _ 0 [(0, k_rf E 67), (1, .int x1), (2, .int x2)] [] σ _
  unfold f_X7_page
  refine r_aload_n 0 rfl rfl 1 rfl dX7_page_0 ?_
  refine r_iload_n 1 rfl rfl 2 rfl dX7_page_1 ?_
  refine r_calli (c_X7_isHand E   _ _) rfl sh_67 rfl ml_X7_158 cw_X7_isHand vw_X7_isHand (by decide) (Nat.le_of_ble_eq_true rfl) 5 rfl dX7_page_2 (fun r1 σ1 => ?_)
  refine r_if_eq 29 8 rfl (by decide) dX7_page_5 (fun c2 => ?_) (fun c2 => ?_)
  · refine r_iconst (-1) (by decide) 30 rfl dX7_page_29 ?_
    exact r_iret rfl dX7_page_30
  · refine r_iload_n 2 rfl rfl 9 rfl dX7_page_8 ?_
    refine r_i2l 10 rfl dX7_page_9 ?_
    refine r_lconst 0 (by decide) 11 rfl dX7_page_10 ?_
    refine r_ldc2 cs_X7_184 14 rfl dX7_page_11 ?_
    refine r_callsi (c_X7_in E   _ _ _ _) rfl ml_X7_58 cw_X7_in sw_X7_in (by decide) (Nat.le_of_ble_eq_true rfl) 17 rfl dX7_page_14 (fun r3 σ3 => ?_)
    refine r_if_eq 29 20 rfl (by decide) dX7_page_17 (fun c4 => ?_) (fun c4 => ?_)
    · refine r_iconst (-1) (by decide) 30 rfl dX7_page_29 ?_
      exact r_iret rfl dX7_page_30
    · refine r_aload_n 0 rfl rfl 21 rfl dX7_page_20 ?_
      refine r_iload_n 1 rfl rfl 22 rfl dX7_page_21 ?_
      refine r_iload_n 2 rfl rfl 23 rfl dX7_page_22 ?_
      refine r_calli (c_X7_shows E   _ _ _) rfl sh_67 rfl ml_X7_186 cw_X7_shows vw_X7_shows (by decide) (Nat.le_of_ble_eq_true rfl) 26 rfl dX7_page_23 (fun r5 σ5 => ?_)
      refine r_goto 30 (by decide) dX7_page_26 ?_
      exact r_iret rfl dX7_page_30
/-! HandMarketModel.far(II)I -/
def f_X7_far  (x0 : Int32) (x1 : Int32) (σ : k_Mem) : Option (Int32 × k_Mem) :=
  if x0 ≤ x1 then (
    some ((x1 - x0), σ)
  ) else (
    some ((x0 - x1), σ)
  )
set_option maxRecDepth 100000 in
theorem c_X7_far (E : k_EV)   (x0 : Int32) (x1 : Int32) (σ : k_Mem) : k_MC m_X7_far E k_vi [.int x0, .int x1] σ (f_X7_far x0 x1 σ) := by
  refine k_MC_of ⟨by decide, by decide⟩ (Nat.le_of_ble_eq_true rfl) ?_
  show k_GO _ _ _ 0 [(0, .int x0), (1, .int x1)] [] σ _
  unfold f_X7_far
  refine r_iload_n 0 rfl rfl 1 rfl dX7_far_0 ?_
  refine r_iload_n 1 rfl rfl 2 rfl dX7_far_1 ?_
  refine r_icmp_le 11 5 rfl (by decide) dX7_far_2 (fun c1 => ?_) (fun c1 => ?_)
  · refine r_iload_n 1 rfl rfl 12 rfl dX7_far_11 ?_
    refine r_iload_n 0 rfl rfl 13 rfl dX7_far_12 ?_
    refine r_isub 14 rfl dX7_far_13 ?_
    exact r_iret rfl dX7_far_14
  · refine r_iload_n 0 rfl rfl 6 rfl dX7_far_5 ?_
    refine r_iload_n 1 rfl rfl 7 rfl dX7_far_6 ?_
    refine r_isub 8 rfl dX7_far_7 ?_
    refine r_goto 14 (by decide) dX7_far_8 ?_
    exact r_iret rfl dX7_far_14
/-! HandMarketModel.likesOf(II)I -/
def f_X7_likesOf  (x1 : Int32) (x2 : Int32) (σ : k_Mem) : Option (Int32 × k_Mem) :=
  k_bd (f_X7_shows  x2 0 σ) (fun r1 σ1 =>
    k_bd (f_X7_shows  x2 1 σ1) (fun r2 σ2 =>
      if k_in (8 + x1) 250 then (
        k_bd (f_X7_far  r1 (σ2 68 (k_n (8 + x1))) σ2) (fun r3 σ3 =>
          if k_in (16 + x1) 250 then (
            k_bd (f_X7_far  r2 (σ3 68 (k_n (16 + x1))) σ3) (fun r4 σ4 =>
              if k_in x1 250 then (
                if (σ4 68 (k_n x1)) = 0 then (
                  some (((20 - r3) - r4), σ4)
                ) else (
                if (σ4 68 (k_n x1)) = 1 then (
                  k_bd (f_X7_shows  x2 2 σ4) (fun r7 σ7 =>
                    if k_in (24 + x1) 250 then (
                      if r7 = (σ7 68 (k_n (24 + x1))) then (
                        some ((((20 - r3) - r4) + 3), σ7)
                      ) else (
                        some (((20 - r3) - r4), σ7)
                      )
                    ) else none
                  )
                ) else (
                if (σ4 68 (k_n x1)) = 2 then (
                  some ((r1 + r2), σ4)
                ) else (
                  some (((20 - r1) - r2), σ4)
                )))
              ) else none
            )
          ) else none
        )
      ) else none
    )
  )
set_option maxRecDepth 100000 in
theorem c_X7_likesOf (E : k_EV)   (x1 : Int32) (x2 : Int32) (σ : k_Mem) : k_MC m_X7_likesOf E k_vi [k_rf E 67, .int x1, .int x2] σ (f_X7_likesOf x1 x2 σ) := by
  refine k_MC_of ⟨by decide, by decide⟩ (Nat.le_of_ble_eq_true rfl) ?_
  show k_GO _ _ _ 0 [(0, k_rf E 67), (1, .int x1), (2, .int x2)] [] σ _
  unfold f_X7_likesOf
  refine r_aload_n 0 rfl rfl 1 rfl dX7_likesOf_0 ?_
  refine r_iload_n 2 rfl rfl 2 rfl dX7_likesOf_1 ?_
  refine r_iconst 0 (by decide) 3 rfl dX7_likesOf_2 ?_
  refine r_calli (c_X7_shows E   _ _ _) rfl sh_67 rfl ml_X7_186 cw_X7_shows vw_X7_shows (by decide) (Nat.le_of_ble_eq_true rfl) 6 rfl dX7_likesOf_3 (fun r1 σ1 => ?_)
  refine r_istore_n [(3, .int _), (0, k_rf E 67), (1, .int _), (2, .int _)] rfl rfl (by decide) 7 rfl dX7_likesOf_6 ?_
  refine r_aload_n 1 rfl rfl 8 rfl dX7_likesOf_7 ?_
  refine r_iload_n 3 rfl rfl 9 rfl dX7_likesOf_8 ?_
  refine r_iconst 1 (by decide) 10 rfl dX7_likesOf_9 ?_
  refine r_calli (c_X7_shows E   _ _ _) rfl sh_67 rfl ml_X7_186 cw_X7_shows vw_X7_shows (by decide) (Nat.le_of_ble_eq_true rfl) 13 rfl dX7_likesOf_10 (fun r2 σ2 => ?_)
  refine r_istore [(4, .int _), (3, .int _), (0, k_rf E 67), (1, .int _), (2, .int _)] rfl (by decide) 15 rfl dX7_likesOf_13 ?_
  refine r_bipush 20 (by decide) 17 rfl dX7_likesOf_15 ?_
  refine r_iload_n 1 rfl rfl 18 rfl dX7_likesOf_17 ?_
  refine r_aload_n 2 rfl rfl 19 rfl dX7_likesOf_18 ?_
  refine r_getr fl_X7_7 sh_67 rfl 22 rfl dX7_likesOf_19 ?_
  refine r_bipush 8 (by decide) 24 rfl dX7_likesOf_22 ?_
  refine r_iload_n 3 rfl rfl 25 rfl dX7_likesOf_24 ?_
  refine r_iadd 26 rfl dX7_likesOf_25 ?_
  refine r_iald sh_68 27 rfl dX7_likesOf_26 ?_
  refine r_callsi (c_X7_far E   _ _ _) rfl ml_X7_189 cw_X7_far sw_X7_far (by decide) (Nat.le_of_ble_eq_true rfl) 30 rfl dX7_likesOf_27 (fun r3 σ3 => ?_)
  refine r_isub 31 rfl dX7_likesOf_30 ?_
  refine r_iload 0 rfl 33 rfl dX7_likesOf_31 ?_
  refine r_aload_n 2 rfl rfl 34 rfl dX7_likesOf_33 ?_
  refine r_getr fl_X7_7 sh_67 rfl 37 rfl dX7_likesOf_34 ?_
  refine r_bipush 16 (by decide) 39 rfl dX7_likesOf_37 ?_
  refine r_iload_n 3 rfl rfl 40 rfl dX7_likesOf_39 ?_
  refine r_iadd 41 rfl dX7_likesOf_40 ?_
  refine r_iald sh_68 42 rfl dX7_likesOf_41 ?_
  refine r_callsi (c_X7_far E   _ _ _) rfl ml_X7_189 cw_X7_far sw_X7_far (by decide) (Nat.le_of_ble_eq_true rfl) 45 rfl dX7_likesOf_42 (fun r4 σ4 => ?_)
  refine r_isub 46 rfl dX7_likesOf_45 ?_
  refine r_istore [(5, .int _), (4, .int _), (3, .int _), (0, k_rf E 67), (1, .int _), (2, .int _)] rfl (by decide) 48 rfl dX7_likesOf_46 ?_
  refine r_aload_n 3 rfl rfl 49 rfl dX7_likesOf_48 ?_
  refine r_getr fl_X7_7 sh_67 rfl 52 rfl dX7_likesOf_49 ?_
  refine r_iload_n 4 rfl rfl 53 rfl dX7_likesOf_52 ?_
  refine r_iald sh_68 54 rfl dX7_likesOf_53 ?_
  refine r_split (fun c5 => ?_) (fun c5 => ?_)
  · refine r_tin 0 c5 26 80 (by decide) (by decide) (by decide) (by decide) dX7_likesOf_54 ?_
    refine r_iload 0 rfl 82 rfl dX7_likesOf_80 ?_
    exact r_iret rfl dX7_likesOf_82
  refine r_split (fun c6 => ?_) (fun c6 => ?_)
  · refine r_tin 1 c6 29 83 (by decide) (by decide) (by decide) (by decide) dX7_likesOf_54 ?_
    refine r_aload_n 3 rfl rfl 84 rfl dX7_likesOf_83 ?_
    refine r_iload_n 5 rfl rfl 85 rfl dX7_likesOf_84 ?_
    refine r_iconst 2 (by decide) 86 rfl dX7_likesOf_85 ?_
    refine r_calli (c_X7_shows E   _ _ _) rfl sh_67 rfl ml_X7_186 cw_X7_shows vw_X7_shows (by decide) (Nat.le_of_ble_eq_true rfl) 89 rfl dX7_likesOf_86 (fun r7 σ7 => ?_)
    refine r_aload_n 3 rfl rfl 90 rfl dX7_likesOf_89 ?_
    refine r_getr fl_X7_7 sh_67 rfl 93 rfl dX7_likesOf_90 ?_
    refine r_bipush 24 (by decide) 95 rfl dX7_likesOf_93 ?_
    refine r_iload_n 4 rfl rfl 96 rfl dX7_likesOf_95 ?_
    refine r_iadd 97 rfl dX7_likesOf_96 ?_
    refine r_iald sh_68 98 rfl dX7_likesOf_97 ?_
    refine r_icmp_ne 108 101 rfl (by decide) dX7_likesOf_98 (fun c8 => ?_) (fun c8 => ?_)
    · refine r_iload 0 rfl 103 rfl dX7_likesOf_101 ?_
      refine r_iconst 3 (by decide) 104 rfl dX7_likesOf_103 ?_
      refine r_iadd 105 rfl dX7_likesOf_104 ?_
      refine r_goto 110 (by decide) dX7_likesOf_105 ?_
      exact r_iret rfl dX7_likesOf_110
    · refine r_iload 0 rfl 110 rfl dX7_likesOf_108 ?_
      exact r_iret rfl dX7_likesOf_110
  refine r_split (fun c9 => ?_) (fun c9 => ?_)
  · refine r_tin 2 c9 57 111 (by decide) (by decide) (by decide) (by decide) dX7_likesOf_54 ?_
    refine r_iload_n 2 rfl rfl 112 rfl dX7_likesOf_111 ?_
    refine r_iload 1 rfl 114 rfl dX7_likesOf_112 ?_
    refine r_iadd 115 rfl dX7_likesOf_114 ?_
    exact r_iret rfl dX7_likesOf_115
  refine r_tout 116 (by have hc5 := lv_neT c5 (k := 0) (a := 0) (by decide); have hc6 := lv_neT c6 (k := 1) (a := 1) (by decide); have hc9 := lv_neT c9 (k := 2) (a := 2) (by decide); omega) (by decide) dX7_likesOf_54 ?_
  refine r_bipush 20 (by decide) 118 rfl dX7_likesOf_116 ?_
  refine r_iload_n 2 rfl rfl 119 rfl dX7_likesOf_118 ?_
  refine r_isub 120 rfl dX7_likesOf_119 ?_
  refine r_iload 1 rfl 122 rfl dX7_likesOf_120 ?_
  refine r_isub 123 rfl dX7_likesOf_122 ?_
  exact r_iret rfl dX7_likesOf_123
/-! HandMarketModel.likes(II)I -/
def f_X7_likes  (x1 : Int32) (x2 : Int32) (σ : k_Mem) : Option (Int32 × k_Mem) :=
  k_bd (f_X7_isHand  x1 σ) (fun r1 σ1 =>
    if r1 = 0 then (
      some ((-1), σ1)
    ) else (
      k_bd (f_X7_isHand  x2 σ1) (fun r3 σ3 =>
        if r3 = 0 then (
          some ((-1), σ3)
        ) else (
          if (x1 / 4) = (x2 / 4) then (
            some ((-1), σ3)
          ) else (
            k_bd (f_X7_likesOf  x1 x2 σ3) (fun r6 σ6 =>
              some (r6, σ6)
            )
          )
        )
      )
    )
  )
set_option maxRecDepth 100000 in
theorem c_X7_likes (E : k_EV)   (x1 : Int32) (x2 : Int32) (σ : k_Mem) : k_MC m_X7_likes E k_vi [k_rf E 67, .int x1, .int x2] σ (f_X7_likes x1 x2 σ) := by
  refine k_MC_of ⟨by decide, by decide⟩ (Nat.le_of_ble_eq_true rfl) ?_
  show k_GO _ _ _ 0 [(0, k_rf E 67), (1, .int x1), (2, .int x2)] [] σ _
  unfold f_X7_likes
  refine r_aload_n 0 rfl rfl 1 rfl dX7_likes_0 ?_
  refine r_iload_n 1 rfl rfl 2 rfl dX7_likes_1 ?_
  refine r_calli (c_X7_isHand E   _ _) rfl sh_67 rfl ml_X7_158 cw_X7_isHand vw_X7_isHand (by decide) (Nat.le_of_ble_eq_true rfl) 5 rfl dX7_likes_2 (fun r1 σ1 => ?_)
  refine r_if_eq 34 8 rfl (by decide) dX7_likes_5 (fun c2 => ?_) (fun c2 => ?_)
  · refine r_iconst (-1) (by decide) 35 rfl dX7_likes_34 ?_
    exact r_iret rfl dX7_likes_35
  · refine r_aload_n 0 rfl rfl 9 rfl dX7_likes_8 ?_
    refine r_iload_n 2 rfl rfl 10 rfl dX7_likes_9 ?_
    refine r_calli (c_X7_isHand E   _ _) rfl sh_67 rfl ml_X7_158 cw_X7_isHand vw_X7_isHand (by decide) (Nat.le_of_ble_eq_true rfl) 13 rfl dX7_likes_10 (fun r3 σ3 => ?_)
    refine r_if_eq 34 16 rfl (by decide) dX7_likes_13 (fun c4 => ?_) (fun c4 => ?_)
    · refine r_iconst (-1) (by decide) 35 rfl dX7_likes_34 ?_
      exact r_iret rfl dX7_likes_35
    · refine r_iload_n 1 rfl rfl 17 rfl dX7_likes_16 ?_
      refine r_iconst 4 (by decide) 18 rfl dX7_likes_17 ?_
      refine r_idiv (by decide) 19 rfl dX7_likes_18 ?_
      refine r_iload_n 2 rfl rfl 20 rfl dX7_likes_19 ?_
      refine r_iconst 4 (by decide) 21 rfl dX7_likes_20 ?_
      refine r_idiv (by decide) 22 rfl dX7_likes_21 ?_
      refine r_icmp_eq 34 25 rfl (by decide) dX7_likes_22 (fun c5 => ?_) (fun c5 => ?_)
      · refine r_iconst (-1) (by decide) 35 rfl dX7_likes_34 ?_
        exact r_iret rfl dX7_likes_35
      · refine r_aload_n 0 rfl rfl 26 rfl dX7_likes_25 ?_
        refine r_iload_n 1 rfl rfl 27 rfl dX7_likes_26 ?_
        refine r_iload_n 2 rfl rfl 28 rfl dX7_likes_27 ?_
        refine r_calli (c_X7_likesOf E   _ _ _) rfl sh_67 rfl ml_X7_192 cw_X7_likesOf vw_X7_likesOf (by decide) (Nat.le_of_ble_eq_true rfl) 31 rfl dX7_likes_28 (fun r6 σ6 => ?_)
        refine r_goto 35 (by decide) dX7_likes_31 ?_
        exact r_iret rfl dX7_likes_35
/-! HandMarketModel.laysTable(I)V -/
def j_X7_laysTable_98  (k2 : Int32 → Int32 → k_Mem → Option (Unit × k_Mem)) (k10 : Int32 → Int32 → Int32 → k_Mem → Option (Unit × k_Mem)) (x1 : Int32) (x2 : Int32) (x3 : Int32) (xs1 : Int32) (xs2 : Int32) (σ : k_Mem) : Option (Unit × k_Mem) :=
  if k_in xs1 64 then (
    k10 x1 x2 (x3 + 1) (k_mset σ 73 (k_n xs1) xs2)
  ) else none
set_option maxRecDepth 100000 in
theorem gj_X7_laysTable_98 (E : k_EV)   (k2 : Int32 → Int32 → k_Mem → Option (Unit × k_Mem)) (k10 : Int32 → Int32 → Int32 → k_Mem → Option (Unit × k_Mem)) (hk2 : ∀ (x1 : Int32) (x2 : Int32)  (σ : k_Mem), k_GO m_X7_laysTable E k_vv 2 [(0, k_rf E 67), (1, .int x1), (2, .int x2)] [] σ (k2 x1 x2 σ)) (hk10 : ∀ (x1 : Int32) (x2 : Int32) (x3 : Int32)  (σ : k_Mem), k_GO m_X7_laysTable E k_vv 10 [(0, k_rf E 67), (1, .int x1), (2, .int x2), (3, .int x3)] [] σ (k10 x1 x2 x3 σ)) (x1 : Int32) (x2 : Int32) (x3 : Int32) (xs1 : Int32) (xs2 : Int32)  (σ : k_Mem) : k_GO m_X7_laysTable E k_vv 98 [(0, k_rf E 67), (1, .int x1), (2, .int x2), (3, .int x3)] [.int xs2, .int xs1, k_rf E 73] σ (j_X7_laysTable_98  k2 k10 x1 x2 x3 xs1 xs2 σ) := by
  unfold j_X7_laysTable_98
  refine r_iast sh_73 99 rfl dX7_laysTable_98 ?_
  refine r_iinc 1 (by decide) 3 rfl [(3, .int _), (0, k_rf E 67), (1, .int _), (2, .int _)] rfl (by decide) 102 rfl dX7_laysTable_99 ?_
  refine r_goto 10 (by decide) dX7_laysTable_102 ?_
  exact r_sub [1, 2, 3, 0] rfl (hk10 _ _ _  _)
def j_X7_laysTable_71  (k2 : Int32 → Int32 → k_Mem → Option (Unit × k_Mem)) (k10 : Int32 → Int32 → Int32 → k_Mem → Option (Unit × k_Mem)) (x1 : Int32) (x2 : Int32) (x3 : Int32) (xs0 : Int32) (σ : k_Mem) : Option (Unit × k_Mem) :=
  if xs0 = 0 then (
    j_X7_laysTable_98  k2 k10 x1 x2 x3 ((8 * x2) + x3) (-1) σ
  ) else (
    k_bd (f_X7_likesOf  x2 x3 σ) (fun r6 σ6 =>
      j_X7_laysTable_98  k2 k10 x1 x2 x3 ((8 * x2) + x3) r6 σ6
    )
  )
set_option maxRecDepth 100000 in
theorem gj_X7_laysTable_71 (E : k_EV)   (k2 : Int32 → Int32 → k_Mem → Option (Unit × k_Mem)) (k10 : Int32 → Int32 → Int32 → k_Mem → Option (Unit × k_Mem)) (hk2 : ∀ (x1 : Int32) (x2 : Int32)  (σ : k_Mem), k_GO m_X7_laysTable E k_vv 2 [(0, k_rf E 67), (1, .int x1), (2, .int x2)] [] σ (k2 x1 x2 σ)) (hk10 : ∀ (x1 : Int32) (x2 : Int32) (x3 : Int32)  (σ : k_Mem), k_GO m_X7_laysTable E k_vv 10 [(0, k_rf E 67), (1, .int x1), (2, .int x2), (3, .int x3)] [] σ (k10 x1 x2 x3 σ)) (x1 : Int32) (x2 : Int32) (x3 : Int32) (xs0 : Int32)  (σ : k_Mem) : k_GO m_X7_laysTable E k_vv 71 [(0, k_rf E 67), (1, .int x1), (2, .int x2), (3, .int x3)] [.int xs0] σ (j_X7_laysTable_71  k2 k10 x1 x2 x3 xs0 σ) := by
  unfold j_X7_laysTable_71
  refine r_istore [(4, .int _), (0, k_rf E 67), (1, .int _), (2, .int _), (3, .int _)] rfl (by decide) 73 rfl dX7_laysTable_71 ?_
  refine r_aload_n 1 rfl rfl 74 rfl dX7_laysTable_73 ?_
  refine r_getr fl_X7_25 sh_67 rfl 77 rfl dX7_laysTable_74 ?_
  refine r_bipush 8 (by decide) 79 rfl dX7_laysTable_77 ?_
  refine r_iload_n 3 rfl rfl 80 rfl dX7_laysTable_79 ?_
  refine r_imul 81 rfl dX7_laysTable_80 ?_
  refine r_iload_n 4 rfl rfl 82 rfl dX7_laysTable_81 ?_
  refine r_iadd 83 rfl dX7_laysTable_82 ?_
  refine r_iload 0 rfl 85 rfl dX7_laysTable_83 ?_
  refine r_if_eq 97 88 rfl (by decide) dX7_laysTable_85 (fun c5 => ?_) (fun c5 => ?_)
  · refine r_iconst (-1) (by decide) 98 rfl dX7_laysTable_97 ?_
    exact r_sub [1, 2, 3, 4] rfl (gj_X7_laysTable_98 E   _ _ hk2 hk10 _ _ _ _ _  _)
  · refine r_aload_n 1 rfl rfl 89 rfl dX7_laysTable_88 ?_
    refine r_iload_n 3 rfl rfl 90 rfl dX7_laysTable_89 ?_
    refine r_iload_n 4 rfl rfl 91 rfl dX7_laysTable_90 ?_
    refine r_calli (c_X7_likesOf E   _ _ _) rfl sh_67 rfl ml_X7_192 cw_X7_likesOf vw_X7_likesOf (by decide) (Nat.le_of_ble_eq_true rfl) 94 rfl dX7_laysTable_91 (fun r6 σ6 => ?_)
    refine r_goto 98 (by decide) dX7_laysTable_94 ?_
    exact r_sub [1, 2, 3, 4] rfl (gj_X7_laysTable_98 E   _ _ hk2 hk10 _ _ _ _ _  _)
def j_X7_laysTable_70  (k2 : Int32 → Int32 → k_Mem → Option (Unit × k_Mem)) (k10 : Int32 → Int32 → Int32 → k_Mem → Option (Unit × k_Mem)) (x1 : Int32) (x2 : Int32) (x3 : Int32) (σ : k_Mem) : Option (Unit × k_Mem) :=
  j_X7_laysTable_71  k2 k10 x1 x2 x3 0 σ
set_option maxRecDepth 100000 in
theorem gj_X7_laysTable_70 (E : k_EV)   (k2 : Int32 → Int32 → k_Mem → Option (Unit × k_Mem)) (k10 : Int32 → Int32 → Int32 → k_Mem → Option (Unit × k_Mem)) (hk2 : ∀ (x1 : Int32) (x2 : Int32)  (σ : k_Mem), k_GO m_X7_laysTable E k_vv 2 [(0, k_rf E 67), (1, .int x1), (2, .int x2)] [] σ (k2 x1 x2 σ)) (hk10 : ∀ (x1 : Int32) (x2 : Int32) (x3 : Int32)  (σ : k_Mem), k_GO m_X7_laysTable E k_vv 10 [(0, k_rf E 67), (1, .int x1), (2, .int x2), (3, .int x3)] [] σ (k10 x1 x2 x3 σ)) (x1 : Int32) (x2 : Int32) (x3 : Int32)  (σ : k_Mem) : k_GO m_X7_laysTable E k_vv 70 [(0, k_rf E 67), (1, .int x1), (2, .int x2), (3, .int x3)] [] σ (j_X7_laysTable_70  k2 k10 x1 x2 x3 σ) := by
  unfold j_X7_laysTable_70
  refine r_iconst 0 (by decide) 71 rfl dX7_laysTable_70 ?_
  exact r_sub [0, 1, 2, 3] rfl (gj_X7_laysTable_71 E   _ _ hk2 hk10 _ _ _ _  _)
def l_X7_laysTable_10  (k2 : Int32 → Int32 → k_Mem → Option (Unit × k_Mem)) : Nat → Int32 → Int32 → Int32 → k_Mem → Option (Unit × k_Mem)
  | 0, _, _, _, _ => none
  | n + 1, x1, x2, x3, σ =>
    if 8 ≤ x3 then (
      k2 x1 (x2 + 1) σ
    ) else (
      k_bd (f_X7_isHand  x2 σ) (fun r3 σ3 =>
        if r3 = 0 then (
          j_X7_laysTable_70  k2 (fun x1 x2 x3 σ => l_X7_laysTable_10  k2 n x1 x2 x3 σ) x1 x2 x3 σ3
        ) else (
          k_bd (f_X7_isHand  x3 σ3) (fun r7 σ7 =>
            if r7 = 0 then (
              j_X7_laysTable_70  k2 (fun x1 x2 x3 σ => l_X7_laysTable_10  k2 n x1 x2 x3 σ) x1 x2 x3 σ7
            ) else (
              if (x2 / 4) = (x3 / 4) then (
                j_X7_laysTable_70  k2 (fun x1 x2 x3 σ => l_X7_laysTable_10  k2 n x1 x2 x3 σ) x1 x2 x3 σ7
              ) else (
                if ((k_shr x1 x2) &&& 1) = 0 then (
                  if ((k_shr x1 x3) &&& 1) = 0 then (
                    k_bd (f_X7_areFolded  x2 x3 σ7) (fun r12 σ12 =>
                      if r12 = 0 then (
                        j_X7_laysTable_71  k2 (fun x1 x2 x3 σ => l_X7_laysTable_10  k2 n x1 x2 x3 σ) x1 x2 x3 1 σ12
                      ) else (
                        j_X7_laysTable_70  k2 (fun x1 x2 x3 σ => l_X7_laysTable_10  k2 n x1 x2 x3 σ) x1 x2 x3 σ12
                      )
                    )
                  ) else (
                    j_X7_laysTable_70  k2 (fun x1 x2 x3 σ => l_X7_laysTable_10  k2 n x1 x2 x3 σ) x1 x2 x3 σ7
                  )
                ) else (
                  j_X7_laysTable_70  k2 (fun x1 x2 x3 σ => l_X7_laysTable_10  k2 n x1 x2 x3 σ) x1 x2 x3 σ7
                )
              )
            )
          )
        )
      )
    )
set_option maxRecDepth 100000 in
theorem gl_X7_laysTable_10 (E : k_EV)   (k2 : Int32 → Int32 → k_Mem → Option (Unit × k_Mem)) (hk2 : ∀ (x1 : Int32) (x2 : Int32)  (σ : k_Mem), k_GO m_X7_laysTable E k_vv 2 [(0, k_rf E 67), (1, .int x1), (2, .int x2)] [] σ (k2 x1 x2 σ)) : ∀ (n : Nat) (x1 : Int32) (x2 : Int32) (x3 : Int32)  (σ : k_Mem), k_GO m_X7_laysTable E k_vv 10 [(0, k_rf E 67), (1, .int x1), (2, .int x2), (3, .int x3)] [] σ (l_X7_laysTable_10  k2 n x1 x2 x3 σ) := by
  intro n
  induction n with
  | zero => intro x1 x2 x3  σ; exact r_none
  | succ n ih =>
    intro x1 x2 x3  σ
    rw [l_X7_laysTable_10]
    refine r_iload_n 3 rfl rfl 11 rfl dX7_laysTable_10 ?_
    refine r_bipush 8 (by decide) 13 rfl dX7_laysTable_11 ?_
    refine r_icmp_ge 105 16 rfl (by decide) dX7_laysTable_13 (fun c2 => ?_) (fun c2 => ?_)
    · refine r_iinc 1 (by decide) 2 rfl [(2, .int _), (0, k_rf E 67), (1, .int _), (3, .int _)] rfl (by decide) 108 rfl dX7_laysTable_105 ?_
      refine r_goto 2 (by decide) dX7_laysTable_108 ?_
      exact r_sub [1, 2, 0] rfl (hk2 _ _  _)
    · refine r_aload_n 0 rfl rfl 17 rfl dX7_laysTable_16 ?_
      refine r_iload_n 2 rfl rfl 18 rfl dX7_laysTable_17 ?_
      refine r_calli (c_X7_isHand E   _ _) rfl sh_67 rfl ml_X7_158 cw_X7_isHand vw_X7_isHand (by decide) (Nat.le_of_ble_eq_true rfl) 21 rfl dX7_laysTable_18 (fun r3 σ3 => ?_)
      refine r_if_eq 70 24 rfl (by decide) dX7_laysTable_21 (fun c4 => ?_) (fun c4 => ?_)
      · exact r_sub [0, 1, 2, 3] rfl (gj_X7_laysTable_70 E   _ _ hk2 (fun x1 x2 x3  σ => ih x1 x2 x3  σ) _ _ _  _)
      · refine r_aload_n 0 rfl rfl 25 rfl dX7_laysTable_24 ?_
        refine r_iload_n 3 rfl rfl 26 rfl dX7_laysTable_25 ?_
        refine r_calli (c_X7_isHand E   _ _) rfl sh_67 rfl ml_X7_158 cw_X7_isHand vw_X7_isHand (by decide) (Nat.le_of_ble_eq_true rfl) 29 rfl dX7_laysTable_26 (fun r7 σ7 => ?_)
        refine r_if_eq 70 32 rfl (by decide) dX7_laysTable_29 (fun c8 => ?_) (fun c8 => ?_)
        · exact r_sub [0, 1, 2, 3] rfl (gj_X7_laysTable_70 E   _ _ hk2 (fun x1 x2 x3  σ => ih x1 x2 x3  σ) _ _ _  _)
        · refine r_iload_n 2 rfl rfl 33 rfl dX7_laysTable_32 ?_
          refine r_iconst 4 (by decide) 34 rfl dX7_laysTable_33 ?_
          refine r_idiv (by decide) 35 rfl dX7_laysTable_34 ?_
          refine r_iload_n 3 rfl rfl 36 rfl dX7_laysTable_35 ?_
          refine r_iconst 4 (by decide) 37 rfl dX7_laysTable_36 ?_
          refine r_idiv (by decide) 38 rfl dX7_laysTable_37 ?_
          refine r_icmp_eq 70 41 rfl (by decide) dX7_laysTable_38 (fun c9 => ?_) (fun c9 => ?_)
          · exact r_sub [0, 1, 2, 3] rfl (gj_X7_laysTable_70 E   _ _ hk2 (fun x1 x2 x3  σ => ih x1 x2 x3  σ) _ _ _  _)
          · refine r_iload_n 1 rfl rfl 42 rfl dX7_laysTable_41 ?_
            refine r_iload_n 2 rfl rfl 43 rfl dX7_laysTable_42 ?_
            refine r_ishr 44 rfl dX7_laysTable_43 ?_
            refine r_iconst 1 (by decide) 45 rfl dX7_laysTable_44 ?_
            refine r_iand 46 rfl dX7_laysTable_45 ?_
            refine r_if_ne 70 49 rfl (by decide) dX7_laysTable_46 (fun c10 => ?_) (fun c10 => ?_)
            · refine r_iload_n 1 rfl rfl 50 rfl dX7_laysTable_49 ?_
              refine r_iload_n 3 rfl rfl 51 rfl dX7_laysTable_50 ?_
              refine r_ishr 52 rfl dX7_laysTable_51 ?_
              refine r_iconst 1 (by decide) 53 rfl dX7_laysTable_52 ?_
              refine r_iand 54 rfl dX7_laysTable_53 ?_
              refine r_if_ne 70 57 rfl (by decide) dX7_laysTable_54 (fun c11 => ?_) (fun c11 => ?_)
              · refine r_aload_n 0 rfl rfl 58 rfl dX7_laysTable_57 ?_
                refine r_iload_n 2 rfl rfl 59 rfl dX7_laysTable_58 ?_
                refine r_iload_n 3 rfl rfl 60 rfl dX7_laysTable_59 ?_
                refine r_calli (c_X7_areFolded E   _ _ _) rfl sh_67 rfl ml_X7_168 cw_X7_areFolded vw_X7_areFolded (by decide) (Nat.le_of_ble_eq_true rfl) 63 rfl dX7_laysTable_60 (fun r12 σ12 => ?_)
                refine r_if_ne 70 66 rfl (by decide) dX7_laysTable_63 (fun c13 => ?_) (fun c13 => ?_)
                · refine r_iconst 1 (by decide) 67 rfl dX7_laysTable_66 ?_
                  refine r_goto 71 (by decide) dX7_laysTable_67 ?_
                  exact r_sub [0, 1, 2, 3] rfl (gj_X7_laysTable_71 E   _ _ hk2 (fun x1 x2 x3  σ => ih x1 x2 x3  σ) _ _ _ _  _)
                · exact r_sub [0, 1, 2, 3] rfl (gj_X7_laysTable_70 E   _ _ hk2 (fun x1 x2 x3  σ => ih x1 x2 x3  σ) _ _ _  _)
              · exact r_sub [0, 1, 2, 3] rfl (gj_X7_laysTable_70 E   _ _ hk2 (fun x1 x2 x3  σ => ih x1 x2 x3  σ) _ _ _  _)
            · exact r_sub [0, 1, 2, 3] rfl (gj_X7_laysTable_70 E   _ _ hk2 (fun x1 x2 x3  σ => ih x1 x2 x3  σ) _ _ _  _)
def l_X7_laysTable_2   : Nat → Int32 → Int32 → k_Mem → Option (Unit × k_Mem)
  | 0, _, _, _ => none
  | n + 1, x1, x2, σ =>
    if 8 ≤ x2 then (
      some ((), σ)
    ) else (
      l_X7_laysTable_10  (fun x1 x2 σ => l_X7_laysTable_2   n x1 x2 σ) 1000 x1 x2 0 σ
    )
set_option maxRecDepth 100000 in
theorem gl_X7_laysTable_2 (E : k_EV)     : ∀ (n : Nat) (x1 : Int32) (x2 : Int32)  (σ : k_Mem), k_GO m_X7_laysTable E k_vv 2 [(0, k_rf E 67), (1, .int x1), (2, .int x2)] [] σ (l_X7_laysTable_2   n x1 x2 σ) := by
  intro n
  induction n with
  | zero => intro x1 x2  σ; exact r_none
  | succ n ih =>
    intro x1 x2  σ
    rw [l_X7_laysTable_2]
    refine r_iload_n 2 rfl rfl 3 rfl dX7_laysTable_2 ?_
    refine r_bipush 8 (by decide) 5 rfl dX7_laysTable_3 ?_
    refine r_icmp_ge 111 8 rfl (by decide) dX7_laysTable_5 (fun c1 => ?_) (fun c1 => ?_)
    · exact r_vret rfl dX7_laysTable_111
    · refine r_iconst 0 (by decide) 9 rfl dX7_laysTable_8 ?_
      refine r_istore_n [(3, .int _), (0, k_rf E 67), (1, .int _), (2, .int _)] rfl rfl (by decide) 10 rfl dX7_laysTable_9 ?_
      exact r_sub [1, 2, 3, 0] rfl (gl_X7_laysTable_10 E   _ (fun x1 x2  σ => ih x1 x2  σ) 1000 _ _ _  _)
def f_X7_laysTable  (x1 : Int32) (σ : k_Mem) : Option (Unit × k_Mem) :=
  l_X7_laysTable_2   1000 x1 0 σ
set_option maxRecDepth 100000 in
theorem c_X7_laysTable (E : k_EV)   (x1 : Int32) (σ : k_Mem) : k_MC m_X7_laysTable E k_vv [k_rf E 67, .int x1] σ (f_X7_laysTable x1 σ) := by
  refine k_MC_of ⟨by decide, by decide⟩ (Nat.le_of_ble_eq_true rfl) ?_
  show k_GO _ _ _ 0 [(0, k_rf E 67), (1, .int x1)] [] σ _
  unfold f_X7_laysTable
  refine r_iconst 0 (by decide) 1 rfl dX7_laysTable_0 ?_
  refine r_istore_n [(2, .int _), (0, k_rf E 67), (1, .int _)] rfl rfl (by decide) 2 rfl dX7_laysTable_1 ?_
  exact r_sub [1, 2, 0] rfl (gl_X7_laysTable_2 E     1000 _ _  _)
/-! HandMarketModel.isRather(III)Z -/
def j_X7_isRather_41   (x2 : Int32) (x3 : Int32) (x4 : Int32) (xs0 : Int32) (σ : k_Mem) : Option (Int32 × k_Mem) :=
  if xs0 < x4 then (
    some (1, σ)
  ) else (
    if x4 = xs0 then (
      if x3 ≤ x2 then (
        some (0, σ)
      ) else (
        some (1, σ)
      )
    ) else (
      some (0, σ)
    )
  )
set_option maxRecDepth 100000 in
theorem gj_X7_isRather_41 (E : k_EV)     (x2 : Int32) (x3 : Int32) (x4 : Int32) (xs0 : Int32)  (σ : k_Mem) : k_GO m_X7_isRather E k_vi 41 [(2, .int x2), (3, .int x3), (4, .int x4)] [.int xs0] σ (j_X7_isRather_41   x2 x3 x4 xs0 σ) := by
  unfold j_X7_isRather_41
  refine r_istore [(5, .int _), (2, .int _), (3, .int _), (4, .int _)] rfl (by decide) 43 rfl dX7_isRather_41 ?_
  refine r_iload 3 rfl 45 rfl dX7_isRather_43 ?_
  refine r_iload 0 rfl 47 rfl dX7_isRather_45 ?_
  refine r_icmp_gt 62 50 rfl (by decide) dX7_isRather_47 (fun c3 => ?_) (fun c3 => ?_)
  · refine r_iconst 1 (by decide) 63 rfl dX7_isRather_62 ?_
    refine r_goto 67 (by decide) dX7_isRather_63 ?_
    exact r_zret rfl (Or.inr rfl) dX7_isRather_67
  · refine r_iload 3 rfl 52 rfl dX7_isRather_50 ?_
    refine r_iload 0 rfl 54 rfl dX7_isRather_52 ?_
    refine r_icmp_ne 66 57 rfl (by decide) dX7_isRather_54 (fun c4 => ?_) (fun c4 => ?_)
    · refine r_iload_n 1 rfl rfl 58 rfl dX7_isRather_57 ?_
      refine r_iload_n 2 rfl rfl 59 rfl dX7_isRather_58 ?_
      refine r_icmp_ge 66 62 rfl (by decide) dX7_isRather_59 (fun c5 => ?_) (fun c5 => ?_)
      · refine r_iconst 0 (by decide) 67 rfl dX7_isRather_66 ?_
        exact r_zret rfl (Or.inl rfl) dX7_isRather_67
      · refine r_iconst 1 (by decide) 63 rfl dX7_isRather_62 ?_
        refine r_goto 67 (by decide) dX7_isRather_63 ?_
        exact r_zret rfl (Or.inr rfl) dX7_isRather_67
    · refine r_iconst 0 (by decide) 67 rfl dX7_isRather_66 ?_
      exact r_zret rfl (Or.inl rfl) dX7_isRather_67
def f_X7_isRather  (x1 : Int32) (x2 : Int32) (x3 : Int32) (σ : k_Mem) : Option (Int32 × k_Mem) :=
  if k_in ((8 * x1) + x2) 64 then (
    if 0 ≤ (σ 73 (k_n ((8 * x1) + x2))) then (
      if x3 = (-4) then (
        j_X7_isRather_41   x2 x3 (σ 73 (k_n ((8 * x1) + x2))) (-1) σ
      ) else (
        if k_in ((8 * x1) + x3) 64 then (
          j_X7_isRather_41   x2 x3 (σ 73 (k_n ((8 * x1) + x2))) (σ 73 (k_n ((8 * x1) + x3))) σ
        ) else none
      )
    ) else (
      some (0, σ)
    )
  ) else none
set_option maxRecDepth 100000 in
theorem c_X7_isRather (E : k_EV)   (x1 : Int32) (x2 : Int32) (x3 : Int32) (σ : k_Mem) : k_MC m_X7_isRather E k_vi [k_rf E 67, .int x1, .int x2, .int x3] σ (f_X7_isRather x1 x2 x3 σ) := by
  refine k_MC_of ⟨by decide, by decide⟩ (Nat.le_of_ble_eq_true rfl) ?_
  show k_GO _ _ _ 0 [(0, k_rf E 67), (1, .int x1), (2, .int x2), (3, .int x3)] [] σ _
  unfold f_X7_isRather
  refine r_aload_n 0 rfl rfl 1 rfl dX7_isRather_0 ?_
  refine r_getr fl_X7_25 sh_67 rfl 4 rfl dX7_isRather_1 ?_
  refine r_bipush 8 (by decide) 6 rfl dX7_isRather_4 ?_
  refine r_iload_n 1 rfl rfl 7 rfl dX7_isRather_6 ?_
  refine r_imul 8 rfl dX7_isRather_7 ?_
  refine r_iload_n 2 rfl rfl 9 rfl dX7_isRather_8 ?_
  refine r_iadd 10 rfl dX7_isRather_9 ?_
  refine r_iald sh_73 11 rfl dX7_isRather_10 ?_
  refine r_istore [(4, .int _), (0, k_rf E 67), (1, .int _), (2, .int _), (3, .int _)] rfl (by decide) 13 rfl dX7_isRather_11 ?_
  refine r_iload 0 rfl 15 rfl dX7_isRather_13 ?_
  refine r_if_ge 20 18 rfl (by decide) dX7_isRather_15 (fun c1 => ?_) (fun c1 => ?_)
  · refine r_iload_n 4 rfl rfl 21 rfl dX7_isRather_20 ?_
    refine r_bipush (-4) (by decide) 23 rfl dX7_isRather_21 ?_
    refine r_icmp_ne 30 26 rfl (by decide) dX7_isRather_23 (fun c2 => ?_) (fun c2 => ?_)
    · refine r_iconst (-1) (by decide) 27 rfl dX7_isRather_26 ?_
      refine r_goto 41 (by decide) dX7_isRather_27 ?_
      exact r_sub [3, 4, 0] rfl (gj_X7_isRather_41 E     _ _ _ _  _)
    · refine r_aload_n 1 rfl rfl 31 rfl dX7_isRather_30 ?_
      refine r_getr fl_X7_25 sh_67 rfl 34 rfl dX7_isRather_31 ?_
      refine r_bipush 8 (by decide) 36 rfl dX7_isRather_34 ?_
      refine r_iload_n 2 rfl rfl 37 rfl dX7_isRather_36 ?_
      refine r_imul 38 rfl dX7_isRather_37 ?_
      refine r_iload_n 4 rfl rfl 39 rfl dX7_isRather_38 ?_
      refine r_iadd 40 rfl dX7_isRather_39 ?_
      refine r_iald sh_73 41 rfl dX7_isRather_40 ?_
      exact r_sub [3, 4, 0] rfl (gj_X7_isRather_41 E     _ _ _ _  _)
  · refine r_iconst 0 (by decide) 19 rfl dX7_isRather_18 ?_
    exact r_zret rfl (Or.inl rfl) dX7_isRather_19
/-! HandMarketModel.rather(II)I -/
def j_X7_rather_95  (k21 : Int32 → Int32 → Int32 → k_Mem → Option (Int32 × k_Mem)) (x1 : Int32) (x2 : Int32) (x3 : Int32) (σ : k_Mem) : Option (Int32 × k_Mem) :=
  k21 x1 x2 (x3 + 1) σ
set_option maxRecDepth 100000 in
theorem gj_X7_rather_95 (E : k_EV)   (k21 : Int32 → Int32 → Int32 → k_Mem → Option (Int32 × k_Mem)) (hk21 : ∀ (x1 : Int32) (x2 : Int32) (x3 : Int32)  (σ : k_Mem), k_GO m_X7_rather E k_vi 21 [(0, k_rf E 67), (1, .int x1), (2, .int x2), (3, .int x3)] [] σ (k21 x1 x2 x3 σ)) (x1 : Int32) (x2 : Int32) (x3 : Int32)  (σ : k_Mem) : k_GO m_X7_rather E k_vi 95 [(0, k_rf E 67), (1, .int x1), (2, .int x2), (3, .int x3)] [] σ (j_X7_rather_95  k21 x1 x2 x3 σ) := by
  unfold j_X7_rather_95
  refine r_iinc 1 (by decide) 3 rfl [(3, .int _), (0, k_rf E 67), (1, .int _), (2, .int _)] rfl (by decide) 98 rfl dX7_rather_95 ?_
  refine r_goto 21 (by decide) dX7_rather_98 ?_
  exact r_sub [1, 2, 3, 0] rfl (hk21 _ _ _  _)
def j_X7_rather_64  (k21 : Int32 → Int32 → Int32 → k_Mem → Option (Int32 × k_Mem)) (k33 : Int32 → Int32 → Int32 → Int32 → Int32 → k_Mem → Option (Int32 × k_Mem)) (x1 : Int32) (x2 : Int32) (x3 : Int32) (x5 : Int32) (xs0 : Int32) (xs1 : Int32) (σ : k_Mem) : Option (Int32 × k_Mem) :=
  k33 x1 x2 x3 (xs0 + xs1) (x5 + 1) σ
set_option maxRecDepth 100000 in
theorem gj_X7_rather_64 (E : k_EV)   (k21 : Int32 → Int32 → Int32 → k_Mem → Option (Int32 × k_Mem)) (k33 : Int32 → Int32 → Int32 → Int32 → Int32 → k_Mem → Option (Int32 × k_Mem)) (hk21 : ∀ (x1 : Int32) (x2 : Int32) (x3 : Int32)  (σ : k_Mem), k_GO m_X7_rather E k_vi 21 [(0, k_rf E 67), (1, .int x1), (2, .int x2), (3, .int x3)] [] σ (k21 x1 x2 x3 σ)) (hk33 : ∀ (x1 : Int32) (x2 : Int32) (x3 : Int32) (x4 : Int32) (x5 : Int32)  (σ : k_Mem), k_GO m_X7_rather E k_vi 33 [(0, k_rf E 67), (1, .int x1), (2, .int x2), (3, .int x3), (4, .int x4), (5, .int x5)] [] σ (k33 x1 x2 x3 x4 x5 σ)) (x1 : Int32) (x2 : Int32) (x3 : Int32) (x5 : Int32) (xs0 : Int32) (xs1 : Int32)  (σ : k_Mem) : k_GO m_X7_rather E k_vi 64 [(0, k_rf E 67), (1, .int x1), (2, .int x2), (3, .int x3), (5, .int x5)] [.int xs1, .int xs0] σ (j_X7_rather_64  k21 k33 x1 x2 x3 x5 xs0 xs1 σ) := by
  unfold j_X7_rather_64
  refine r_iadd 65 rfl dX7_rather_64 ?_
  refine r_istore [(4, .int _), (0, k_rf E 67), (1, .int _), (2, .int _), (3, .int _), (5, .int _)] rfl (by decide) 67 rfl dX7_rather_65 ?_
  refine r_iinc 1 (by decide) 5 rfl [(5, .int _), (4, .int _), (0, k_rf E 67), (1, .int _), (2, .int _), (3, .int _)] rfl (by decide) 70 rfl dX7_rather_67 ?_
  refine r_goto 33 (by decide) dX7_rather_70 ?_
  exact r_sub [2, 3, 4, 5, 1, 0] rfl (hk33 _ _ _ _ _  _)
def j_X7_rather_63  (k21 : Int32 → Int32 → Int32 → k_Mem → Option (Int32 × k_Mem)) (k33 : Int32 → Int32 → Int32 → Int32 → Int32 → k_Mem → Option (Int32 × k_Mem)) (x1 : Int32) (x2 : Int32) (x3 : Int32) (x5 : Int32) (xs0 : Int32) (σ : k_Mem) : Option (Int32 × k_Mem) :=
  j_X7_rather_64  k21 k33 x1 x2 x3 x5 xs0 0 σ
set_option maxRecDepth 100000 in
theorem gj_X7_rather_63 (E : k_EV)   (k21 : Int32 → Int32 → Int32 → k_Mem → Option (Int32 × k_Mem)) (k33 : Int32 → Int32 → Int32 → Int32 → Int32 → k_Mem → Option (Int32 × k_Mem)) (hk21 : ∀ (x1 : Int32) (x2 : Int32) (x3 : Int32)  (σ : k_Mem), k_GO m_X7_rather E k_vi 21 [(0, k_rf E 67), (1, .int x1), (2, .int x2), (3, .int x3)] [] σ (k21 x1 x2 x3 σ)) (hk33 : ∀ (x1 : Int32) (x2 : Int32) (x3 : Int32) (x4 : Int32) (x5 : Int32)  (σ : k_Mem), k_GO m_X7_rather E k_vi 33 [(0, k_rf E 67), (1, .int x1), (2, .int x2), (3, .int x3), (4, .int x4), (5, .int x5)] [] σ (k33 x1 x2 x3 x4 x5 σ)) (x1 : Int32) (x2 : Int32) (x3 : Int32) (x5 : Int32) (xs0 : Int32)  (σ : k_Mem) : k_GO m_X7_rather E k_vi 63 [(0, k_rf E 67), (1, .int x1), (2, .int x2), (3, .int x3), (5, .int x5)] [.int xs0] σ (j_X7_rather_63  k21 k33 x1 x2 x3 x5 xs0 σ) := by
  unfold j_X7_rather_63
  refine r_iconst 0 (by decide) 64 rfl dX7_rather_63 ?_
  exact r_sub [0, 1, 2, 3, 4] rfl (gj_X7_rather_64 E   _ _ hk21 hk33 _ _ _ _ _ _  _)
def l_X7_rather_33  (k21 : Int32 → Int32 → Int32 → k_Mem → Option (Int32 × k_Mem)) : Nat → Int32 → Int32 → Int32 → Int32 → Int32 → k_Mem → Option (Int32 × k_Mem)
  | 0, _, _, _, _, _, _ => none
  | n + 1, x1, x2, x3, x4, x5, σ =>
    if 8 ≤ x5 then (
      if k_in ((8 * x1) + x3) 64 then (
        if (σ 73 (k_n ((8 * x1) + x3))) < 0 then (
          j_X7_rather_95  k21 x1 x2 x3 σ
        ) else (
          if x4 = x2 then (
            some (x3, σ)
          ) else (
            j_X7_rather_95  k21 x1 x2 x3 σ
          )
        )
      ) else none
    ) else (
      if x5 = x3 then (
        j_X7_rather_63  k21 (fun x1 x2 x3 x4 x5 σ => l_X7_rather_33  k21 n x1 x2 x3 x4 x5 σ) x1 x2 x3 x5 x4 σ
      ) else (
        k_bd (f_X7_isRather  x1 x5 x3 σ) (fun r10 σ10 =>
          if r10 = 0 then (
            j_X7_rather_63  k21 (fun x1 x2 x3 x4 x5 σ => l_X7_rather_33  k21 n x1 x2 x3 x4 x5 σ) x1 x2 x3 x5 x4 σ10
          ) else (
            j_X7_rather_64  k21 (fun x1 x2 x3 x4 x5 σ => l_X7_rather_33  k21 n x1 x2 x3 x4 x5 σ) x1 x2 x3 x5 x4 1 σ10
          )
        )
      )
    )
set_option maxRecDepth 100000 in
theorem gl_X7_rather_33 (E : k_EV)   (k21 : Int32 → Int32 → Int32 → k_Mem → Option (Int32 × k_Mem)) (hk21 : ∀ (x1 : Int32) (x2 : Int32) (x3 : Int32)  (σ : k_Mem), k_GO m_X7_rather E k_vi 21 [(0, k_rf E 67), (1, .int x1), (2, .int x2), (3, .int x3)] [] σ (k21 x1 x2 x3 σ)) : ∀ (n : Nat) (x1 : Int32) (x2 : Int32) (x3 : Int32) (x4 : Int32) (x5 : Int32)  (σ : k_Mem), k_GO m_X7_rather E k_vi 33 [(0, k_rf E 67), (1, .int x1), (2, .int x2), (3, .int x3), (4, .int x4), (5, .int x5)] [] σ (l_X7_rather_33  k21 n x1 x2 x3 x4 x5 σ) := by
  intro n
  induction n with
  | zero => intro x1 x2 x3 x4 x5  σ; exact r_none
  | succ n ih =>
    intro x1 x2 x3 x4 x5  σ
    rw [l_X7_rather_33]
    refine r_iload 5 rfl 35 rfl dX7_rather_33 ?_
    refine r_bipush 8 (by decide) 37 rfl dX7_rather_35 ?_
    refine r_icmp_ge 73 40 rfl (by decide) dX7_rather_37 (fun c6 => ?_) (fun c6 => ?_)
    · refine r_aload_n 0 rfl rfl 74 rfl dX7_rather_73 ?_
      refine r_getr fl_X7_25 sh_67 rfl 77 rfl dX7_rather_74 ?_
      refine r_bipush 8 (by decide) 79 rfl dX7_rather_77 ?_
      refine r_iload_n 1 rfl rfl 80 rfl dX7_rather_79 ?_
      refine r_imul 81 rfl dX7_rather_80 ?_
      refine r_iload_n 3 rfl rfl 82 rfl dX7_rather_81 ?_
      refine r_iadd 83 rfl dX7_rather_82 ?_
      refine r_iald sh_73 84 rfl dX7_rather_83 ?_
      refine r_if_lt 95 87 rfl (by decide) dX7_rather_84 (fun c7 => ?_) (fun c7 => ?_)
      · exact r_sub [0, 1, 2, 3] rfl (gj_X7_rather_95 E   _ hk21 _ _ _  _)
      · refine r_iload 4 rfl 89 rfl dX7_rather_87 ?_
        refine r_iload_n 2 rfl rfl 90 rfl dX7_rather_89 ?_
        refine r_icmp_ne 95 93 rfl (by decide) dX7_rather_90 (fun c8 => ?_) (fun c8 => ?_)
        · refine r_iload_n 3 rfl rfl 94 rfl dX7_rather_93 ?_
          exact r_iret rfl dX7_rather_94
        · exact r_sub [0, 1, 2, 3] rfl (gj_X7_rather_95 E   _ hk21 _ _ _  _)
    · refine r_iload 4 rfl 42 rfl dX7_rather_40 ?_
      refine r_iload 5 rfl 44 rfl dX7_rather_42 ?_
      refine r_iload_n 3 rfl rfl 45 rfl dX7_rather_44 ?_
      refine r_icmp_eq 63 48 rfl (by decide) dX7_rather_45 (fun c9 => ?_) (fun c9 => ?_)
      · exact r_sub [0, 1, 2, 3, 5] rfl (gj_X7_rather_63 E   _ _ hk21 (fun x1 x2 x3 x4 x5  σ => ih x1 x2 x3 x4 x5  σ) _ _ _ _ _  _)
      · refine r_aload_n 0 rfl rfl 49 rfl dX7_rather_48 ?_
        refine r_iload_n 1 rfl rfl 50 rfl dX7_rather_49 ?_
        refine r_iload 5 rfl 52 rfl dX7_rather_50 ?_
        refine r_iload_n 3 rfl rfl 53 rfl dX7_rather_52 ?_
        refine r_calli (c_X7_isRather E   _ _ _ _) rfl sh_67 rfl ml_X7_198 cw_X7_isRather vw_X7_isRather (by decide) (Nat.le_of_ble_eq_true rfl) 56 rfl dX7_rather_53 (fun r10 σ10 => ?_)
        refine r_if_eq 63 59 rfl (by decide) dX7_rather_56 (fun c11 => ?_) (fun c11 => ?_)
        · exact r_sub [0, 1, 2, 3, 5] rfl (gj_X7_rather_63 E   _ _ hk21 (fun x1 x2 x3 x4 x5  σ => ih x1 x2 x3 x4 x5  σ) _ _ _ _ _  _)
        · refine r_iconst 1 (by decide) 60 rfl dX7_rather_59 ?_
          refine r_goto 64 (by decide) dX7_rather_60 ?_
          exact r_sub [0, 1, 2, 3, 5] rfl (gj_X7_rather_64 E   _ _ hk21 (fun x1 x2 x3 x4 x5  σ => ih x1 x2 x3 x4 x5  σ) _ _ _ _ _ _  _)
def l_X7_rather_21   : Nat → Int32 → Int32 → Int32 → k_Mem → Option (Int32 × k_Mem)
  | 0, _, _, _, _ => none
  | n + 1, x1, x2, x3, σ =>
    if 8 ≤ x3 then (
      some ((-4), σ)
    ) else (
      l_X7_rather_33  (fun x1 x2 x3 σ => l_X7_rather_21   n x1 x2 x3 σ) 1000 x1 x2 x3 0 0 σ
    )
set_option maxRecDepth 100000 in
theorem gl_X7_rather_21 (E : k_EV)     : ∀ (n : Nat) (x1 : Int32) (x2 : Int32) (x3 : Int32)  (σ : k_Mem), k_GO m_X7_rather E k_vi 21 [(0, k_rf E 67), (1, .int x1), (2, .int x2), (3, .int x3)] [] σ (l_X7_rather_21   n x1 x2 x3 σ) := by
  intro n
  induction n with
  | zero => intro x1 x2 x3  σ; exact r_none
  | succ n ih =>
    intro x1 x2 x3  σ
    rw [l_X7_rather_21]
    refine r_iload_n 3 rfl rfl 22 rfl dX7_rather_21 ?_
    refine r_bipush 8 (by decide) 24 rfl dX7_rather_22 ?_
    refine r_icmp_ge 101 27 rfl (by decide) dX7_rather_24 (fun c5 => ?_) (fun c5 => ?_)
    · refine r_bipush (-4) (by decide) 103 rfl dX7_rather_101 ?_
      exact r_iret rfl dX7_rather_103
    · refine r_iconst 0 (by decide) 28 rfl dX7_rather_27 ?_
      refine r_istore [(4, .int _), (0, k_rf E 67), (1, .int _), (2, .int _), (3, .int _)] rfl (by decide) 30 rfl dX7_rather_28 ?_
      refine r_iconst 0 (by decide) 31 rfl dX7_rather_30 ?_
      refine r_istore [(5, .int _), (4, .int _), (0, k_rf E 67), (1, .int _), (2, .int _), (3, .int _)] rfl (by decide) 33 rfl dX7_rather_31 ?_
      exact r_sub [2, 3, 4, 5, 1, 0] rfl (gl_X7_rather_33 E   _ (fun x1 x2 x3  σ => ih x1 x2 x3  σ) 1000 _ _ _ _ _  _)
def f_X7_rather  (x1 : Int32) (x2 : Int32) (σ : k_Mem) : Option (Int32 × k_Mem) :=
  k_bd (f_X7_isHand  x1 σ) (fun r1 σ1 =>
    if r1 = 0 then (
      some ((-1), σ1)
    ) else (
      if 0 ≤ x2 then (
        k_bd (f_X7_laysTable  0 σ1) (fun _ σ4 =>
          l_X7_rather_21   1000 x1 x2 0 σ4
        )
      ) else (
        some ((-1), σ1)
      )
    )
  )
set_option maxRecDepth 100000 in
theorem c_X7_rather (E : k_EV)   (x1 : Int32) (x2 : Int32) (σ : k_Mem) : k_MC m_X7_rather E k_vi [k_rf E 67, .int x1, .int x2] σ (f_X7_rather x1 x2 σ) := by
  refine k_MC_of ⟨by decide, by decide⟩ (Nat.le_of_ble_eq_true rfl) ?_
  show k_GO _ _ _ 0 [(0, k_rf E 67), (1, .int x1), (2, .int x2)] [] σ _
  unfold f_X7_rather
  refine r_aload_n 0 rfl rfl 1 rfl dX7_rather_0 ?_
  refine r_iload_n 1 rfl rfl 2 rfl dX7_rather_1 ?_
  refine r_calli (c_X7_isHand E   _ _) rfl sh_67 rfl ml_X7_158 cw_X7_isHand vw_X7_isHand (by decide) (Nat.le_of_ble_eq_true rfl) 5 rfl dX7_rather_2 (fun r1 σ1 => ?_)
  refine r_if_eq 12 8 rfl (by decide) dX7_rather_5 (fun c2 => ?_) (fun c2 => ?_)
  · refine r_iconst (-1) (by decide) 13 rfl dX7_rather_12 ?_
    exact r_iret rfl dX7_rather_13
  · refine r_iload_n 2 rfl rfl 9 rfl dX7_rather_8 ?_
    refine r_if_ge 14 12 rfl (by decide) dX7_rather_9 (fun c3 => ?_) (fun c3 => ?_)
    · refine r_aload_n 0 rfl rfl 15 rfl dX7_rather_14 ?_
      refine r_iconst 0 (by decide) 16 rfl dX7_rather_15 ?_
      refine r_callv (c_X7_laysTable E   _ _) rfl sh_67 rfl ml_X7_195 cw_X7_laysTable vw_X7_laysTable (by decide) (Nat.le_of_ble_eq_true rfl) 19 rfl dX7_rather_16 (fun _ σ4 => ?_)
      refine r_iconst 0 (by decide) 20 rfl dX7_rather_19 ?_
      refine r_istore_n [(3, .int _), (0, k_rf E 67), (1, .int _), (2, .int _)] rfl rfl (by decide) 21 rfl dX7_rather_20 ?_
      exact r_sub [1, 2, 3, 0] rfl (gl_X7_rather_21 E     1000 _ _ _  _)
    · refine r_iconst (-1) (by decide) 13 rfl dX7_rather_12 ?_
      exact r_iret rfl dX7_rather_13
/-! HandMarketModel.puts(ZIII)I -/
def f_X7_puts  (x1 : Int32) (x2 : Int32) (x3 : Int32) (x4 : Int32) (σ : k_Mem) : Option (Int32 × k_Mem) :=
  if x1 = 0 then (
    some ((-1), σ)
  ) else (
    if k_in x2 250 then (
      if k_in x2 250 then (
        some (((σ 68 (k_n x2)) + x4), (k_mset σ 68 (k_n x2) (x3 - x4)))
      ) else none
    ) else none
  )
set_option maxRecDepth 100000 in
theorem c_X7_puts (E : k_EV)   (x1 : Int32) (x2 : Int32) (x3 : Int32) (x4 : Int32) (σ : k_Mem) : k_MC m_X7_puts E k_vi [k_rf E 67, .int x1, .int x2, .int x3, .int x4] σ (f_X7_puts x1 x2 x3 x4 σ) := by
  refine k_MC_of ⟨by decide, by decide⟩ (Nat.le_of_ble_eq_true rfl) ?_
  show k_GO _ _ _ 0 [(0, k_rf E 67), (1, .int x1), (2, .int x2), (3, .int x3), (4, .int x4)] [] σ _
  unfold f_X7_puts
  refine r_iload_n 1 rfl rfl 1 rfl dX7_puts_0 ?_
  refine r_if_ne 6 4 rfl (by decide) dX7_puts_1 (fun c1 => ?_) (fun c1 => ?_)
  · refine r_iconst (-1) (by decide) 5 rfl dX7_puts_4 ?_
    exact r_iret rfl dX7_puts_5
  · refine r_aload_n 0 rfl rfl 7 rfl dX7_puts_6 ?_
    refine r_getr fl_X7_7 sh_67 rfl 10 rfl dX7_puts_7 ?_
    refine r_iload_n 2 rfl rfl 11 rfl dX7_puts_10 ?_
    refine r_iald sh_68 12 rfl dX7_puts_11 ?_
    refine r_iload 4 rfl 14 rfl dX7_puts_12 ?_
    refine r_iadd 15 rfl dX7_puts_14 ?_
    refine r_istore [(5, .int _), (0, k_rf E 67), (1, .int _), (2, .int _), (3, .int _), (4, .int _)] rfl (by decide) 17 rfl dX7_puts_15 ?_
    refine r_aload_n 1 rfl rfl 18 rfl dX7_puts_17 ?_
    refine r_getr fl_X7_7 sh_67 rfl 21 rfl dX7_puts_18 ?_
    refine r_iload_n 3 rfl rfl 22 rfl dX7_puts_21 ?_
    refine r_iload_n 4 rfl rfl 23 rfl dX7_puts_22 ?_
    refine r_iload 5 rfl 25 rfl dX7_puts_23 ?_
    refine r_isub 26 rfl dX7_puts_25 ?_
    refine r_iast sh_68 27 rfl dX7_puts_26 ?_
    refine r_iload 0 rfl 29 rfl dX7_puts_27 ?_
    exact r_iret rfl dX7_puts_29
/-! HandMarketModel.pens(II)I -/
def j_X7_pens_22   (x1 : Int32) (x2 : Int32) (xs1 : Int32) (σ : k_Mem) : Option (Int32 × k_Mem) :=
  k_bd (f_X7_puts  xs1 (32 + x1) x2 x1 σ) (fun r3 σ3 =>
    some (r3, σ3)
  )
set_option maxRecDepth 100000 in
theorem gj_X7_pens_22 (E : k_EV)     (x1 : Int32) (x2 : Int32) (xs1 : Int32)  (σ : k_Mem) : k_GO m_X7_pens E k_vi 22 [(1, .int x1), (2, .int x2)] [.int xs1, k_rf E 67] σ (j_X7_pens_22   x1 x2 xs1 σ) := by
  unfold j_X7_pens_22
  refine r_bipush 32 (by decide) 24 rfl dX7_pens_22 ?_
  refine r_iload_n 0 rfl rfl 25 rfl dX7_pens_24 ?_
  refine r_iadd 26 rfl dX7_pens_25 ?_
  refine r_iload_n 1 rfl rfl 27 rfl dX7_pens_26 ?_
  refine r_iload_n 0 rfl rfl 28 rfl dX7_pens_27 ?_
  refine r_calli (c_X7_puts E   _ _ _ _ _) rfl sh_67 rfl ml_X7_202 cw_X7_puts vw_X7_puts (by decide) (Nat.le_of_ble_eq_true rfl) 31 rfl dX7_pens_28 (fun r3 σ3 => ?_)
  exact r_iret rfl dX7_pens_31
def j_X7_pens_21   (x1 : Int32) (x2 : Int32) (σ : k_Mem) : Option (Int32 × k_Mem) :=
  j_X7_pens_22   x1 x2 0 σ
set_option maxRecDepth 100000 in
theorem gj_X7_pens_21 (E : k_EV)     (x1 : Int32) (x2 : Int32)  (σ : k_Mem) : k_GO m_X7_pens E k_vi 21 [(1, .int x1), (2, .int x2)] [k_rf E 67] σ (j_X7_pens_21   x1 x2 σ) := by
  unfold j_X7_pens_21
  refine r_iconst 0 (by decide) 22 rfl dX7_pens_21 ?_
  exact r_sub [0, 1] rfl (gj_X7_pens_22 E     _ _ _  _)
def f_X7_pens  (x1 : Int32) (x2 : Int32) (σ : k_Mem) : Option (Int32 × k_Mem) :=
  k_bd (f_X7_isHand  x1 σ) (fun r1 σ1 =>
    if r1 = 0 then (
      j_X7_pens_21   x1 x2 σ1
    ) else (
      k_bd (f_X7_isHand  x2 σ1) (fun r4 σ4 =>
        if r4 = 0 then (
          j_X7_pens_21   x1 x2 σ4
        ) else (
          j_X7_pens_22   x1 x2 1 σ4
        )
      )
    )
  )
set_option maxRecDepth 100000 in
theorem c_X7_pens (E : k_EV)   (x1 : Int32) (x2 : Int32) (σ : k_Mem) : k_MC m_X7_pens E k_vi [k_rf E 67, .int x1, .int x2] σ (f_X7_pens x1 x2 σ) := by
  refine k_MC_of ⟨by decide, by decide⟩ (Nat.le_of_ble_eq_true rfl) ?_
  show k_GO _ _ _ 0 [(0, k_rf E 67), (1, .int x1), (2, .int x2)] [] σ _
  unfold f_X7_pens
  refine r_aload_n 0 rfl rfl 1 rfl dX7_pens_0 ?_
  refine r_aload_n 0 rfl rfl 2 rfl dX7_pens_1 ?_
  refine r_iload_n 1 rfl rfl 3 rfl dX7_pens_2 ?_
  refine r_calli (c_X7_isHand E   _ _) rfl sh_67 rfl ml_X7_158 cw_X7_isHand vw_X7_isHand (by decide) (Nat.le_of_ble_eq_true rfl) 6 rfl dX7_pens_3 (fun r1 σ1 => ?_)
  refine r_if_eq 21 9 rfl (by decide) dX7_pens_6 (fun c2 => ?_) (fun c2 => ?_)
  · exact r_sub [1, 2] rfl (gj_X7_pens_21 E     _ _  _)
  · refine r_aload_n 0 rfl rfl 10 rfl dX7_pens_9 ?_
    refine r_iload_n 2 rfl rfl 11 rfl dX7_pens_10 ?_
    refine r_calli (c_X7_isHand E   _ _) rfl sh_67 rfl ml_X7_158 cw_X7_isHand vw_X7_isHand (by decide) (Nat.le_of_ble_eq_true rfl) 14 rfl dX7_pens_11 (fun r4 σ4 => ?_)
    refine r_if_eq 21 17 rfl (by decide) dX7_pens_14 (fun c5 => ?_) (fun c5 => ?_)
    · exact r_sub [1, 2] rfl (gj_X7_pens_21 E     _ _  _)
    · refine r_iconst 1 (by decide) 18 rfl dX7_pens_17 ?_
      refine r_goto 22 (by decide) dX7_pens_18 ?_
      exact r_sub [1, 2] rfl (gj_X7_pens_22 E     _ _ _  _)
/-! HandMarketModel.alter(III)I -/
def j_X7_alter_62   (x1 : Int32) (x2 : Int32) (x3 : Int32) (xs1 : Int64) (xs2 : Int64) (xs3 : Int64) (σ : k_Mem) : Option (Int32 × k_Mem) :=
  k_bd (f_X7_in  xs1 xs2 xs3 σ) (fun r8 σ8 =>
    k_bd (f_X7_puts  r8 ((8 * x2) + x1) x3 0 σ8) (fun r9 σ9 =>
      some (r9, σ9)
    )
  )
set_option maxRecDepth 100000 in
theorem gj_X7_alter_62 (E : k_EV)     (x1 : Int32) (x2 : Int32) (x3 : Int32) (xs1 : Int64) (xs2 : Int64) (xs3 : Int64)  (σ : k_Mem) : k_GO m_X7_alter E k_vi 62 [(1, .int x1), (2, .int x2), (3, .int x3)] [.long xs3, .long xs2, .long xs1, k_rf E 67] σ (j_X7_alter_62   x1 x2 x3 xs1 xs2 xs3 σ) := by
  unfold j_X7_alter_62
  refine r_callsi (c_X7_in E   _ _ _ _) rfl ml_X7_58 cw_X7_in sw_X7_in (by decide) (Nat.le_of_ble_eq_true rfl) 65 rfl dX7_alter_62 (fun r8 σ8 => ?_)
  refine r_bipush 8 (by decide) 67 rfl dX7_alter_65 ?_
  refine r_iload_n 1 rfl rfl 68 rfl dX7_alter_67 ?_
  refine r_imul 69 rfl dX7_alter_68 ?_
  refine r_iload_n 0 rfl rfl 70 rfl dX7_alter_69 ?_
  refine r_iadd 71 rfl dX7_alter_70 ?_
  refine r_iload_n 2 rfl rfl 72 rfl dX7_alter_71 ?_
  refine r_iconst 0 (by decide) 73 rfl dX7_alter_72 ?_
  refine r_calli (c_X7_puts E   _ _ _ _ _) rfl sh_67 rfl ml_X7_202 cw_X7_puts vw_X7_puts (by decide) (Nat.le_of_ble_eq_true rfl) 76 rfl dX7_alter_73 (fun r9 σ9 => ?_)
  exact r_iret rfl dX7_alter_76
def f_X7_alter  (x1 : Int32) (x2 : Int32) (x3 : Int32) (σ : k_Mem) : Option (Int32 × k_Mem) :=
  k_bd (f_X7_isHand  x1 σ) (fun r1 σ1 =>
    if r1 = 0 then (
      some ((-1), σ1)
    ) else (
      k_bd (f_X7_in  (Int32.toInt64 x2) 0 4 σ1) (fun r3 σ3 =>
        if r3 = 0 then (
          some ((-1), σ3)
        ) else (
          if x2 = 4 then (
            k_bd (f_X7_pens  x1 x3 σ3) (fun r6 σ6 =>
              some (r6, σ6)
            )
          ) else (
            if x2 = 0 then (
              j_X7_alter_62   x1 x2 x3 (Int32.toInt64 x3) 0 3 σ3
            ) else (
              if x2 = 3 then (
                j_X7_alter_62   x1 x2 x3 (Int32.toInt64 x3) 0 2 σ3
              ) else (
                j_X7_alter_62   x1 x2 x3 (Int32.toInt64 x3) 0 9 σ3
              )
            )
          )
        )
      )
    )
  )
set_option maxRecDepth 100000 in
theorem c_X7_alter (E : k_EV)   (x1 : Int32) (x2 : Int32) (x3 : Int32) (σ : k_Mem) : k_MC m_X7_alter E k_vi [k_rf E 67, .int x1, .int x2, .int x3] σ (f_X7_alter x1 x2 x3 σ) := by
  refine k_MC_of ⟨by decide, by decide⟩ (Nat.le_of_ble_eq_true rfl) ?_
  show k_GO _ _ _ 0 [(0, k_rf E 67), (1, .int x1), (2, .int x2), (3, .int x3)] [] σ _
  unfold f_X7_alter
  refine r_aload_n 0 rfl rfl 1 rfl dX7_alter_0 ?_
  refine r_iload_n 1 rfl rfl 2 rfl dX7_alter_1 ?_
  refine r_calli (c_X7_isHand E   _ _) rfl sh_67 rfl ml_X7_158 cw_X7_isHand vw_X7_isHand (by decide) (Nat.le_of_ble_eq_true rfl) 5 rfl dX7_alter_2 (fun r1 σ1 => ?_)
  refine r_if_eq 20 8 rfl (by decide) dX7_alter_5 (fun c2 => ?_) (fun c2 => ?_)
  · refine r_iconst (-1) (by decide) 21 rfl dX7_alter_20 ?_
    exact r_iret rfl dX7_alter_21
  · refine r_iload_n 2 rfl rfl 9 rfl dX7_alter_8 ?_
    refine r_i2l 10 rfl dX7_alter_9 ?_
    refine r_lconst 0 (by decide) 11 rfl dX7_alter_10 ?_
    refine r_ldc2 cs_X7_156 14 rfl dX7_alter_11 ?_
    refine r_callsi (c_X7_in E   _ _ _ _) rfl ml_X7_58 cw_X7_in sw_X7_in (by decide) (Nat.le_of_ble_eq_true rfl) 17 rfl dX7_alter_14 (fun r3 σ3 => ?_)
    refine r_if_ne 22 20 rfl (by decide) dX7_alter_17 (fun c4 => ?_) (fun c4 => ?_)
    · refine r_iconst (-1) (by decide) 21 rfl dX7_alter_20 ?_
      exact r_iret rfl dX7_alter_21
    · refine r_iload_n 2 rfl rfl 23 rfl dX7_alter_22 ?_
      refine r_iconst 4 (by decide) 24 rfl dX7_alter_23 ?_
      refine r_icmp_ne 34 27 rfl (by decide) dX7_alter_24 (fun c5 => ?_) (fun c5 => ?_)
      · refine r_aload_n 0 rfl rfl 28 rfl dX7_alter_27 ?_
        refine r_iload_n 1 rfl rfl 29 rfl dX7_alter_28 ?_
        refine r_iload_n 3 rfl rfl 30 rfl dX7_alter_29 ?_
        refine r_calli (c_X7_pens E   _ _ _) rfl sh_67 rfl ml_X7_206 cw_X7_pens vw_X7_pens (by decide) (Nat.le_of_ble_eq_true rfl) 33 rfl dX7_alter_30 (fun r6 σ6 => ?_)
        exact r_iret rfl dX7_alter_33
      · refine r_aload_n 0 rfl rfl 35 rfl dX7_alter_34 ?_
        refine r_iload_n 3 rfl rfl 36 rfl dX7_alter_35 ?_
        refine r_i2l 37 rfl dX7_alter_36 ?_
        refine r_lconst 0 (by decide) 38 rfl dX7_alter_37 ?_
        refine r_iload_n 2 rfl rfl 39 rfl dX7_alter_38 ?_
        refine r_if_ne 48 42 rfl (by decide) dX7_alter_39 (fun c7 => ?_) (fun c7 => ?_)
        · refine r_ldc2 cs_X7_209 45 rfl dX7_alter_42 ?_
          refine r_goto 62 (by decide) dX7_alter_45 ?_
          exact r_sub [1, 2, 3] rfl (gj_X7_alter_62 E     _ _ _ _ _ _  _)
        · refine r_iload_n 2 rfl rfl 49 rfl dX7_alter_48 ?_
          refine r_iconst 3 (by decide) 50 rfl dX7_alter_49 ?_
          refine r_icmp_ne 59 53 rfl (by decide) dX7_alter_50 (fun c10 => ?_) (fun c10 => ?_)
          · refine r_ldc2 cs_X7_184 56 rfl dX7_alter_53 ?_
            refine r_goto 62 (by decide) dX7_alter_56 ?_
            exact r_sub [1, 2, 3] rfl (gj_X7_alter_62 E     _ _ _ _ _ _  _)
          · refine r_ldc2 cs_X7_211 62 rfl dX7_alter_59 ?_
            exact r_sub [1, 2, 3] rfl (gj_X7_alter_62 E     _ _ _ _ _ _  _)
/-! HandMarketModel.run(IZ)I -/
def j_X7_run_52   (x3 : Int32) (xs1 : Int32) (xs2 : Int32) (xs3 : Int32) (σ : k_Mem) : Option (Int32 × k_Mem) :=
  if k_in xs1 250 then (
    some (x3, (k_mset σ 68 (k_n xs1) (xs2 ||| xs3)))
  ) else none
set_option maxRecDepth 100000 in
theorem gj_X7_run_52 (E : k_EV)     (x3 : Int32) (xs1 : Int32) (xs2 : Int32) (xs3 : Int32)  (σ : k_Mem) : k_GO m_X7_run E k_vi 52 [(3, .int x3)] [.int xs3, .int xs2, .int xs1, k_rf E 68] σ (j_X7_run_52   x3 xs1 xs2 xs3 σ) := by
  unfold j_X7_run_52
  refine r_ior 53 rfl dX7_run_52 ?_
  refine r_iast sh_68 54 rfl dX7_run_53 ?_
  refine r_iload_n 0 rfl rfl 55 rfl dX7_run_54 ?_
  exact r_iret rfl dX7_run_55
def f_X7_run  (x1 : Int32) (x2 : Int32) (σ : k_Mem) : Option (Int32 × k_Mem) :=
  k_bd (f_X7_isHand  x1 σ) (fun r1 σ1 =>
    if r1 = 0 then (
      some ((-1), σ1)
    ) else (
      if k_in 44 250 then (
        if k_in 44 250 then (
          if x2 = 0 then (
            j_X7_run_52   ((k_shr (σ1 68 (k_n 44)) x1) &&& 1) 44 ((σ1 68 (k_n 44)) &&& ((k_shl 1 x1) ^^^ (-1))) 0 σ1
          ) else (
            j_X7_run_52   ((k_shr (σ1 68 (k_n 44)) x1) &&& 1) 44 ((σ1 68 (k_n 44)) &&& ((k_shl 1 x1) ^^^ (-1))) (k_shl 1 x1) σ1
          )
        ) else none
      ) else none
    )
  )
set_option maxRecDepth 100000 in
theorem c_X7_run (E : k_EV)   (x1 : Int32) (x2 : Int32) (σ : k_Mem) : k_MC m_X7_run E k_vi [k_rf E 67, .int x1, .int x2] σ (f_X7_run x1 x2 σ) := by
  refine k_MC_of ⟨by decide, by decide⟩ (Nat.le_of_ble_eq_true rfl) ?_
  show k_GO _ _ _ 0 [(0, k_rf E 67), (1, .int x1), (2, .int x2)] [] σ _
  unfold f_X7_run
  refine r_aload_n 0 rfl rfl 1 rfl dX7_run_0 ?_
  refine r_iload_n 1 rfl rfl 2 rfl dX7_run_1 ?_
  refine r_calli (c_X7_isHand E   _ _) rfl sh_67 rfl ml_X7_158 cw_X7_isHand vw_X7_isHand (by decide) (Nat.le_of_ble_eq_true rfl) 5 rfl dX7_run_2 (fun r1 σ1 => ?_)
  refine r_if_ne 10 8 rfl (by decide) dX7_run_5 (fun c2 => ?_) (fun c2 => ?_)
  · refine r_iconst (-1) (by decide) 9 rfl dX7_run_8 ?_
    exact r_iret rfl dX7_run_9
  · refine r_aload_n 0 rfl rfl 11 rfl dX7_run_10 ?_
    refine r_getr fl_X7_7 sh_67 rfl 14 rfl dX7_run_11 ?_
    refine r_bipush 44 (by decide) 16 rfl dX7_run_14 ?_
    refine r_iald sh_68 17 rfl dX7_run_16 ?_
    refine r_iload_n 1 rfl rfl 18 rfl dX7_run_17 ?_
    refine r_ishr 19 rfl dX7_run_18 ?_
    refine r_iconst 1 (by decide) 20 rfl dX7_run_19 ?_
    refine r_iand 21 rfl dX7_run_20 ?_
    refine r_istore_n [(3, .int _), (0, k_rf E 67), (1, .int _), (2, .int _)] rfl rfl (by decide) 22 rfl dX7_run_21 ?_
    refine r_aload_n 1 rfl rfl 23 rfl dX7_run_22 ?_
    refine r_getr fl_X7_7 sh_67 rfl 26 rfl dX7_run_23 ?_
    refine r_bipush 44 (by decide) 28 rfl dX7_run_26 ?_
    refine r_aload_n 1 rfl rfl 29 rfl dX7_run_28 ?_
    refine r_getr fl_X7_7 sh_67 rfl 32 rfl dX7_run_29 ?_
    refine r_bipush 44 (by decide) 34 rfl dX7_run_32 ?_
    refine r_iald sh_68 35 rfl dX7_run_34 ?_
    refine r_iconst 1 (by decide) 36 rfl dX7_run_35 ?_
    refine r_iload_n 2 rfl rfl 37 rfl dX7_run_36 ?_
    refine r_ishl 38 rfl dX7_run_37 ?_
    refine r_iconst (-1) (by decide) 39 rfl dX7_run_38 ?_
    refine r_ixor 40 rfl dX7_run_39 ?_
    refine r_iand 41 rfl dX7_run_40 ?_
    refine r_iload_n 3 rfl rfl 42 rfl dX7_run_41 ?_
    refine r_if_eq 51 45 rfl (by decide) dX7_run_42 (fun c3 => ?_) (fun c3 => ?_)
    · refine r_iconst 0 (by decide) 52 rfl dX7_run_51 ?_
      exact r_sub [0] rfl (gj_X7_run_52 E     _ _ _ _  _)
    · refine r_iconst 1 (by decide) 46 rfl dX7_run_45 ?_
      refine r_iload_n 2 rfl rfl 47 rfl dX7_run_46 ?_
      refine r_ishl 48 rfl dX7_run_47 ?_
      refine r_goto 52 (by decide) dX7_run_48 ?_
      exact r_sub [0] rfl (gj_X7_run_52 E     _ _ _ _  _)
/-! HandMarketModel.areTwo(II)Z -/
def f_X7_areTwo  (x1 : Int32) (x2 : Int32) (σ : k_Mem) : Option (Int32 × k_Mem) :=
  k_bd (f_X7_isHand  x1 σ) (fun r1 σ1 =>
    if r1 = 0 then (
      some (0, σ1)
    ) else (
      k_bd (f_X7_isHand  x2 σ1) (fun r3 σ3 =>
        if r3 = 0 then (
          some (0, σ3)
        ) else (
          if 4 ≤ x1 then (
            some (0, σ3)
          ) else (
            if x2 < 4 then (
              some (0, σ3)
            ) else (
              some (1, σ3)
            )
          )
        )
      )
    )
  )
set_option maxRecDepth 100000 in
theorem c_X7_areTwo (E : k_EV)   (x1 : Int32) (x2 : Int32) (σ : k_Mem) : k_MC m_X7_areTwo E k_vi [k_rf E 67, .int x1, .int x2] σ (f_X7_areTwo x1 x2 σ) := by
  refine k_MC_of ⟨by decide, by decide⟩ (Nat.le_of_ble_eq_true rfl) ?_
  show k_GO _ _ _ 0 [(0, k_rf E 67), (1, .int x1), (2, .int x2)] [] σ _
  unfold f_X7_areTwo
  refine r_aload_n 0 rfl rfl 1 rfl dX7_areTwo_0 ?_
  refine r_iload_n 1 rfl rfl 2 rfl dX7_areTwo_1 ?_
  refine r_calli (c_X7_isHand E   _ _) rfl sh_67 rfl ml_X7_158 cw_X7_isHand vw_X7_isHand (by decide) (Nat.le_of_ble_eq_true rfl) 5 rfl dX7_areTwo_2 (fun r1 σ1 => ?_)
  refine r_if_eq 30 8 rfl (by decide) dX7_areTwo_5 (fun c2 => ?_) (fun c2 => ?_)
  · refine r_iconst 0 (by decide) 31 rfl dX7_areTwo_30 ?_
    exact r_zret rfl (Or.inl rfl) dX7_areTwo_31
  · refine r_aload_n 0 rfl rfl 9 rfl dX7_areTwo_8 ?_
    refine r_iload_n 2 rfl rfl 10 rfl dX7_areTwo_9 ?_
    refine r_calli (c_X7_isHand E   _ _) rfl sh_67 rfl ml_X7_158 cw_X7_isHand vw_X7_isHand (by decide) (Nat.le_of_ble_eq_true rfl) 13 rfl dX7_areTwo_10 (fun r3 σ3 => ?_)
    refine r_if_eq 30 16 rfl (by decide) dX7_areTwo_13 (fun c4 => ?_) (fun c4 => ?_)
    · refine r_iconst 0 (by decide) 31 rfl dX7_areTwo_30 ?_
      exact r_zret rfl (Or.inl rfl) dX7_areTwo_31
    · refine r_iload_n 1 rfl rfl 17 rfl dX7_areTwo_16 ?_
      refine r_iconst 4 (by decide) 18 rfl dX7_areTwo_17 ?_
      refine r_icmp_ge 30 21 rfl (by decide) dX7_areTwo_18 (fun c5 => ?_) (fun c5 => ?_)
      · refine r_iconst 0 (by decide) 31 rfl dX7_areTwo_30 ?_
        exact r_zret rfl (Or.inl rfl) dX7_areTwo_31
      · refine r_iload_n 2 rfl rfl 22 rfl dX7_areTwo_21 ?_
        refine r_iconst 4 (by decide) 23 rfl dX7_areTwo_22 ?_
        refine r_icmp_lt 30 26 rfl (by decide) dX7_areTwo_23 (fun c6 => ?_) (fun c6 => ?_)
        · refine r_iconst 0 (by decide) 31 rfl dX7_areTwo_30 ?_
          exact r_zret rfl (Or.inl rfl) dX7_areTwo_31
        · refine r_iconst 1 (by decide) 27 rfl dX7_areTwo_26 ?_
          refine r_goto 31 (by decide) dX7_areTwo_27 ?_
          exact r_zret rfl (Or.inr rfl) dX7_areTwo_31
/-! HandMarketModel.fold(IIZ)I -/
def j_X7_fold_60   (x4 : Int32) (xs1 : Int32) (xs2 : Int32) (xs3 : Int32) (σ : k_Mem) : Option (Int32 × k_Mem) :=
  if k_in xs1 250 then (
    some (x4, (k_mset σ 68 (k_n xs1) (xs2 ||| xs3)))
  ) else none
set_option maxRecDepth 100000 in
theorem gj_X7_fold_60 (E : k_EV)     (x4 : Int32) (xs1 : Int32) (xs2 : Int32) (xs3 : Int32)  (σ : k_Mem) : k_GO m_X7_fold E k_vi 60 [(4, .int x4)] [.int xs3, .int xs2, .int xs1, k_rf E 68] σ (j_X7_fold_60   x4 xs1 xs2 xs3 σ) := by
  unfold j_X7_fold_60
  refine r_ior 61 rfl dX7_fold_60 ?_
  refine r_iast sh_68 62 rfl dX7_fold_61 ?_
  refine r_iload 0 rfl 64 rfl dX7_fold_62 ?_
  exact r_iret rfl dX7_fold_64
def f_X7_fold  (x1 : Int32) (x2 : Int32) (x3 : Int32) (σ : k_Mem) : Option (Int32 × k_Mem) :=
  k_bd (f_X7_areTwo  x1 x2 σ) (fun r1 σ1 =>
    if r1 = 0 then (
      some ((-1), σ1)
    ) else (
      if k_in (40 + x1) 250 then (
        if k_in (40 + x1) 250 then (
          if x3 = 0 then (
            j_X7_fold_60   ((k_shr (σ1 68 (k_n (40 + x1))) x2) &&& 1) (40 + x1) ((σ1 68 (k_n (40 + x1))) &&& ((k_shl 1 x2) ^^^ (-1))) 0 σ1
          ) else (
            j_X7_fold_60   ((k_shr (σ1 68 (k_n (40 + x1))) x2) &&& 1) (40 + x1) ((σ1 68 (k_n (40 + x1))) &&& ((k_shl 1 x2) ^^^ (-1))) (k_shl 1 x2) σ1
          )
        ) else none
      ) else none
    )
  )
set_option maxRecDepth 100000 in
theorem c_X7_fold (E : k_EV)   (x1 : Int32) (x2 : Int32) (x3 : Int32) (σ : k_Mem) : k_MC m_X7_fold E k_vi [k_rf E 67, .int x1, .int x2, .int x3] σ (f_X7_fold x1 x2 x3 σ) := by
  refine k_MC_of ⟨by decide, by decide⟩ (Nat.le_of_ble_eq_true rfl) ?_
  show k_GO _ _ _ 0 [(0, k_rf E 67), (1, .int x1), (2, .int x2), (3, .int x3)] [] σ _
  unfold f_X7_fold
  refine r_aload_n 0 rfl rfl 1 rfl dX7_fold_0 ?_
  refine r_iload_n 1 rfl rfl 2 rfl dX7_fold_1 ?_
  refine r_iload_n 2 rfl rfl 3 rfl dX7_fold_2 ?_
  refine r_calli (c_X7_areTwo E   _ _ _) rfl sh_67 rfl ml_X7_213 cw_X7_areTwo vw_X7_areTwo (by decide) (Nat.le_of_ble_eq_true rfl) 6 rfl dX7_fold_3 (fun r1 σ1 => ?_)
  refine r_if_ne 11 9 rfl (by decide) dX7_fold_6 (fun c2 => ?_) (fun c2 => ?_)
  · refine r_iconst (-1) (by decide) 10 rfl dX7_fold_9 ?_
    exact r_iret rfl dX7_fold_10
  · refine r_aload_n 0 rfl rfl 12 rfl dX7_fold_11 ?_
    refine r_getr fl_X7_7 sh_67 rfl 15 rfl dX7_fold_12 ?_
    refine r_bipush 40 (by decide) 17 rfl dX7_fold_15 ?_
    refine r_iload_n 1 rfl rfl 18 rfl dX7_fold_17 ?_
    refine r_iadd 19 rfl dX7_fold_18 ?_
    refine r_iald sh_68 20 rfl dX7_fold_19 ?_
    refine r_iload_n 2 rfl rfl 21 rfl dX7_fold_20 ?_
    refine r_ishr 22 rfl dX7_fold_21 ?_
    refine r_iconst 1 (by decide) 23 rfl dX7_fold_22 ?_
    refine r_iand 24 rfl dX7_fold_23 ?_
    refine r_istore [(4, .int _), (0, k_rf E 67), (1, .int _), (2, .int _), (3, .int _)] rfl (by decide) 26 rfl dX7_fold_24 ?_
    refine r_aload_n 1 rfl rfl 27 rfl dX7_fold_26 ?_
    refine r_getr fl_X7_7 sh_67 rfl 30 rfl dX7_fold_27 ?_
    refine r_bipush 40 (by decide) 32 rfl dX7_fold_30 ?_
    refine r_iload_n 2 rfl rfl 33 rfl dX7_fold_32 ?_
    refine r_iadd 34 rfl dX7_fold_33 ?_
    refine r_aload_n 1 rfl rfl 35 rfl dX7_fold_34 ?_
    refine r_getr fl_X7_7 sh_67 rfl 38 rfl dX7_fold_35 ?_
    refine r_bipush 40 (by decide) 40 rfl dX7_fold_38 ?_
    refine r_iload_n 2 rfl rfl 41 rfl dX7_fold_40 ?_
    refine r_iadd 42 rfl dX7_fold_41 ?_
    refine r_iald sh_68 43 rfl dX7_fold_42 ?_
    refine r_iconst 1 (by decide) 44 rfl dX7_fold_43 ?_
    refine r_iload_n 3 rfl rfl 45 rfl dX7_fold_44 ?_
    refine r_ishl 46 rfl dX7_fold_45 ?_
    refine r_iconst (-1) (by decide) 47 rfl dX7_fold_46 ?_
    refine r_ixor 48 rfl dX7_fold_47 ?_
    refine r_iand 49 rfl dX7_fold_48 ?_
    refine r_iload_n 4 rfl rfl 50 rfl dX7_fold_49 ?_
    refine r_if_eq 59 53 rfl (by decide) dX7_fold_50 (fun c3 => ?_) (fun c3 => ?_)
    · refine r_iconst 0 (by decide) 60 rfl dX7_fold_59 ?_
      exact r_sub [0] rfl (gj_X7_fold_60 E     _ _ _ _  _)
    · refine r_iconst 1 (by decide) 54 rfl dX7_fold_53 ?_
      refine r_iload_n 3 rfl rfl 55 rfl dX7_fold_54 ?_
      refine r_ishl 56 rfl dX7_fold_55 ?_
      refine r_goto 60 (by decide) dX7_fold_56 ?_
      exact r_sub [0] rfl (gj_X7_fold_60 E     _ _ _ _  _)
/-! HandMarketModel.bitsOf(I)I -/
def l_X7_bitsOf_4   : Nat → Int32 → Int32 → Int32 → k_Mem → Option (Int32 × k_Mem)
  | 0, _, _, _, _ => none
  | n + 1, x0, x1, x2, σ =>
    if 8 ≤ x2 then (
      some (x1, σ)
    ) else (
      l_X7_bitsOf_4   n x0 (x1 + ((k_shr x0 x2) &&& 1)) (x2 + 1) σ
    )
set_option maxRecDepth 100000 in
theorem gl_X7_bitsOf_4 (E : k_EV)     : ∀ (n : Nat) (x0 : Int32) (x1 : Int32) (x2 : Int32)  (σ : k_Mem), k_GO m_X7_bitsOf E k_vi 4 [(0, .int x0), (1, .int x1), (2, .int x2)] [] σ (l_X7_bitsOf_4   n x0 x1 x2 σ) := by
  intro n
  induction n with
  | zero => intro x0 x1 x2  σ; exact r_none
  | succ n ih =>
    intro x0 x1 x2  σ
    rw [l_X7_bitsOf_4]
    refine r_iload_n 2 rfl rfl 5 rfl dX7_bitsOf_4 ?_
    refine r_bipush 8 (by decide) 7 rfl dX7_bitsOf_5 ?_
    refine r_icmp_ge 24 10 rfl (by decide) dX7_bitsOf_7 (fun c1 => ?_) (fun c1 => ?_)
    · refine r_iload_n 1 rfl rfl 25 rfl dX7_bitsOf_24 ?_
      exact r_iret rfl dX7_bitsOf_25
    · refine r_iload_n 1 rfl rfl 11 rfl dX7_bitsOf_10 ?_
      refine r_iload_n 0 rfl rfl 12 rfl dX7_bitsOf_11 ?_
      refine r_iload_n 2 rfl rfl 13 rfl dX7_bitsOf_12 ?_
      refine r_ishr 14 rfl dX7_bitsOf_13 ?_
      refine r_iconst 1 (by decide) 15 rfl dX7_bitsOf_14 ?_
      refine r_iand 16 rfl dX7_bitsOf_15 ?_
      refine r_iadd 17 rfl dX7_bitsOf_16 ?_
      refine r_istore_n [(1, .int _), (0, .int _), (2, .int _)] rfl rfl (by decide) 18 rfl dX7_bitsOf_17 ?_
      refine r_iinc 1 (by decide) 2 rfl [(2, .int _), (1, .int _), (0, .int _)] rfl (by decide) 21 rfl dX7_bitsOf_18 ?_
      refine r_goto 4 (by decide) dX7_bitsOf_21 ?_
      exact r_sub [2, 1, 0] rfl (ih _ _ _  _)
def f_X7_bitsOf  (x0 : Int32) (σ : k_Mem) : Option (Int32 × k_Mem) :=
  l_X7_bitsOf_4   1000 x0 0 0 σ
set_option maxRecDepth 100000 in
theorem c_X7_bitsOf (E : k_EV)   (x0 : Int32) (σ : k_Mem) : k_MC m_X7_bitsOf E k_vi [.int x0] σ (f_X7_bitsOf x0 σ) := by
  refine k_MC_of ⟨by decide, by decide⟩ (Nat.le_of_ble_eq_true rfl) ?_
  show k_GO _ _ _ 0 [(0, .int x0)] [] σ _
  unfold f_X7_bitsOf
  refine r_iconst 0 (by decide) 1 rfl dX7_bitsOf_0 ?_
  refine r_istore_n [(1, .int _), (0, .int _)] rfl rfl (by decide) 2 rfl dX7_bitsOf_1 ?_
  refine r_iconst 0 (by decide) 3 rfl dX7_bitsOf_2 ?_
  refine r_istore_n [(2, .int _), (1, .int _), (0, .int _)] rfl rfl (by decide) 4 rfl dX7_bitsOf_3 ?_
  exact r_sub [2, 1, 0] rfl (gl_X7_bitsOf_4 E     1000 _ _ _  _)
/-! HandMarketModel.wed(II)I -/
def f_X7_wed  (x1 : Int32) (x2 : Int32) (σ : k_Mem) : Option (Int32 × k_Mem) :=
  k_bd (f_X7_areTwo  x1 x2 σ) (fun r1 σ1 =>
    if r1 = 0 then (
      some ((-1), σ1)
    ) else (
      k_bd (f_X7_wedTo  x1 σ1) (fun r3 σ3 =>
        if r3 = (-4) then (
          k_bd (f_X7_wedTo  x2 σ3) (fun r5 σ5 =>
            if r5 = (-4) then (
              k_bd (f_X7_areFolded  x1 x2 σ5) (fun r7 σ7 =>
                if r7 = 0 then (
                  if k_in (45 + x1) 250 then (
                    k_bd (f_X7_wedOnes   (k_mset σ7 68 (k_n (45 + x1)) x2)) (fun r9 σ9 =>
                      k_bd (f_X7_bitsOf  r9 σ9) (fun r10 σ10 =>
                        some ((r10 / 2), σ10)
                      )
                    )
                  ) else none
                ) else (
                  some ((-2), σ7)
                )
              )
            ) else (
              some ((-2), σ5)
            )
          )
        ) else (
          some ((-2), σ3)
        )
      )
    )
  )
set_option maxRecDepth 100000 in
theorem c_X7_wed (E : k_EV)   (x1 : Int32) (x2 : Int32) (σ : k_Mem) : k_MC m_X7_wed E k_vi [k_rf E 67, .int x1, .int x2] σ (f_X7_wed x1 x2 σ) := by
  refine k_MC_of ⟨by decide, by decide⟩ (Nat.le_of_ble_eq_true rfl) ?_
  show k_GO _ _ _ 0 [(0, k_rf E 67), (1, .int x1), (2, .int x2)] [] σ _
  unfold f_X7_wed
  refine r_aload_n 0 rfl rfl 1 rfl dX7_wed_0 ?_
  refine r_iload_n 1 rfl rfl 2 rfl dX7_wed_1 ?_
  refine r_iload_n 2 rfl rfl 3 rfl dX7_wed_2 ?_
  refine r_calli (c_X7_areTwo E   _ _ _) rfl sh_67 rfl ml_X7_213 cw_X7_areTwo vw_X7_areTwo (by decide) (Nat.le_of_ble_eq_true rfl) 6 rfl dX7_wed_3 (fun r1 σ1 => ?_)
  refine r_if_ne 11 9 rfl (by decide) dX7_wed_6 (fun c2 => ?_) (fun c2 => ?_)
  · refine r_iconst (-1) (by decide) 10 rfl dX7_wed_9 ?_
    exact r_iret rfl dX7_wed_10
  · refine r_aload_n 0 rfl rfl 12 rfl dX7_wed_11 ?_
    refine r_iload_n 1 rfl rfl 13 rfl dX7_wed_12 ?_
    refine r_calli (c_X7_wedTo E   _ _) rfl sh_67 rfl ml_X7_162 cw_X7_wedTo vw_X7_wedTo (by decide) (Nat.le_of_ble_eq_true rfl) 16 rfl dX7_wed_13 (fun r3 σ3 => ?_)
    refine r_bipush (-4) (by decide) 18 rfl dX7_wed_16 ?_
    refine r_icmp_ne 40 21 rfl (by decide) dX7_wed_18 (fun c4 => ?_) (fun c4 => ?_)
    · refine r_aload_n 0 rfl rfl 22 rfl dX7_wed_21 ?_
      refine r_iload_n 2 rfl rfl 23 rfl dX7_wed_22 ?_
      refine r_calli (c_X7_wedTo E   _ _) rfl sh_67 rfl ml_X7_162 cw_X7_wedTo vw_X7_wedTo (by decide) (Nat.le_of_ble_eq_true rfl) 26 rfl dX7_wed_23 (fun r5 σ5 => ?_)
      refine r_bipush (-4) (by decide) 28 rfl dX7_wed_26 ?_
      refine r_icmp_ne 40 31 rfl (by decide) dX7_wed_28 (fun c6 => ?_) (fun c6 => ?_)
      · refine r_aload_n 0 rfl rfl 32 rfl dX7_wed_31 ?_
        refine r_iload_n 1 rfl rfl 33 rfl dX7_wed_32 ?_
        refine r_iload_n 2 rfl rfl 34 rfl dX7_wed_33 ?_
        refine r_calli (c_X7_areFolded E   _ _ _) rfl sh_67 rfl ml_X7_168 cw_X7_areFolded vw_X7_areFolded (by decide) (Nat.le_of_ble_eq_true rfl) 37 rfl dX7_wed_34 (fun r7 σ7 => ?_)
        refine r_if_eq 43 40 rfl (by decide) dX7_wed_37 (fun c8 => ?_) (fun c8 => ?_)
        · refine r_aload_n 0 rfl rfl 44 rfl dX7_wed_43 ?_
          refine r_getr fl_X7_7 sh_67 rfl 47 rfl dX7_wed_44 ?_
          refine r_bipush 45 (by decide) 49 rfl dX7_wed_47 ?_
          refine r_iload_n 1 rfl rfl 50 rfl dX7_wed_49 ?_
          refine r_iadd 51 rfl dX7_wed_50 ?_
          refine r_iload_n 2 rfl rfl 52 rfl dX7_wed_51 ?_
          refine r_iast sh_68 53 rfl dX7_wed_52 ?_
          refine r_aload_n 0 rfl rfl 54 rfl dX7_wed_53 ?_
          refine r_calli (c_X7_wedOnes E    _) rfl sh_67 rfl ml_X7_165 cw_X7_wedOnes vw_X7_wedOnes (by decide) (Nat.le_of_ble_eq_true rfl) 57 rfl dX7_wed_54 (fun r9 σ9 => ?_)
          refine r_callsi (c_X7_bitsOf E   _ _) rfl ml_X7_216 cw_X7_bitsOf sw_X7_bitsOf (by decide) (Nat.le_of_ble_eq_true rfl) 60 rfl dX7_wed_57 (fun r10 σ10 => ?_)
          refine r_iconst 2 (by decide) 61 rfl dX7_wed_60 ?_
          refine r_idiv (by decide) 62 rfl dX7_wed_61 ?_
          exact r_iret rfl dX7_wed_62
        · refine r_bipush (-2) (by decide) 42 rfl dX7_wed_40 ?_
          exact r_iret rfl dX7_wed_42
      · refine r_bipush (-2) (by decide) 42 rfl dX7_wed_40 ?_
        exact r_iret rfl dX7_wed_42
    · refine r_bipush (-2) (by decide) 42 rfl dX7_wed_40 ?_
      exact r_iret rfl dX7_wed_42
/-! HandMarketModel.part(I)I -/
def j_X7_part_41   (x2 : Int32) (xs1 : Int32) (xs2 : Int32) (σ : k_Mem) : Option (Int32 × k_Mem) :=
  if k_in (xs1 + xs2) 250 then (
    some (x2, (k_mset σ 68 (k_n (xs1 + xs2)) 0))
  ) else none
set_option maxRecDepth 100000 in
theorem gj_X7_part_41 (E : k_EV)     (x2 : Int32) (xs1 : Int32) (xs2 : Int32)  (σ : k_Mem) : k_GO m_X7_part E k_vi 41 [(2, .int x2)] [.int xs2, .int xs1, k_rf E 68] σ (j_X7_part_41   x2 xs1 xs2 σ) := by
  unfold j_X7_part_41
  refine r_iadd 42 rfl dX7_part_41 ?_
  refine r_iconst 0 (by decide) 43 rfl dX7_part_42 ?_
  refine r_iast sh_68 44 rfl dX7_part_43 ?_
  refine r_iload_n 0 rfl rfl 45 rfl dX7_part_44 ?_
  exact r_iret rfl dX7_part_45
def f_X7_part  (x1 : Int32) (σ : k_Mem) : Option (Int32 × k_Mem) :=
  k_bd (f_X7_isHand  x1 σ) (fun r1 σ1 =>
    if r1 = 0 then (
      some ((-1), σ1)
    ) else (
      k_bd (f_X7_wedTo  x1 σ1) (fun r3 σ3 =>
        if r3 = (-4) then (
          some ((-2), σ3)
        ) else (
          if r3 ≤ x1 then (
            j_X7_part_41   r3 45 r3 σ3
          ) else (
            j_X7_part_41   r3 45 x1 σ3
          )
        )
      )
    )
  )
set_option maxRecDepth 100000 in
theorem c_X7_part (E : k_EV)   (x1 : Int32) (σ : k_Mem) : k_MC m_X7_part E k_vi [k_rf E 67, .int x1] σ (f_X7_part x1 σ) := by
  refine k_MC_of ⟨by decide, by decide⟩ (Nat.le_of_ble_eq_true rfl) ?_
  show k_GO _ _ _ 0 [(0, k_rf E 67), (1, .int x1)] [] σ _
  unfold f_X7_part
  refine r_aload_n 0 rfl rfl 1 rfl dX7_part_0 ?_
  refine r_iload_n 1 rfl rfl 2 rfl dX7_part_1 ?_
  refine r_calli (c_X7_isHand E   _ _) rfl sh_67 rfl ml_X7_158 cw_X7_isHand vw_X7_isHand (by decide) (Nat.le_of_ble_eq_true rfl) 5 rfl dX7_part_2 (fun r1 σ1 => ?_)
  refine r_if_ne 10 8 rfl (by decide) dX7_part_5 (fun c2 => ?_) (fun c2 => ?_)
  · refine r_iconst (-1) (by decide) 9 rfl dX7_part_8 ?_
    exact r_iret rfl dX7_part_9
  · refine r_aload_n 0 rfl rfl 11 rfl dX7_part_10 ?_
    refine r_iload_n 1 rfl rfl 12 rfl dX7_part_11 ?_
    refine r_calli (c_X7_wedTo E   _ _) rfl sh_67 rfl ml_X7_162 cw_X7_wedTo vw_X7_wedTo (by decide) (Nat.le_of_ble_eq_true rfl) 15 rfl dX7_part_12 (fun r3 σ3 => ?_)
    refine r_istore_n [(2, .int _), (0, k_rf E 67), (1, .int _)] rfl rfl (by decide) 16 rfl dX7_part_15 ?_
    refine r_iload_n 0 rfl rfl 17 rfl dX7_part_16 ?_
    refine r_bipush (-4) (by decide) 19 rfl dX7_part_17 ?_
    refine r_icmp_ne 25 22 rfl (by decide) dX7_part_19 (fun c4 => ?_) (fun c4 => ?_)
    · refine r_bipush (-2) (by decide) 24 rfl dX7_part_22 ?_
      exact r_iret rfl dX7_part_24
    · refine r_aload_n 1 rfl rfl 26 rfl dX7_part_25 ?_
      refine r_getr fl_X7_7 sh_67 rfl 29 rfl dX7_part_26 ?_
      refine r_bipush 45 (by decide) 31 rfl dX7_part_29 ?_
      refine r_iload_n 2 rfl rfl 32 rfl dX7_part_31 ?_
      refine r_iload_n 0 rfl rfl 33 rfl dX7_part_32 ?_
      refine r_icmp_ge 40 36 rfl (by decide) dX7_part_33 (fun c5 => ?_) (fun c5 => ?_)
      · refine r_iload_n 0 rfl rfl 41 rfl dX7_part_40 ?_
        exact r_sub [0] rfl (gj_X7_part_41 E     _ _ _  _)
      · refine r_iload_n 2 rfl rfl 37 rfl dX7_part_36 ?_
        refine r_goto 41 (by decide) dX7_part_37 ?_
        exact r_sub [0] rfl (gj_X7_part_41 E     _ _ _  _)
/-! HandMarketModel.nextAsked(I)I -/
def j_X7_nextAsked_39  (k5 : Int32 → Int32 → Int32 → k_Mem → Option (Int32 × k_Mem)) (x1 : Int32) (x3 : Int32) (xs0 : Int32) (σ : k_Mem) : Option (Int32 × k_Mem) :=
  k5 x1 xs0 (x3 + 1) σ
set_option maxRecDepth 100000 in
theorem gj_X7_nextAsked_39 (E : k_EV)   (k5 : Int32 → Int32 → Int32 → k_Mem → Option (Int32 × k_Mem)) (hk5 : ∀ (x1 : Int32) (x2 : Int32) (x3 : Int32)  (σ : k_Mem), k_GO m_X7_nextAsked E k_vi 5 [(0, k_rf E 67), (1, .int x1), (2, .int x2), (3, .int x3)] [] σ (k5 x1 x2 x3 σ)) (x1 : Int32) (x3 : Int32) (xs0 : Int32)  (σ : k_Mem) : k_GO m_X7_nextAsked E k_vi 39 [(0, k_rf E 67), (1, .int x1), (3, .int x3)] [.int xs0] σ (j_X7_nextAsked_39  k5 x1 x3 xs0 σ) := by
  unfold j_X7_nextAsked_39
  refine r_istore_n [(2, .int _), (0, k_rf E 67), (1, .int _), (3, .int _)] rfl rfl (by decide) 40 rfl dX7_nextAsked_39 ?_
  refine r_iinc 1 (by decide) 3 rfl [(3, .int _), (2, .int _), (0, k_rf E 67), (1, .int _)] rfl (by decide) 43 rfl dX7_nextAsked_40 ?_
  refine r_goto 5 (by decide) dX7_nextAsked_43 ?_
  exact r_sub [2, 3, 1, 0] rfl (hk5 _ _ _  _)
def j_X7_nextAsked_38  (k5 : Int32 → Int32 → Int32 → k_Mem → Option (Int32 × k_Mem)) (x1 : Int32) (x2 : Int32) (x3 : Int32) (σ : k_Mem) : Option (Int32 × k_Mem) :=
  j_X7_nextAsked_39  k5 x1 x3 x2 σ
set_option maxRecDepth 100000 in
theorem gj_X7_nextAsked_38 (E : k_EV)   (k5 : Int32 → Int32 → Int32 → k_Mem → Option (Int32 × k_Mem)) (hk5 : ∀ (x1 : Int32) (x2 : Int32) (x3 : Int32)  (σ : k_Mem), k_GO m_X7_nextAsked E k_vi 5 [(0, k_rf E 67), (1, .int x1), (2, .int x2), (3, .int x3)] [] σ (k5 x1 x2 x3 σ)) (x1 : Int32) (x2 : Int32) (x3 : Int32)  (σ : k_Mem) : k_GO m_X7_nextAsked E k_vi 38 [(0, k_rf E 67), (1, .int x1), (2, .int x2), (3, .int x3)] [] σ (j_X7_nextAsked_38  k5 x1 x2 x3 σ) := by
  unfold j_X7_nextAsked_38
  refine r_iload_n 2 rfl rfl 39 rfl dX7_nextAsked_38 ?_
  exact r_sub [0, 1, 3] rfl (gj_X7_nextAsked_39 E   _ hk5 _ _ _  _)
def l_X7_nextAsked_5   : Nat → Int32 → Int32 → Int32 → k_Mem → Option (Int32 × k_Mem)
  | 0, _, _, _, _ => none
  | n + 1, x1, x2, x3, σ =>
    if 8 ≤ x3 then (
      some (x2, σ)
    ) else (
      if k_in x1 8 then (
        if ((k_shr (σ 75 (k_n x1)) x3) &&& 1) = 0 then (
          k_bd (f_X7_isRather  x1 x3 x2 σ) (fun r3 σ3 =>
            if r3 = 0 then (
              j_X7_nextAsked_38  (fun x1 x2 x3 σ => l_X7_nextAsked_5   n x1 x2 x3 σ) x1 x2 x3 σ3
            ) else (
              j_X7_nextAsked_39  (fun x1 x2 x3 σ => l_X7_nextAsked_5   n x1 x2 x3 σ) x1 x3 x3 σ3
            )
          )
        ) else (
          j_X7_nextAsked_38  (fun x1 x2 x3 σ => l_X7_nextAsked_5   n x1 x2 x3 σ) x1 x2 x3 σ
        )
      ) else none
    )
set_option maxRecDepth 100000 in
theorem gl_X7_nextAsked_5 (E : k_EV)     : ∀ (n : Nat) (x1 : Int32) (x2 : Int32) (x3 : Int32)  (σ : k_Mem), k_GO m_X7_nextAsked E k_vi 5 [(0, k_rf E 67), (1, .int x1), (2, .int x2), (3, .int x3)] [] σ (l_X7_nextAsked_5   n x1 x2 x3 σ) := by
  intro n
  induction n with
  | zero => intro x1 x2 x3  σ; exact r_none
  | succ n ih =>
    intro x1 x2 x3  σ
    rw [l_X7_nextAsked_5]
    refine r_iload_n 3 rfl rfl 6 rfl dX7_nextAsked_5 ?_
    refine r_bipush 8 (by decide) 8 rfl dX7_nextAsked_6 ?_
    refine r_icmp_ge 46 11 rfl (by decide) dX7_nextAsked_8 (fun c1 => ?_) (fun c1 => ?_)
    · refine r_iload_n 2 rfl rfl 47 rfl dX7_nextAsked_46 ?_
      exact r_iret rfl dX7_nextAsked_47
    · refine r_aload_n 0 rfl rfl 12 rfl dX7_nextAsked_11 ?_
      refine r_getr fl_X7_31 sh_67 rfl 15 rfl dX7_nextAsked_12 ?_
      refine r_iload_n 1 rfl rfl 16 rfl dX7_nextAsked_15 ?_
      refine r_iald sh_75 17 rfl dX7_nextAsked_16 ?_
      refine r_iload_n 3 rfl rfl 18 rfl dX7_nextAsked_17 ?_
      refine r_ishr 19 rfl dX7_nextAsked_18 ?_
      refine r_iconst 1 (by decide) 20 rfl dX7_nextAsked_19 ?_
      refine r_iand 21 rfl dX7_nextAsked_20 ?_
      refine r_if_ne 38 24 rfl (by decide) dX7_nextAsked_21 (fun c2 => ?_) (fun c2 => ?_)
      · refine r_aload_n 0 rfl rfl 25 rfl dX7_nextAsked_24 ?_
        refine r_iload_n 1 rfl rfl 26 rfl dX7_nextAsked_25 ?_
        refine r_iload_n 3 rfl rfl 27 rfl dX7_nextAsked_26 ?_
        refine r_iload_n 2 rfl rfl 28 rfl dX7_nextAsked_27 ?_
        refine r_calli (c_X7_isRather E   _ _ _ _) rfl sh_67 rfl ml_X7_198 cw_X7_isRather vw_X7_isRather (by decide) (Nat.le_of_ble_eq_true rfl) 31 rfl dX7_nextAsked_28 (fun r3 σ3 => ?_)
        refine r_if_eq 38 34 rfl (by decide) dX7_nextAsked_31 (fun c4 => ?_) (fun c4 => ?_)
        · exact r_sub [0, 1, 2, 3] rfl (gj_X7_nextAsked_38 E   _ (fun x1 x2 x3  σ => ih x1 x2 x3  σ) _ _ _  _)
        · refine r_iload_n 3 rfl rfl 35 rfl dX7_nextAsked_34 ?_
          refine r_goto 39 (by decide) dX7_nextAsked_35 ?_
          exact r_sub [0, 1, 3] rfl (gj_X7_nextAsked_39 E   _ (fun x1 x2 x3  σ => ih x1 x2 x3  σ) _ _ _  _)
      · exact r_sub [0, 1, 2, 3] rfl (gj_X7_nextAsked_38 E   _ (fun x1 x2 x3  σ => ih x1 x2 x3  σ) _ _ _  _)
def f_X7_nextAsked  (x1 : Int32) (σ : k_Mem) : Option (Int32 × k_Mem) :=
  l_X7_nextAsked_5   1000 x1 (-4) 0 σ
set_option maxRecDepth 100000 in
theorem c_X7_nextAsked (E : k_EV)   (x1 : Int32) (σ : k_Mem) : k_MC m_X7_nextAsked E k_vi [k_rf E 67, .int x1] σ (f_X7_nextAsked x1 σ) := by
  refine k_MC_of ⟨by decide, by decide⟩ (Nat.le_of_ble_eq_true rfl) ?_
  show k_GO _ _ _ 0 [(0, k_rf E 67), (1, .int x1)] [] σ _
  unfold f_X7_nextAsked
  refine r_bipush (-4) (by decide) 2 rfl dX7_nextAsked_0 ?_
  refine r_istore_n [(2, .int _), (0, k_rf E 67), (1, .int _)] rfl rfl (by decide) 3 rfl dX7_nextAsked_2 ?_
  refine r_iconst 0 (by decide) 4 rfl dX7_nextAsked_3 ?_
  refine r_istore_n [(3, .int _), (2, .int _), (0, k_rf E 67), (1, .int _)] rfl rfl (by decide) 5 rfl dX7_nextAsked_4 ?_
  exact r_sub [2, 3, 1, 0] rfl (gl_X7_nextAsked_5 E     1000 _ _ _  _)
/-! HandMarketModel.asking(I)V -/
def j_X7_asking_145  (k33 : Int32 → Int32 → k_Mem → Option (Unit × k_Mem)) (x1 : Int32) (x2 : Int32) (σ : k_Mem) : Option (Unit × k_Mem) :=
  k33 x1 x2 σ
set_option maxRecDepth 100000 in
theorem gj_X7_asking_145 (E : k_EV)   (k33 : Int32 → Int32 → k_Mem → Option (Unit × k_Mem)) (hk33 : ∀ (x1 : Int32) (x2 : Int32)  (σ : k_Mem), k_GO m_X7_asking E k_vv 33 [(0, k_rf E 67), (1, .int x1), (2, .int x2)] [] σ (k33 x1 x2 σ)) (x1 : Int32) (x2 : Int32)  (σ : k_Mem) : k_GO m_X7_asking E k_vv 145 [(0, k_rf E 67), (1, .int x1), (2, .int x2)] [] σ (j_X7_asking_145  k33 x1 x2 σ) := by
  unfold j_X7_asking_145
  refine r_goto 33 (by decide) dX7_asking_145 ?_
  exact r_sub [0, 1, 2] rfl (hk33 _ _  _)
def j_X7_asking_141  (k33 : Int32 → Int32 → k_Mem → Option (Unit × k_Mem)) (x1 : Int32) (σ : k_Mem) : Option (Unit × k_Mem) :=
  j_X7_asking_145  k33 x1 (4 * x1) σ
set_option maxRecDepth 100000 in
theorem gj_X7_asking_141 (E : k_EV)   (k33 : Int32 → Int32 → k_Mem → Option (Unit × k_Mem)) (hk33 : ∀ (x1 : Int32) (x2 : Int32)  (σ : k_Mem), k_GO m_X7_asking E k_vv 33 [(0, k_rf E 67), (1, .int x1), (2, .int x2)] [] σ (k33 x1 x2 σ)) (x1 : Int32)  (σ : k_Mem) : k_GO m_X7_asking E k_vv 141 [(0, k_rf E 67), (1, .int x1)] [] σ (j_X7_asking_141  k33 x1 σ) := by
  unfold j_X7_asking_141
  refine r_iconst 4 (by decide) 142 rfl dX7_asking_141 ?_
  refine r_iload_n 1 rfl rfl 143 rfl dX7_asking_142 ?_
  refine r_imul 144 rfl dX7_asking_143 ?_
  refine r_istore_n [(2, .int _), (0, k_rf E 67), (1, .int _)] rfl rfl (by decide) 145 rfl dX7_asking_144 ?_
  exact r_sub [1, 2, 0] rfl (gj_X7_asking_145 E   _ hk33 _ _  _)
def j_X7_asking_127  (k33 : Int32 → Int32 → k_Mem → Option (Unit × k_Mem)) (x1 : Int32) (x2 : Int32) (x3 : Int32) (σ : k_Mem) : Option (Unit × k_Mem) :=
  if k_in x2 8 then (
    if k_in x3 8 then (
      j_X7_asking_141  k33 x1 (k_mset (k_mset σ 74 (k_n x2) x3) 74 (k_n x3) x2)
    ) else none
  ) else none
set_option maxRecDepth 100000 in
theorem gj_X7_asking_127 (E : k_EV)   (k33 : Int32 → Int32 → k_Mem → Option (Unit × k_Mem)) (hk33 : ∀ (x1 : Int32) (x2 : Int32)  (σ : k_Mem), k_GO m_X7_asking E k_vv 33 [(0, k_rf E 67), (1, .int x1), (2, .int x2)] [] σ (k33 x1 x2 σ)) (x1 : Int32) (x2 : Int32) (x3 : Int32)  (σ : k_Mem) : k_GO m_X7_asking E k_vv 127 [(0, k_rf E 67), (1, .int x1), (2, .int x2), (3, .int x3)] [] σ (j_X7_asking_127  k33 x1 x2 x3 σ) := by
  unfold j_X7_asking_127
  refine r_aload_n 0 rfl rfl 128 rfl dX7_asking_127 ?_
  refine r_getr fl_X7_28 sh_67 rfl 131 rfl dX7_asking_128 ?_
  refine r_iload_n 2 rfl rfl 132 rfl dX7_asking_131 ?_
  refine r_iload_n 3 rfl rfl 133 rfl dX7_asking_132 ?_
  refine r_iast sh_74 134 rfl dX7_asking_133 ?_
  refine r_aload_n 0 rfl rfl 135 rfl dX7_asking_134 ?_
  refine r_getr fl_X7_28 sh_67 rfl 138 rfl dX7_asking_135 ?_
  refine r_iload_n 3 rfl rfl 139 rfl dX7_asking_138 ?_
  refine r_iload_n 2 rfl rfl 140 rfl dX7_asking_139 ?_
  refine r_iast sh_74 141 rfl dX7_asking_140 ?_
  exact r_sub [0, 1] rfl (gj_X7_asking_141 E   _ hk33 _  _)
def j_X7_asking_63  (k33 : Int32 → Int32 → k_Mem → Option (Unit × k_Mem)) (x1 : Int32) (x2 : Int32) (xs0 : Int32) (σ : k_Mem) : Option (Unit × k_Mem) :=
  if xs0 = (-4) then (
    j_X7_asking_145  k33 x1 (x2 + 1) σ
  ) else (
    if k_in x2 8 then (
      if k_in x2 8 then (
        if k_in xs0 8 then (
          k_bd (f_X7_isRather  xs0 x2 ((k_mset σ 75 (k_n x2) ((σ 75 (k_n x2)) ||| (k_shl 1 xs0))) 74 (k_n xs0)) (k_mset σ 75 (k_n x2) ((σ 75 (k_n x2)) ||| (k_shl 1 xs0)))) (fun r6 σ6 =>
            if r6 = 0 then (
              j_X7_asking_141  k33 x1 σ6
            ) else (
              if k_in xs0 8 then (
                if (σ6 74 (k_n xs0)) = (-4) then (
                  j_X7_asking_127  k33 x1 x2 xs0 σ6
                ) else (
                  if k_in xs0 8 then (
                    if k_in (σ6 74 (k_n xs0)) 8 then (
                      j_X7_asking_127  k33 x1 x2 xs0 (k_mset σ6 74 (k_n (σ6 74 (k_n xs0))) (-4))
                    ) else none
                  ) else none
                )
              ) else none
            )
          )
        ) else none
      ) else none
    ) else none
  )
set_option maxRecDepth 100000 in
theorem gj_X7_asking_63 (E : k_EV)   (k33 : Int32 → Int32 → k_Mem → Option (Unit × k_Mem)) (hk33 : ∀ (x1 : Int32) (x2 : Int32)  (σ : k_Mem), k_GO m_X7_asking E k_vv 33 [(0, k_rf E 67), (1, .int x1), (2, .int x2)] [] σ (k33 x1 x2 σ)) (x1 : Int32) (x2 : Int32) (xs0 : Int32)  (σ : k_Mem) : k_GO m_X7_asking E k_vv 63 [(0, k_rf E 67), (1, .int x1), (2, .int x2)] [.int xs0] σ (j_X7_asking_63  k33 x1 x2 xs0 σ) := by
  unfold j_X7_asking_63
  refine r_istore_n [(3, .int _), (0, k_rf E 67), (1, .int _), (2, .int _)] rfl rfl (by decide) 64 rfl dX7_asking_63 ?_
  refine r_iload_n 0 rfl rfl 65 rfl dX7_asking_64 ?_
  refine r_bipush (-4) (by decide) 67 rfl dX7_asking_65 ?_
  refine r_icmp_ne 76 70 rfl (by decide) dX7_asking_67 (fun c5 => ?_) (fun c5 => ?_)
  · refine r_iinc 1 (by decide) 3 rfl [(2, .int _), (3, .int _), (0, k_rf E 67), (1, .int _)] rfl (by decide) 73 rfl dX7_asking_70 ?_
    refine r_goto 145 (by decide) dX7_asking_73 ?_
    exact r_sub [2, 3, 0] rfl (gj_X7_asking_145 E   _ hk33 _ _  _)
  · refine r_aload_n 1 rfl rfl 77 rfl dX7_asking_76 ?_
    refine r_getr fl_X7_31 sh_67 rfl 80 rfl dX7_asking_77 ?_
    refine r_iload_n 3 rfl rfl 81 rfl dX7_asking_80 ?_
    refine r_dup2 82 rfl dX7_asking_81 rfl rfl ?_
    refine r_iald sh_75 83 rfl dX7_asking_82 ?_
    refine r_iconst 1 (by decide) 84 rfl dX7_asking_83 ?_
    refine r_iload_n 0 rfl rfl 85 rfl dX7_asking_84 ?_
    refine r_ishl 86 rfl dX7_asking_85 ?_
    refine r_ior 87 rfl dX7_asking_86 ?_
    refine r_iast sh_75 88 rfl dX7_asking_87 ?_
    refine r_aload_n 1 rfl rfl 89 rfl dX7_asking_88 ?_
    refine r_iload_n 0 rfl rfl 90 rfl dX7_asking_89 ?_
    refine r_iload_n 3 rfl rfl 91 rfl dX7_asking_90 ?_
    refine r_aload_n 1 rfl rfl 92 rfl dX7_asking_91 ?_
    refine r_getr fl_X7_28 sh_67 rfl 95 rfl dX7_asking_92 ?_
    refine r_iload_n 0 rfl rfl 96 rfl dX7_asking_95 ?_
    refine r_iald sh_74 97 rfl dX7_asking_96 ?_
    refine r_calli (c_X7_isRather E   _ _ _ _) rfl sh_67 rfl ml_X7_198 cw_X7_isRather vw_X7_isRather (by decide) (Nat.le_of_ble_eq_true rfl) 100 rfl dX7_asking_97 (fun r6 σ6 => ?_)
    refine r_if_eq 141 103 rfl (by decide) dX7_asking_100 (fun c7 => ?_) (fun c7 => ?_)
    · exact r_sub [1, 2] rfl (gj_X7_asking_141 E   _ hk33 _  _)
    · refine r_aload_n 1 rfl rfl 104 rfl dX7_asking_103 ?_
      refine r_getr fl_X7_28 sh_67 rfl 107 rfl dX7_asking_104 ?_
      refine r_iload_n 0 rfl rfl 108 rfl dX7_asking_107 ?_
      refine r_iald sh_74 109 rfl dX7_asking_108 ?_
      refine r_bipush (-4) (by decide) 111 rfl dX7_asking_109 ?_
      refine r_icmp_eq 127 114 rfl (by decide) dX7_asking_111 (fun c8 => ?_) (fun c8 => ?_)
      · exact r_sub [1, 2, 3, 0] rfl (gj_X7_asking_127 E   _ hk33 _ _ _  _)
      · refine r_aload_n 1 rfl rfl 115 rfl dX7_asking_114 ?_
        refine r_getr fl_X7_28 sh_67 rfl 118 rfl dX7_asking_115 ?_
        refine r_aload_n 1 rfl rfl 119 rfl dX7_asking_118 ?_
        refine r_getr fl_X7_28 sh_67 rfl 122 rfl dX7_asking_119 ?_
        refine r_iload_n 0 rfl rfl 123 rfl dX7_asking_122 ?_
        refine r_iald sh_74 124 rfl dX7_asking_123 ?_
        refine r_bipush (-4) (by decide) 126 rfl dX7_asking_124 ?_
        refine r_iast sh_74 127 rfl dX7_asking_126 ?_
        exact r_sub [1, 2, 3, 0] rfl (gj_X7_asking_127 E   _ hk33 _ _ _  _)
def l_X7_asking_33   : Nat → Int32 → Int32 → k_Mem → Option (Unit × k_Mem)
  | 0, _, _, _ => none
  | n + 1, x1, x2, σ =>
    if ((4 * x1) + 4) ≤ x2 then (
      some ((), σ)
    ) else (
      if k_in x2 8 then (
        if (σ 74 (k_n x2)) = (-4) then (
          k_bd (f_X7_nextAsked  x2 σ) (fun r4 σ4 =>
            j_X7_asking_63  (fun x1 x2 σ => l_X7_asking_33   n x1 x2 σ) x1 x2 r4 σ4
          )
        ) else (
          j_X7_asking_63  (fun x1 x2 σ => l_X7_asking_33   n x1 x2 σ) x1 x2 (-4) σ
        )
      ) else none
    )
set_option maxRecDepth 100000 in
theorem gl_X7_asking_33 (E : k_EV)     : ∀ (n : Nat) (x1 : Int32) (x2 : Int32)  (σ : k_Mem), k_GO m_X7_asking E k_vv 33 [(0, k_rf E 67), (1, .int x1), (2, .int x2)] [] σ (l_X7_asking_33   n x1 x2 σ) := by
  intro n
  induction n with
  | zero => intro x1 x2  σ; exact r_none
  | succ n ih =>
    intro x1 x2  σ
    rw [l_X7_asking_33]
    refine r_iload_n 2 rfl rfl 34 rfl dX7_asking_33 ?_
    refine r_iconst 4 (by decide) 35 rfl dX7_asking_34 ?_
    refine r_iload_n 1 rfl rfl 36 rfl dX7_asking_35 ?_
    refine r_imul 37 rfl dX7_asking_36 ?_
    refine r_iconst 4 (by decide) 38 rfl dX7_asking_37 ?_
    refine r_iadd 39 rfl dX7_asking_38 ?_
    refine r_icmp_ge 148 42 rfl (by decide) dX7_asking_39 (fun c2 => ?_) (fun c2 => ?_)
    · exact r_vret rfl dX7_asking_148
    · refine r_aload_n 0 rfl rfl 43 rfl dX7_asking_42 ?_
      refine r_getr fl_X7_28 sh_67 rfl 46 rfl dX7_asking_43 ?_
      refine r_iload_n 2 rfl rfl 47 rfl dX7_asking_46 ?_
      refine r_iald sh_74 48 rfl dX7_asking_47 ?_
      refine r_bipush (-4) (by decide) 50 rfl dX7_asking_48 ?_
      refine r_icmp_ne 61 53 rfl (by decide) dX7_asking_50 (fun c3 => ?_) (fun c3 => ?_)
      · refine r_aload_n 0 rfl rfl 54 rfl dX7_asking_53 ?_
        refine r_iload_n 2 rfl rfl 55 rfl dX7_asking_54 ?_
        refine r_calli (c_X7_nextAsked E   _ _) rfl sh_67 rfl ml_X7_219 cw_X7_nextAsked vw_X7_nextAsked (by decide) (Nat.le_of_ble_eq_true rfl) 58 rfl dX7_asking_55 (fun r4 σ4 => ?_)
        refine r_goto 63 (by decide) dX7_asking_58 ?_
        exact r_sub [0, 1, 2] rfl (gj_X7_asking_63 E   _ (fun x1 x2  σ => ih x1 x2  σ) _ _ _  _)
      · refine r_bipush (-4) (by decide) 63 rfl dX7_asking_61 ?_
        exact r_sub [0, 1, 2] rfl (gj_X7_asking_63 E   _ (fun x1 x2  σ => ih x1 x2  σ) _ _ _  _)
def l_X7_asking_2   : Nat → Int32 → Int32 → k_Mem → Option (Unit × k_Mem)
  | 0, _, _, _ => none
  | n + 1, x1, x2, σ =>
    if 8 ≤ x2 then (
      l_X7_asking_33   1000 x1 (4 * x1) σ
    ) else (
      if k_in x2 8 then (
        if k_in x2 8 then (
          l_X7_asking_2   n x1 (x2 + 1) (k_mset (k_mset σ 74 (k_n x2) (-4)) 75 (k_n x2) 0)
        ) else none
      ) else none
    )
set_option maxRecDepth 100000 in
theorem gl_X7_asking_2 (E : k_EV)     : ∀ (n : Nat) (x1 : Int32) (x2 : Int32)  (σ : k_Mem), k_GO m_X7_asking E k_vv 2 [(0, k_rf E 67), (1, .int x1), (2, .int x2)] [] σ (l_X7_asking_2   n x1 x2 σ) := by
  intro n
  induction n with
  | zero => intro x1 x2  σ; exact r_none
  | succ n ih =>
    intro x1 x2  σ
    rw [l_X7_asking_2]
    refine r_iload_n 2 rfl rfl 3 rfl dX7_asking_2 ?_
    refine r_bipush 8 (by decide) 5 rfl dX7_asking_3 ?_
    refine r_icmp_ge 29 8 rfl (by decide) dX7_asking_5 (fun c1 => ?_) (fun c1 => ?_)
    · refine r_iconst 4 (by decide) 30 rfl dX7_asking_29 ?_
      refine r_iload_n 1 rfl rfl 31 rfl dX7_asking_30 ?_
      refine r_imul 32 rfl dX7_asking_31 ?_
      refine r_istore_n [(2, .int _), (0, k_rf E 67), (1, .int _)] rfl rfl (by decide) 33 rfl dX7_asking_32 ?_
      exact r_sub [1, 2, 0] rfl (gl_X7_asking_33 E     1000 _ _  _)
    · refine r_aload_n 0 rfl rfl 9 rfl dX7_asking_8 ?_
      refine r_getr fl_X7_28 sh_67 rfl 12 rfl dX7_asking_9 ?_
      refine r_iload_n 2 rfl rfl 13 rfl dX7_asking_12 ?_
      refine r_bipush (-4) (by decide) 15 rfl dX7_asking_13 ?_
      refine r_iast sh_74 16 rfl dX7_asking_15 ?_
      refine r_aload_n 0 rfl rfl 17 rfl dX7_asking_16 ?_
      refine r_getr fl_X7_31 sh_67 rfl 20 rfl dX7_asking_17 ?_
      refine r_iload_n 2 rfl rfl 21 rfl dX7_asking_20 ?_
      refine r_iconst 0 (by decide) 22 rfl dX7_asking_21 ?_
      refine r_iast sh_75 23 rfl dX7_asking_22 ?_
      refine r_iinc 1 (by decide) 2 rfl [(2, .int _), (0, k_rf E 67), (1, .int _)] rfl (by decide) 26 rfl dX7_asking_23 ?_
      refine r_goto 2 (by decide) dX7_asking_26 ?_
      exact r_sub [1, 2, 0] rfl (ih _ _  _)
def f_X7_asking  (x1 : Int32) (σ : k_Mem) : Option (Unit × k_Mem) :=
  l_X7_asking_2   1000 x1 0 σ
set_option maxRecDepth 100000 in
theorem c_X7_asking (E : k_EV)   (x1 : Int32) (σ : k_Mem) : k_MC m_X7_asking E k_vv [k_rf E 67, .int x1] σ (f_X7_asking x1 σ) := by
  refine k_MC_of ⟨by decide, by decide⟩ (Nat.le_of_ble_eq_true rfl) ?_
  show k_GO _ _ _ 0 [(0, k_rf E 67), (1, .int x1)] [] σ _
  unfold f_X7_asking
  refine r_iconst 0 (by decide) 1 rfl dX7_asking_0 ?_
  refine r_istore_n [(2, .int _), (0, k_rf E 67), (1, .int _)] rfl rfl (by decide) 2 rfl dX7_asking_1 ?_
  exact r_sub [1, 2, 0] rfl (gl_X7_asking_2 E     1000 _ _  _)
/-! HandMarketModel.askingNow(I)V -/
def f_X7_askingNow  (x1 : Int32) (σ : k_Mem) : Option (Unit × k_Mem) :=
  k_bd (f_X7_laysTable  0 σ) (fun _ σ1 =>
    k_bd (f_X7_asking  x1 σ1) (fun _ σ2 =>
      some ((), σ2)
    )
  )
set_option maxRecDepth 100000 in
theorem c_X7_askingNow (E : k_EV)   (x1 : Int32) (σ : k_Mem) : k_MC m_X7_askingNow E k_vv [k_rf E 67, .int x1] σ (f_X7_askingNow x1 σ) := by
  refine k_MC_of ⟨by decide, by decide⟩ (Nat.le_of_ble_eq_true rfl) ?_
  show k_GO _ _ _ 0 [(0, k_rf E 67), (1, .int x1)] [] σ _
  unfold f_X7_askingNow
  refine r_aload_n 0 rfl rfl 1 rfl dX7_askingNow_0 ?_
  refine r_iconst 0 (by decide) 2 rfl dX7_askingNow_1 ?_
  refine r_callv (c_X7_laysTable E   _ _) rfl sh_67 rfl ml_X7_195 cw_X7_laysTable vw_X7_laysTable (by decide) (Nat.le_of_ble_eq_true rfl) 5 rfl dX7_askingNow_2 (fun _ σ1 => ?_)
  refine r_aload_n 0 rfl rfl 6 rfl dX7_askingNow_5 ?_
  refine r_iload_n 1 rfl rfl 7 rfl dX7_askingNow_6 ?_
  refine r_callv (c_X7_asking E   _ _) rfl sh_67 rfl ml_X7_222 cw_X7_asking vw_X7_asking (by decide) (Nat.le_of_ble_eq_true rfl) 10 rfl dX7_askingNow_7 (fun _ σ2 => ?_)
  exact r_vret rfl dX7_askingNow_10
/-! HandMarketModel.asked(II)I -/
def f_X7_asked  (x1 : Int32) (x2 : Int32) (σ : k_Mem) : Option (Int32 × k_Mem) :=
  k_bd (f_X7_in  (Int32.toInt64 x1) 0 1 σ) (fun r1 σ1 =>
    if r1 = 0 then (
      some ((-1), σ1)
    ) else (
      k_bd (f_X7_isHand  x2 σ1) (fun r3 σ3 =>
        if r3 = 0 then (
          some ((-1), σ3)
        ) else (
          k_bd (f_X7_askingNow  x1 σ3) (fun _ σ5 =>
            if k_in x2 8 then (
              some ((σ5 74 (k_n x2)), σ5)
            ) else none
          )
        )
      )
    )
  )
set_option maxRecDepth 100000 in
theorem c_X7_asked (E : k_EV)   (x1 : Int32) (x2 : Int32) (σ : k_Mem) : k_MC m_X7_asked E k_vi [k_rf E 67, .int x1, .int x2] σ (f_X7_asked x1 x2 σ) := by
  refine k_MC_of ⟨by decide, by decide⟩ (Nat.le_of_ble_eq_true rfl) ?_
  show k_GO _ _ _ 0 [(0, k_rf E 67), (1, .int x1), (2, .int x2)] [] σ _
  unfold f_X7_asked
  refine r_iload_n 1 rfl rfl 1 rfl dX7_asked_0 ?_
  refine r_i2l 2 rfl dX7_asked_1 ?_
  refine r_lconst 0 (by decide) 3 rfl dX7_asked_2 ?_
  refine r_lconst 1 (by decide) 4 rfl dX7_asked_3 ?_
  refine r_callsi (c_X7_in E   _ _ _ _) rfl ml_X7_58 cw_X7_in sw_X7_in (by decide) (Nat.le_of_ble_eq_true rfl) 7 rfl dX7_asked_4 (fun r1 σ1 => ?_)
  refine r_if_eq 18 10 rfl (by decide) dX7_asked_7 (fun c2 => ?_) (fun c2 => ?_)
  · refine r_iconst (-1) (by decide) 19 rfl dX7_asked_18 ?_
    exact r_iret rfl dX7_asked_19
  · refine r_aload_n 0 rfl rfl 11 rfl dX7_asked_10 ?_
    refine r_iload_n 2 rfl rfl 12 rfl dX7_asked_11 ?_
    refine r_calli (c_X7_isHand E   _ _) rfl sh_67 rfl ml_X7_158 cw_X7_isHand vw_X7_isHand (by decide) (Nat.le_of_ble_eq_true rfl) 15 rfl dX7_asked_12 (fun r3 σ3 => ?_)
    refine r_if_ne 20 18 rfl (by decide) dX7_asked_15 (fun c4 => ?_) (fun c4 => ?_)
    · refine r_iconst (-1) (by decide) 19 rfl dX7_asked_18 ?_
      exact r_iret rfl dX7_asked_19
    · refine r_aload_n 0 rfl rfl 21 rfl dX7_asked_20 ?_
      refine r_iload_n 1 rfl rfl 22 rfl dX7_asked_21 ?_
      refine r_callv (c_X7_askingNow E   _ _) rfl sh_67 rfl ml_X7_225 cw_X7_askingNow vw_X7_askingNow (by decide) (Nat.le_of_ble_eq_true rfl) 25 rfl dX7_asked_22 (fun _ σ5 => ?_)
      refine r_aload_n 0 rfl rfl 26 rfl dX7_asked_25 ?_
      refine r_getr fl_X7_28 sh_67 rfl 29 rfl dX7_asked_26 ?_
      refine r_iload_n 2 rfl rfl 30 rfl dX7_asked_29 ?_
      refine r_iald sh_74 31 rfl dX7_asked_30 ?_
      exact r_iret rfl dX7_asked_31
/-! HandMarketModel.pairMany()I -/
def j_X7_pairMany_26  (k4 : Int32 → Int32 → k_Mem → Option (Int32 × k_Mem)) (x2 : Int32) (xs0 : Int32) (xs1 : Int32) (σ : k_Mem) : Option (Int32 × k_Mem) :=
  k4 (xs0 + xs1) (x2 + 1) σ
set_option maxRecDepth 100000 in
theorem gj_X7_pairMany_26 (E : k_EV)   (k4 : Int32 → Int32 → k_Mem → Option (Int32 × k_Mem)) (hk4 : ∀ (x1 : Int32) (x2 : Int32)  (σ : k_Mem), k_GO m_X7_pairMany E k_vi 4 [(0, k_rf E 67), (1, .int x1), (2, .int x2)] [] σ (k4 x1 x2 σ)) (x2 : Int32) (xs0 : Int32) (xs1 : Int32)  (σ : k_Mem) : k_GO m_X7_pairMany E k_vi 26 [(0, k_rf E 67), (2, .int x2)] [.int xs1, .int xs0] σ (j_X7_pairMany_26  k4 x2 xs0 xs1 σ) := by
  unfold j_X7_pairMany_26
  refine r_iadd 27 rfl dX7_pairMany_26 ?_
  refine r_istore_n [(1, .int _), (0, k_rf E 67), (2, .int _)] rfl rfl (by decide) 28 rfl dX7_pairMany_27 ?_
  refine r_iinc 1 (by decide) 2 rfl [(2, .int _), (1, .int _), (0, k_rf E 67)] rfl (by decide) 31 rfl dX7_pairMany_28 ?_
  refine r_goto 4 (by decide) dX7_pairMany_31 ?_
  exact r_sub [2, 1, 0] rfl (hk4 _ _  _)
def l_X7_pairMany_4   : Nat → Int32 → Int32 → k_Mem → Option (Int32 × k_Mem)
  | 0, _, _, _ => none
  | n + 1, x1, x2, σ =>
    if 4 ≤ x2 then (
      some (x1, σ)
    ) else (
      if k_in x2 8 then (
        if (σ 74 (k_n x2)) = (-4) then (
          j_X7_pairMany_26  (fun x1 x2 σ => l_X7_pairMany_4   n x1 x2 σ) x2 x1 0 σ
        ) else (
          j_X7_pairMany_26  (fun x1 x2 σ => l_X7_pairMany_4   n x1 x2 σ) x2 x1 1 σ
        )
      ) else none
    )
set_option maxRecDepth 100000 in
theorem gl_X7_pairMany_4 (E : k_EV)     : ∀ (n : Nat) (x1 : Int32) (x2 : Int32)  (σ : k_Mem), k_GO m_X7_pairMany E k_vi 4 [(0, k_rf E 67), (1, .int x1), (2, .int x2)] [] σ (l_X7_pairMany_4   n x1 x2 σ) := by
  intro n
  induction n with
  | zero => intro x1 x2  σ; exact r_none
  | succ n ih =>
    intro x1 x2  σ
    rw [l_X7_pairMany_4]
    refine r_iload_n 2 rfl rfl 5 rfl dX7_pairMany_4 ?_
    refine r_iconst 4 (by decide) 6 rfl dX7_pairMany_5 ?_
    refine r_icmp_ge 34 9 rfl (by decide) dX7_pairMany_6 (fun c1 => ?_) (fun c1 => ?_)
    · refine r_iload_n 1 rfl rfl 35 rfl dX7_pairMany_34 ?_
      exact r_iret rfl dX7_pairMany_35
    · refine r_iload_n 1 rfl rfl 10 rfl dX7_pairMany_9 ?_
      refine r_aload_n 0 rfl rfl 11 rfl dX7_pairMany_10 ?_
      refine r_getr fl_X7_28 sh_67 rfl 14 rfl dX7_pairMany_11 ?_
      refine r_iload_n 2 rfl rfl 15 rfl dX7_pairMany_14 ?_
      refine r_iald sh_74 16 rfl dX7_pairMany_15 ?_
      refine r_bipush (-4) (by decide) 18 rfl dX7_pairMany_16 ?_
      refine r_icmp_eq 25 21 rfl (by decide) dX7_pairMany_18 (fun c2 => ?_) (fun c2 => ?_)
      · refine r_iconst 0 (by decide) 26 rfl dX7_pairMany_25 ?_
        exact r_sub [0, 2] rfl (gj_X7_pairMany_26 E   _ (fun x1 x2  σ => ih x1 x2  σ) _ _ _  _)
      · refine r_iconst 1 (by decide) 22 rfl dX7_pairMany_21 ?_
        refine r_goto 26 (by decide) dX7_pairMany_22 ?_
        exact r_sub [0, 2] rfl (gj_X7_pairMany_26 E   _ (fun x1 x2  σ => ih x1 x2  σ) _ _ _  _)
def f_X7_pairMany   (σ : k_Mem) : Option (Int32 × k_Mem) :=
  l_X7_pairMany_4   1000 0 0 σ
set_option maxRecDepth 100000 in
theorem c_X7_pairMany (E : k_EV)    (σ : k_Mem) : k_MC m_X7_pairMany E k_vi [k_rf E 67] σ (f_X7_pairMany  σ) := by
  refine k_MC_of ⟨by decide, by decide⟩ (Nat.le_of_ble_eq_true rfl) ?_
  show k_GO _ _ _ 0 [(0, k_rf E 67)] [] σ _
  unfold f_X7_pairMany
  refine r_iconst 0 (by decide) 1 rfl dX7_pairMany_0 ?_
  refine r_istore_n [(1, .int _), (0, k_rf E 67)] rfl rfl (by decide) 2 rfl dX7_pairMany_1 ?_
  refine r_iconst 0 (by decide) 3 rfl dX7_pairMany_2 ?_
  refine r_istore_n [(2, .int _), (1, .int _), (0, k_rf E 67)] rfl rfl (by decide) 4 rfl dX7_pairMany_3 ?_
  exact r_sub [2, 1, 0] rfl (gl_X7_pairMany_4 E     1000 _ _  _)
/-! HandMarketModel.likesInAll()I -/
def j_X7_likesInAll_42  (k4 : Int32 → Int32 → k_Mem → Option (Int32 × k_Mem)) (x2 : Int32) (xs0 : Int32) (xs1 : Int32) (σ : k_Mem) : Option (Int32 × k_Mem) :=
  k4 (xs0 + xs1) (x2 + 1) σ
set_option maxRecDepth 100000 in
theorem gj_X7_likesInAll_42 (E : k_EV)   (k4 : Int32 → Int32 → k_Mem → Option (Int32 × k_Mem)) (hk4 : ∀ (x1 : Int32) (x2 : Int32)  (σ : k_Mem), k_GO m_X7_likesInAll E k_vi 4 [(0, k_rf E 67), (1, .int x1), (2, .int x2)] [] σ (k4 x1 x2 σ)) (x2 : Int32) (xs0 : Int32) (xs1 : Int32)  (σ : k_Mem) : k_GO m_X7_likesInAll E k_vi 42 [(0, k_rf E 67), (2, .int x2)] [.int xs1, .int xs0] σ (j_X7_likesInAll_42  k4 x2 xs0 xs1 σ) := by
  unfold j_X7_likesInAll_42
  refine r_iadd 43 rfl dX7_likesInAll_42 ?_
  refine r_istore_n [(1, .int _), (0, k_rf E 67), (2, .int _)] rfl rfl (by decide) 44 rfl dX7_likesInAll_43 ?_
  refine r_iinc 1 (by decide) 2 rfl [(2, .int _), (1, .int _), (0, k_rf E 67)] rfl (by decide) 47 rfl dX7_likesInAll_44 ?_
  refine r_goto 4 (by decide) dX7_likesInAll_47 ?_
  exact r_sub [2, 1, 0] rfl (hk4 _ _  _)
def l_X7_likesInAll_4   : Nat → Int32 → Int32 → k_Mem → Option (Int32 × k_Mem)
  | 0, _, _, _ => none
  | n + 1, x1, x2, σ =>
    if 8 ≤ x2 then (
      some (x1, σ)
    ) else (
      if k_in x2 8 then (
        if (σ 74 (k_n x2)) = (-4) then (
          j_X7_likesInAll_42  (fun x1 x2 σ => l_X7_likesInAll_4   n x1 x2 σ) x2 x1 0 σ
        ) else (
          if k_in x2 8 then (
            if k_in ((8 * x2) + (σ 74 (k_n x2))) 64 then (
              j_X7_likesInAll_42  (fun x1 x2 σ => l_X7_likesInAll_4   n x1 x2 σ) x2 x1 (σ 73 (k_n ((8 * x2) + (σ 74 (k_n x2))))) σ
            ) else none
          ) else none
        )
      ) else none
    )
set_option maxRecDepth 100000 in
theorem gl_X7_likesInAll_4 (E : k_EV)     : ∀ (n : Nat) (x1 : Int32) (x2 : Int32)  (σ : k_Mem), k_GO m_X7_likesInAll E k_vi 4 [(0, k_rf E 67), (1, .int x1), (2, .int x2)] [] σ (l_X7_likesInAll_4   n x1 x2 σ) := by
  intro n
  induction n with
  | zero => intro x1 x2  σ; exact r_none
  | succ n ih =>
    intro x1 x2  σ
    rw [l_X7_likesInAll_4]
    refine r_iload_n 2 rfl rfl 5 rfl dX7_likesInAll_4 ?_
    refine r_bipush 8 (by decide) 7 rfl dX7_likesInAll_5 ?_
    refine r_icmp_ge 50 10 rfl (by decide) dX7_likesInAll_7 (fun c1 => ?_) (fun c1 => ?_)
    · refine r_iload_n 1 rfl rfl 51 rfl dX7_likesInAll_50 ?_
      exact r_iret rfl dX7_likesInAll_51
    · refine r_iload_n 1 rfl rfl 11 rfl dX7_likesInAll_10 ?_
      refine r_aload_n 0 rfl rfl 12 rfl dX7_likesInAll_11 ?_
      refine r_getr fl_X7_28 sh_67 rfl 15 rfl dX7_likesInAll_12 ?_
      refine r_iload_n 2 rfl rfl 16 rfl dX7_likesInAll_15 ?_
      refine r_iald sh_74 17 rfl dX7_likesInAll_16 ?_
      refine r_bipush (-4) (by decide) 19 rfl dX7_likesInAll_17 ?_
      refine r_icmp_eq 41 22 rfl (by decide) dX7_likesInAll_19 (fun c2 => ?_) (fun c2 => ?_)
      · refine r_iconst 0 (by decide) 42 rfl dX7_likesInAll_41 ?_
        exact r_sub [0, 2] rfl (gj_X7_likesInAll_42 E   _ (fun x1 x2  σ => ih x1 x2  σ) _ _ _  _)
      · refine r_aload_n 0 rfl rfl 23 rfl dX7_likesInAll_22 ?_
        refine r_getr fl_X7_25 sh_67 rfl 26 rfl dX7_likesInAll_23 ?_
        refine r_bipush 8 (by decide) 28 rfl dX7_likesInAll_26 ?_
        refine r_iload_n 2 rfl rfl 29 rfl dX7_likesInAll_28 ?_
        refine r_imul 30 rfl dX7_likesInAll_29 ?_
        refine r_aload_n 0 rfl rfl 31 rfl dX7_likesInAll_30 ?_
        refine r_getr fl_X7_28 sh_67 rfl 34 rfl dX7_likesInAll_31 ?_
        refine r_iload_n 2 rfl rfl 35 rfl dX7_likesInAll_34 ?_
        refine r_iald sh_74 36 rfl dX7_likesInAll_35 ?_
        refine r_iadd 37 rfl dX7_likesInAll_36 ?_
        refine r_iald sh_73 38 rfl dX7_likesInAll_37 ?_
        refine r_goto 42 (by decide) dX7_likesInAll_38 ?_
        exact r_sub [0, 2] rfl (gj_X7_likesInAll_42 E   _ (fun x1 x2  σ => ih x1 x2  σ) _ _ _  _)
def f_X7_likesInAll   (σ : k_Mem) : Option (Int32 × k_Mem) :=
  l_X7_likesInAll_4   1000 0 0 σ
set_option maxRecDepth 100000 in
theorem c_X7_likesInAll (E : k_EV)    (σ : k_Mem) : k_MC m_X7_likesInAll E k_vi [k_rf E 67] σ (f_X7_likesInAll  σ) := by
  refine k_MC_of ⟨by decide, by decide⟩ (Nat.le_of_ble_eq_true rfl) ?_
  show k_GO _ _ _ 0 [(0, k_rf E 67)] [] σ _
  unfold f_X7_likesInAll
  refine r_iconst 0 (by decide) 1 rfl dX7_likesInAll_0 ?_
  refine r_istore_n [(1, .int _), (0, k_rf E 67)] rfl rfl (by decide) 2 rfl dX7_likesInAll_1 ?_
  refine r_iconst 0 (by decide) 3 rfl dX7_likesInAll_2 ?_
  refine r_istore_n [(2, .int _), (1, .int _), (0, k_rf E 67)] rfl rfl (by decide) 4 rfl dX7_likesInAll_3 ?_
  exact r_sub [2, 1, 0] rfl (gl_X7_likesInAll_4 E     1000 _ _  _)
/-! HandMarketModel.sum(I)I -/
def f_X7_sum  (x1 : Int32) (σ : k_Mem) : Option (Int32 × k_Mem) :=
  k_bd (f_X7_in  (Int32.toInt64 x1) 0 3 σ) (fun r1 σ1 =>
    if r1 = 0 then (
      some ((-1), σ1)
    ) else (
      k_bd (f_X7_askingNow  (x1 / 2) σ1) (fun _ σ3 =>
        if (k_rem x1 2) = 0 then (
          k_bd (f_X7_pairMany   σ3) (fun r5 σ5 =>
            some (r5, σ5)
          )
        ) else (
          k_bd (f_X7_likesInAll   σ3) (fun r6 σ6 =>
            some (r6, σ6)
          )
        )
      )
    )
  )
set_option maxRecDepth 100000 in
theorem c_X7_sum (E : k_EV)   (x1 : Int32) (σ : k_Mem) : k_MC m_X7_sum E k_vi [k_rf E 67, .int x1] σ (f_X7_sum x1 σ) := by
  refine k_MC_of ⟨by decide, by decide⟩ (Nat.le_of_ble_eq_true rfl) ?_
  show k_GO _ _ _ 0 [(0, k_rf E 67), (1, .int x1)] [] σ _
  unfold f_X7_sum
  refine r_iload_n 1 rfl rfl 1 rfl dX7_sum_0 ?_
  refine r_i2l 2 rfl dX7_sum_1 ?_
  refine r_lconst 0 (by decide) 3 rfl dX7_sum_2 ?_
  refine r_ldc2 cs_X7_209 6 rfl dX7_sum_3 ?_
  refine r_callsi (c_X7_in E   _ _ _ _) rfl ml_X7_58 cw_X7_in sw_X7_in (by decide) (Nat.le_of_ble_eq_true rfl) 9 rfl dX7_sum_6 (fun r1 σ1 => ?_)
  refine r_if_ne 14 12 rfl (by decide) dX7_sum_9 (fun c2 => ?_) (fun c2 => ?_)
  · refine r_iconst (-1) (by decide) 13 rfl dX7_sum_12 ?_
    exact r_iret rfl dX7_sum_13
  · refine r_aload_n 0 rfl rfl 15 rfl dX7_sum_14 ?_
    refine r_iload_n 1 rfl rfl 16 rfl dX7_sum_15 ?_
    refine r_iconst 2 (by decide) 17 rfl dX7_sum_16 ?_
    refine r_idiv (by decide) 18 rfl dX7_sum_17 ?_
    refine r_callv (c_X7_askingNow E   _ _) rfl sh_67 rfl ml_X7_225 cw_X7_askingNow vw_X7_askingNow (by decide) (Nat.le_of_ble_eq_true rfl) 21 rfl dX7_sum_18 (fun _ σ3 => ?_)
    refine r_iload_n 1 rfl rfl 22 rfl dX7_sum_21 ?_
    refine r_iconst 2 (by decide) 23 rfl dX7_sum_22 ?_
    refine r_irem (by decide) 24 rfl dX7_sum_23 ?_
    refine r_if_ne 34 27 rfl (by decide) dX7_sum_24 (fun c4 => ?_) (fun c4 => ?_)
    · refine r_aload_n 0 rfl rfl 28 rfl dX7_sum_27 ?_
      refine r_calli (c_X7_pairMany E    _) rfl sh_67 rfl ml_X7_228 cw_X7_pairMany vw_X7_pairMany (by decide) (Nat.le_of_ble_eq_true rfl) 31 rfl dX7_sum_28 (fun r5 σ5 => ?_)
      refine r_goto 38 (by decide) dX7_sum_31 ?_
      exact r_iret rfl dX7_sum_38
    · refine r_aload_n 0 rfl rfl 35 rfl dX7_sum_34 ?_
      refine r_calli (c_X7_likesInAll E    _) rfl sh_67 rfl ml_X7_231 cw_X7_likesInAll vw_X7_likesInAll (by decide) (Nat.le_of_ble_eq_true rfl) 38 rfl dX7_sum_35 (fun r6 σ6 => ?_)
      exact r_iret rfl dX7_sum_38
/-! HandMarketModel.laysPairs(I)Z -/
def j_X7_laysPairs_112  (k32 : Int32 → Int32 → Int32 → k_Mem → Option (Int32 × k_Mem)) (x2 : Int32) (x3 : Int32) (x4 : Int32) (σ : k_Mem) : Option (Int32 × k_Mem) :=
  k32 x2 x3 (x4 + (-1)) σ
set_option maxRecDepth 100000 in
theorem gj_X7_laysPairs_112 (E : k_EV)   (k32 : Int32 → Int32 → Int32 → k_Mem → Option (Int32 × k_Mem)) (hk32 : ∀ (x2 : Int32) (x3 : Int32) (x4 : Int32)  (σ : k_Mem), k_GO m_X7_laysPairs E k_vi 32 [(0, k_rf E 67), (2, .int x2), (3, .int x3), (4, .int x4)] [] σ (k32 x2 x3 x4 σ)) (x2 : Int32) (x3 : Int32) (x4 : Int32)  (σ : k_Mem) : k_GO m_X7_laysPairs E k_vi 112 [(0, k_rf E 67), (2, .int x2), (3, .int x3), (4, .int x4)] [] σ (j_X7_laysPairs_112  k32 x2 x3 x4 σ) := by
  unfold j_X7_laysPairs_112
  refine r_iinc (-1) (by decide) 3 rfl [(4, .int _), (0, k_rf E 67), (2, .int _), (3, .int _)] rfl (by decide) 115 rfl dX7_laysPairs_112 ?_
  refine r_goto 32 (by decide) dX7_laysPairs_115 ?_
  exact r_sub [1, 2, 3, 0] rfl (hk32 _ _ _  _)
def j_X7_laysPairs_93  (k32 : Int32 → Int32 → Int32 → k_Mem → Option (Int32 × k_Mem)) (x2 : Int32) (x4 : Int32) (x5 : Int32) (xs0 : Int32) (σ : k_Mem) : Option (Int32 × k_Mem) :=
  if k_in x4 8 then (
    if k_in x5 8 then (
      j_X7_laysPairs_112  k32 x2 xs0 x4 (k_mset (k_mset σ 76 (k_n x4) x5) 76 (k_n x5) x4)
    ) else none
  ) else none
set_option maxRecDepth 100000 in
theorem gj_X7_laysPairs_93 (E : k_EV)   (k32 : Int32 → Int32 → Int32 → k_Mem → Option (Int32 × k_Mem)) (hk32 : ∀ (x2 : Int32) (x3 : Int32) (x4 : Int32)  (σ : k_Mem), k_GO m_X7_laysPairs E k_vi 32 [(0, k_rf E 67), (2, .int x2), (3, .int x3), (4, .int x4)] [] σ (k32 x2 x3 x4 σ)) (x2 : Int32) (x4 : Int32) (x5 : Int32) (xs0 : Int32)  (σ : k_Mem) : k_GO m_X7_laysPairs E k_vi 93 [(0, k_rf E 67), (2, .int x2), (4, .int x4), (5, .int x5)] [.int xs0] σ (j_X7_laysPairs_93  k32 x2 x4 x5 xs0 σ) := by
  unfold j_X7_laysPairs_93
  refine r_istore_n [(3, .int _), (0, k_rf E 67), (2, .int _), (4, .int _), (5, .int _)] rfl rfl (by decide) 94 rfl dX7_laysPairs_93 ?_
  refine r_aload_n 1 rfl rfl 95 rfl dX7_laysPairs_94 ?_
  refine r_getr fl_X7_34 sh_67 rfl 98 rfl dX7_laysPairs_95 ?_
  refine r_iload 3 rfl 100 rfl dX7_laysPairs_98 ?_
  refine r_iload 4 rfl 102 rfl dX7_laysPairs_100 ?_
  refine r_iast sh_76 103 rfl dX7_laysPairs_102 ?_
  refine r_aload_n 1 rfl rfl 104 rfl dX7_laysPairs_103 ?_
  refine r_getr fl_X7_34 sh_67 rfl 107 rfl dX7_laysPairs_104 ?_
  refine r_iload 4 rfl 109 rfl dX7_laysPairs_107 ?_
  refine r_iload 3 rfl 111 rfl dX7_laysPairs_109 ?_
  refine r_iast sh_76 112 rfl dX7_laysPairs_111 ?_
  exact r_sub [1, 2, 0, 3] rfl (gj_X7_laysPairs_112 E   _ hk32 _ _ _  _)
def j_X7_laysPairs_92  (k32 : Int32 → Int32 → Int32 → k_Mem → Option (Int32 × k_Mem)) (x2 : Int32) (x4 : Int32) (x5 : Int32) (σ : k_Mem) : Option (Int32 × k_Mem) :=
  j_X7_laysPairs_93  k32 x2 x4 x5 0 σ
set_option maxRecDepth 100000 in
theorem gj_X7_laysPairs_92 (E : k_EV)   (k32 : Int32 → Int32 → Int32 → k_Mem → Option (Int32 × k_Mem)) (hk32 : ∀ (x2 : Int32) (x3 : Int32) (x4 : Int32)  (σ : k_Mem), k_GO m_X7_laysPairs E k_vi 32 [(0, k_rf E 67), (2, .int x2), (3, .int x3), (4, .int x4)] [] σ (k32 x2 x3 x4 σ)) (x2 : Int32) (x4 : Int32) (x5 : Int32)  (σ : k_Mem) : k_GO m_X7_laysPairs E k_vi 92 [(0, k_rf E 67), (2, .int x2), (4, .int x4), (5, .int x5)] [] σ (j_X7_laysPairs_92  k32 x2 x4 x5 σ) := by
  unfold j_X7_laysPairs_92
  refine r_iconst 0 (by decide) 93 rfl dX7_laysPairs_92 ?_
  exact r_sub [0, 1, 2, 3] rfl (gj_X7_laysPairs_93 E   _ hk32 _ _ _ _  _)
def l_X7_laysPairs_32   : Nat → Int32 → Int32 → Int32 → k_Mem → Option (Int32 × k_Mem)
  | 0, _, _, _, _ => none
  | n + 1, x2, x3, x4, σ =>
    if x4 < 0 then (
      if x3 = 0 ∨ x3 = 1 then some (x3, σ) else none
    ) else (
      if (((k_rem x2 5) + 4) - 1) < 4 then (
        j_X7_laysPairs_112  (fun x2 x3 x4 σ => l_X7_laysPairs_32   n x2 x3 x4 σ) (x2 / 5) x3 x4 σ
      ) else (
        if x3 = 0 then (
          j_X7_laysPairs_92  (fun x2 x3 x4 σ => l_X7_laysPairs_32   n x2 x3 x4 σ) (x2 / 5) x4 (((k_rem x2 5) + 4) - 1) σ
        ) else (
          if k_in ((8 * x4) + (((k_rem x2 5) + 4) - 1)) 64 then (
            if (σ 73 (k_n ((8 * x4) + (((k_rem x2 5) + 4) - 1)))) < 0 then (
              j_X7_laysPairs_92  (fun x2 x3 x4 σ => l_X7_laysPairs_32   n x2 x3 x4 σ) (x2 / 5) x4 (((k_rem x2 5) + 4) - 1) σ
            ) else (
              if k_in (((k_rem x2 5) + 4) - 1) 8 then (
                if (σ 76 (k_n (((k_rem x2 5) + 4) - 1))) = (-4) then (
                  j_X7_laysPairs_93  (fun x2 x3 x4 σ => l_X7_laysPairs_32   n x2 x3 x4 σ) (x2 / 5) x4 (((k_rem x2 5) + 4) - 1) 1 σ
                ) else (
                  j_X7_laysPairs_92  (fun x2 x3 x4 σ => l_X7_laysPairs_32   n x2 x3 x4 σ) (x2 / 5) x4 (((k_rem x2 5) + 4) - 1) σ
                )
              ) else none
            )
          ) else none
        )
      )
    )
set_option maxRecDepth 100000 in
theorem gl_X7_laysPairs_32 (E : k_EV)     : ∀ (n : Nat) (x2 : Int32) (x3 : Int32) (x4 : Int32)  (σ : k_Mem), k_GO m_X7_laysPairs E k_vi 32 [(0, k_rf E 67), (2, .int x2), (3, .int x3), (4, .int x4)] [] σ (l_X7_laysPairs_32   n x2 x3 x4 σ) := by
  intro n
  induction n with
  | zero => intro x2 x3 x4  σ; exact r_none
  | succ n ih =>
    intro x2 x3 x4  σ
    rw [l_X7_laysPairs_32]
    refine r_iload 3 rfl 34 rfl dX7_laysPairs_32 ?_
    refine r_if_lt 118 37 rfl (by decide) dX7_laysPairs_34 (fun c2 => ?_) (fun c2 => ?_)
    · refine r_iload_n 2 rfl rfl 119 rfl dX7_laysPairs_118 ?_
      refine r_grd (fun c3 => ?_)
      exact r_zret rfl c3 dX7_laysPairs_119
    · refine r_iload_n 1 rfl rfl 38 rfl dX7_laysPairs_37 ?_
      refine r_iconst 5 (by decide) 39 rfl dX7_laysPairs_38 ?_
      refine r_irem (by decide) 40 rfl dX7_laysPairs_39 ?_
      refine r_iconst 4 (by decide) 41 rfl dX7_laysPairs_40 ?_
      refine r_iadd 42 rfl dX7_laysPairs_41 ?_
      refine r_iconst 1 (by decide) 43 rfl dX7_laysPairs_42 ?_
      refine r_isub 44 rfl dX7_laysPairs_43 ?_
      refine r_istore [(5, .int _), (0, k_rf E 67), (2, .int _), (3, .int _), (4, .int _)] rfl (by decide) 46 rfl dX7_laysPairs_44 ?_
      refine r_iload_n 2 rfl rfl 47 rfl dX7_laysPairs_46 ?_
      refine r_iconst 5 (by decide) 48 rfl dX7_laysPairs_47 ?_
      refine r_idiv (by decide) 49 rfl dX7_laysPairs_48 ?_
      refine r_istore_n [(2, .int _), (5, .int _), (0, k_rf E 67), (3, .int _), (4, .int _)] rfl rfl (by decide) 50 rfl dX7_laysPairs_49 ?_
      refine r_iload 1 rfl 52 rfl dX7_laysPairs_50 ?_
      refine r_iconst 4 (by decide) 53 rfl dX7_laysPairs_52 ?_
      refine r_icmp_lt 112 56 rfl (by decide) dX7_laysPairs_53 (fun c4 => ?_) (fun c4 => ?_)
      · exact r_sub [2, 0, 3, 4] rfl (gj_X7_laysPairs_112 E   _ (fun x2 x3 x4  σ => ih x2 x3 x4  σ) _ _ _  _)
      · refine r_iload_n 3 rfl rfl 57 rfl dX7_laysPairs_56 ?_
        refine r_if_eq 92 60 rfl (by decide) dX7_laysPairs_57 (fun c5 => ?_) (fun c5 => ?_)
        · exact r_sub [2, 0, 4, 1] rfl (gj_X7_laysPairs_92 E   _ (fun x2 x3 x4  σ => ih x2 x3 x4  σ) _ _ _  _)
        · refine r_aload_n 2 rfl rfl 61 rfl dX7_laysPairs_60 ?_
          refine r_getr fl_X7_25 sh_67 rfl 64 rfl dX7_laysPairs_61 ?_
          refine r_bipush 8 (by decide) 66 rfl dX7_laysPairs_64 ?_
          refine r_iload 4 rfl 68 rfl dX7_laysPairs_66 ?_
          refine r_imul 69 rfl dX7_laysPairs_68 ?_
          refine r_iload 1 rfl 71 rfl dX7_laysPairs_69 ?_
          refine r_iadd 72 rfl dX7_laysPairs_71 ?_
          refine r_iald sh_73 73 rfl dX7_laysPairs_72 ?_
          refine r_if_lt 92 76 rfl (by decide) dX7_laysPairs_73 (fun c6 => ?_) (fun c6 => ?_)
          · exact r_sub [2, 0, 4, 1] rfl (gj_X7_laysPairs_92 E   _ (fun x2 x3 x4  σ => ih x2 x3 x4  σ) _ _ _  _)
          · refine r_aload_n 2 rfl rfl 77 rfl dX7_laysPairs_76 ?_
            refine r_getr fl_X7_34 sh_67 rfl 80 rfl dX7_laysPairs_77 ?_
            refine r_iload 1 rfl 82 rfl dX7_laysPairs_80 ?_
            refine r_iald sh_76 83 rfl dX7_laysPairs_82 ?_
            refine r_bipush (-4) (by decide) 85 rfl dX7_laysPairs_83 ?_
            refine r_icmp_ne 92 88 rfl (by decide) dX7_laysPairs_85 (fun c7 => ?_) (fun c7 => ?_)
            · refine r_iconst 1 (by decide) 89 rfl dX7_laysPairs_88 ?_
              refine r_goto 93 (by decide) dX7_laysPairs_89 ?_
              exact r_sub [2, 0, 4, 1] rfl (gj_X7_laysPairs_93 E   _ (fun x2 x3 x4  σ => ih x2 x3 x4  σ) _ _ _ _  _)
            · exact r_sub [2, 0, 4, 1] rfl (gj_X7_laysPairs_92 E   _ (fun x2 x3 x4  σ => ih x2 x3 x4  σ) _ _ _  _)
def l_X7_laysPairs_7   : Nat → Int32 → Int32 → Int32 → k_Mem → Option (Int32 × k_Mem)
  | 0, _, _, _, _ => none
  | n + 1, x2, x3, x4, σ =>
    if 8 ≤ x4 then (
      l_X7_laysPairs_32   1000 x2 x3 3 σ
    ) else (
      if k_in x4 8 then (
        l_X7_laysPairs_7   n x2 x3 (x4 + 1) (k_mset σ 76 (k_n x4) (-4))
      ) else none
    )
set_option maxRecDepth 100000 in
theorem gl_X7_laysPairs_7 (E : k_EV)     : ∀ (n : Nat) (x2 : Int32) (x3 : Int32) (x4 : Int32)  (σ : k_Mem), k_GO m_X7_laysPairs E k_vi 7 [(0, k_rf E 67), (2, .int x2), (3, .int x3), (4, .int x4)] [] σ (l_X7_laysPairs_7   n x2 x3 x4 σ) := by
  intro n
  induction n with
  | zero => intro x2 x3 x4  σ; exact r_none
  | succ n ih =>
    intro x2 x3 x4  σ
    rw [l_X7_laysPairs_7]
    refine r_iload 3 rfl 9 rfl dX7_laysPairs_7 ?_
    refine r_bipush 8 (by decide) 11 rfl dX7_laysPairs_9 ?_
    refine r_icmp_ge 29 14 rfl (by decide) dX7_laysPairs_11 (fun c1 => ?_) (fun c1 => ?_)
    · refine r_iconst 3 (by decide) 30 rfl dX7_laysPairs_29 ?_
      refine r_istore [(4, .int _), (0, k_rf E 67), (2, .int _), (3, .int _)] rfl (by decide) 32 rfl dX7_laysPairs_30 ?_
      exact r_sub [1, 2, 3, 0] rfl (gl_X7_laysPairs_32 E     1000 _ _ _  _)
    · refine r_aload_n 0 rfl rfl 15 rfl dX7_laysPairs_14 ?_
      refine r_getr fl_X7_34 sh_67 rfl 18 rfl dX7_laysPairs_15 ?_
      refine r_iload 3 rfl 20 rfl dX7_laysPairs_18 ?_
      refine r_bipush (-4) (by decide) 22 rfl dX7_laysPairs_20 ?_
      refine r_iast sh_76 23 rfl dX7_laysPairs_22 ?_
      refine r_iinc 1 (by decide) 3 rfl [(4, .int _), (0, k_rf E 67), (2, .int _), (3, .int _)] rfl (by decide) 26 rfl dX7_laysPairs_23 ?_
      refine r_goto 7 (by decide) dX7_laysPairs_26 ?_
      exact r_sub [1, 2, 3, 0] rfl (ih _ _ _  _)
def f_X7_laysPairs  (x1 : Int32) (σ : k_Mem) : Option (Int32 × k_Mem) :=
  l_X7_laysPairs_7   1000 x1 1 0 σ
set_option maxRecDepth 100000 in
theorem c_X7_laysPairs (E : k_EV)   (x1 : Int32) (σ : k_Mem) : k_MC m_X7_laysPairs E k_vi [k_rf E 67, .int x1] σ (f_X7_laysPairs x1 σ) := by
  refine k_MC_of ⟨by decide, by decide⟩ (Nat.le_of_ble_eq_true rfl) ?_
  show k_GO _ _ _ 0 [(0, k_rf E 67), (1, .int x1)] [] σ _
  unfold f_X7_laysPairs
  refine r_iload_n 1 rfl rfl 1 rfl dX7_laysPairs_0 ?_
  refine r_istore_n [(2, .int _), (0, k_rf E 67), (1, .int _)] rfl rfl (by decide) 2 rfl dX7_laysPairs_1 ?_
  refine r_iconst 1 (by decide) 3 rfl dX7_laysPairs_2 ?_
  refine r_istore_n [(3, .int _), (2, .int _), (0, k_rf E 67), (1, .int _)] rfl rfl (by decide) 4 rfl dX7_laysPairs_3 ?_
  refine r_iconst 0 (by decide) 5 rfl dX7_laysPairs_4 ?_
  refine r_istore [(4, .int _), (3, .int _), (2, .int _), (0, k_rf E 67), (1, .int _)] rfl (by decide) 7 rfl dX7_laysPairs_5 ?_
  exact r_sub [3, 2, 1, 0] rfl (gl_X7_laysPairs_7 E     1000 _ _ _  _)
/-! HandMarketModel.doQuarrel(II)Z -/
def f_X7_doQuarrel  (x1 : Int32) (x2 : Int32) (σ : k_Mem) : Option (Int32 × k_Mem) :=
  if k_in x1 8 then (
    if (σ 76 (k_n x1)) = x2 then (
      some (0, σ)
    ) else (
      if k_in x1 8 then (
        k_bd (f_X7_isRather  x1 x2 (σ 76 (k_n x1)) σ) (fun r2 σ2 =>
          if r2 = 0 then (
            some (0, σ2)
          ) else (
            if k_in x2 8 then (
              k_bd (f_X7_isRather  x2 x1 (σ2 76 (k_n x2)) σ2) (fun r4 σ4 =>
                if r4 = 0 then (
                  some (0, σ4)
                ) else (
                  some (1, σ4)
                )
              )
            ) else none
          )
        )
      ) else none
    )
  ) else none
set_option maxRecDepth 100000 in
theorem c_X7_doQuarrel (E : k_EV)   (x1 : Int32) (x2 : Int32) (σ : k_Mem) : k_MC m_X7_doQuarrel E k_vi [k_rf E 67, .int x1, .int x2] σ (f_X7_doQuarrel x1 x2 σ) := by
  refine k_MC_of ⟨by decide, by decide⟩ (Nat.le_of_ble_eq_true rfl) ?_
  show k_GO _ _ _ 0 [(0, k_rf E 67), (1, .int x1), (2, .int x2)] [] σ _
  unfold f_X7_doQuarrel
  refine r_aload_n 0 rfl rfl 1 rfl dX7_doQuarrel_0 ?_
  refine r_getr fl_X7_34 sh_67 rfl 4 rfl dX7_doQuarrel_1 ?_
  refine r_iload_n 1 rfl rfl 5 rfl dX7_doQuarrel_4 ?_
  refine r_iald sh_76 6 rfl dX7_doQuarrel_5 ?_
  refine r_iload_n 2 rfl rfl 7 rfl dX7_doQuarrel_6 ?_
  refine r_icmp_eq 44 10 rfl (by decide) dX7_doQuarrel_7 (fun c1 => ?_) (fun c1 => ?_)
  · refine r_iconst 0 (by decide) 45 rfl dX7_doQuarrel_44 ?_
    exact r_zret rfl (Or.inl rfl) dX7_doQuarrel_45
  · refine r_aload_n 0 rfl rfl 11 rfl dX7_doQuarrel_10 ?_
    refine r_iload_n 1 rfl rfl 12 rfl dX7_doQuarrel_11 ?_
    refine r_iload_n 2 rfl rfl 13 rfl dX7_doQuarrel_12 ?_
    refine r_aload_n 0 rfl rfl 14 rfl dX7_doQuarrel_13 ?_
    refine r_getr fl_X7_34 sh_67 rfl 17 rfl dX7_doQuarrel_14 ?_
    refine r_iload_n 1 rfl rfl 18 rfl dX7_doQuarrel_17 ?_
    refine r_iald sh_76 19 rfl dX7_doQuarrel_18 ?_
    refine r_calli (c_X7_isRather E   _ _ _ _) rfl sh_67 rfl ml_X7_198 cw_X7_isRather vw_X7_isRather (by decide) (Nat.le_of_ble_eq_true rfl) 22 rfl dX7_doQuarrel_19 (fun r2 σ2 => ?_)
    refine r_if_eq 44 25 rfl (by decide) dX7_doQuarrel_22 (fun c3 => ?_) (fun c3 => ?_)
    · refine r_iconst 0 (by decide) 45 rfl dX7_doQuarrel_44 ?_
      exact r_zret rfl (Or.inl rfl) dX7_doQuarrel_45
    · refine r_aload_n 0 rfl rfl 26 rfl dX7_doQuarrel_25 ?_
      refine r_iload_n 2 rfl rfl 27 rfl dX7_doQuarrel_26 ?_
      refine r_iload_n 1 rfl rfl 28 rfl dX7_doQuarrel_27 ?_
      refine r_aload_n 0 rfl rfl 29 rfl dX7_doQuarrel_28 ?_
      refine r_getr fl_X7_34 sh_67 rfl 32 rfl dX7_doQuarrel_29 ?_
      refine r_iload_n 2 rfl rfl 33 rfl dX7_doQuarrel_32 ?_
      refine r_iald sh_76 34 rfl dX7_doQuarrel_33 ?_
      refine r_calli (c_X7_isRather E   _ _ _ _) rfl sh_67 rfl ml_X7_198 cw_X7_isRather vw_X7_isRather (by decide) (Nat.le_of_ble_eq_true rfl) 37 rfl dX7_doQuarrel_34 (fun r4 σ4 => ?_)
      refine r_if_eq 44 40 rfl (by decide) dX7_doQuarrel_37 (fun c5 => ?_) (fun c5 => ?_)
      · refine r_iconst 0 (by decide) 45 rfl dX7_doQuarrel_44 ?_
        exact r_zret rfl (Or.inl rfl) dX7_doQuarrel_45
      · refine r_iconst 1 (by decide) 41 rfl dX7_doQuarrel_40 ?_
        refine r_goto 45 (by decide) dX7_doQuarrel_41 ?_
        exact r_zret rfl (Or.inr rfl) dX7_doQuarrel_45
/-! HandMarketModel.quarrels()I -/
def j_X7_quarrels_31  (k4 : Int32 → Int32 → k_Mem → Option (Int32 × k_Mem)) (x2 : Int32) (xs0 : Int32) (xs1 : Int32) (σ : k_Mem) : Option (Int32 × k_Mem) :=
  k4 (xs0 + xs1) (x2 + 1) σ
set_option maxRecDepth 100000 in
theorem gj_X7_quarrels_31 (E : k_EV)   (k4 : Int32 → Int32 → k_Mem → Option (Int32 × k_Mem)) (hk4 : ∀ (x1 : Int32) (x2 : Int32)  (σ : k_Mem), k_GO m_X7_quarrels E k_vi 4 [(0, k_rf E 67), (1, .int x1), (2, .int x2)] [] σ (k4 x1 x2 σ)) (x2 : Int32) (xs0 : Int32) (xs1 : Int32)  (σ : k_Mem) : k_GO m_X7_quarrels E k_vi 31 [(0, k_rf E 67), (2, .int x2)] [.int xs1, .int xs0] σ (j_X7_quarrels_31  k4 x2 xs0 xs1 σ) := by
  unfold j_X7_quarrels_31
  refine r_iadd 32 rfl dX7_quarrels_31 ?_
  refine r_istore_n [(1, .int _), (0, k_rf E 67), (2, .int _)] rfl rfl (by decide) 33 rfl dX7_quarrels_32 ?_
  refine r_iinc 1 (by decide) 2 rfl [(2, .int _), (1, .int _), (0, k_rf E 67)] rfl (by decide) 36 rfl dX7_quarrels_33 ?_
  refine r_goto 4 (by decide) dX7_quarrels_36 ?_
  exact r_sub [2, 1, 0] rfl (hk4 _ _  _)
def l_X7_quarrels_4   : Nat → Int32 → Int32 → k_Mem → Option (Int32 × k_Mem)
  | 0, _, _, _ => none
  | n + 1, x1, x2, σ =>
    if 16 ≤ x2 then (
      some (x1, σ)
    ) else (
      k_bd (f_X7_doQuarrel  (x2 / 4) (4 + (k_rem x2 4)) σ) (fun r2 σ2 =>
        if r2 = 0 then (
          j_X7_quarrels_31  (fun x1 x2 σ => l_X7_quarrels_4   n x1 x2 σ) x2 x1 0 σ2
        ) else (
          j_X7_quarrels_31  (fun x1 x2 σ => l_X7_quarrels_4   n x1 x2 σ) x2 x1 1 σ2
        )
      )
    )
set_option maxRecDepth 100000 in
theorem gl_X7_quarrels_4 (E : k_EV)     : ∀ (n : Nat) (x1 : Int32) (x2 : Int32)  (σ : k_Mem), k_GO m_X7_quarrels E k_vi 4 [(0, k_rf E 67), (1, .int x1), (2, .int x2)] [] σ (l_X7_quarrels_4   n x1 x2 σ) := by
  intro n
  induction n with
  | zero => intro x1 x2  σ; exact r_none
  | succ n ih =>
    intro x1 x2  σ
    rw [l_X7_quarrels_4]
    refine r_iload_n 2 rfl rfl 5 rfl dX7_quarrels_4 ?_
    refine r_bipush 16 (by decide) 7 rfl dX7_quarrels_5 ?_
    refine r_icmp_ge 39 10 rfl (by decide) dX7_quarrels_7 (fun c1 => ?_) (fun c1 => ?_)
    · refine r_iload_n 1 rfl rfl 40 rfl dX7_quarrels_39 ?_
      exact r_iret rfl dX7_quarrels_40
    · refine r_iload_n 1 rfl rfl 11 rfl dX7_quarrels_10 ?_
      refine r_aload_n 0 rfl rfl 12 rfl dX7_quarrels_11 ?_
      refine r_iload_n 2 rfl rfl 13 rfl dX7_quarrels_12 ?_
      refine r_iconst 4 (by decide) 14 rfl dX7_quarrels_13 ?_
      refine r_idiv (by decide) 15 rfl dX7_quarrels_14 ?_
      refine r_iconst 4 (by decide) 16 rfl dX7_quarrels_15 ?_
      refine r_iload_n 2 rfl rfl 17 rfl dX7_quarrels_16 ?_
      refine r_iconst 4 (by decide) 18 rfl dX7_quarrels_17 ?_
      refine r_irem (by decide) 19 rfl dX7_quarrels_18 ?_
      refine r_iadd 20 rfl dX7_quarrels_19 ?_
      refine r_calli (c_X7_doQuarrel E   _ _ _) rfl sh_67 rfl ml_X7_234 cw_X7_doQuarrel vw_X7_doQuarrel (by decide) (Nat.le_of_ble_eq_true rfl) 23 rfl dX7_quarrels_20 (fun r2 σ2 => ?_)
      refine r_if_eq 30 26 rfl (by decide) dX7_quarrels_23 (fun c3 => ?_) (fun c3 => ?_)
      · refine r_iconst 0 (by decide) 31 rfl dX7_quarrels_30 ?_
        exact r_sub [0, 2] rfl (gj_X7_quarrels_31 E   _ (fun x1 x2  σ => ih x1 x2  σ) _ _ _  _)
      · refine r_iconst 1 (by decide) 27 rfl dX7_quarrels_26 ?_
        refine r_goto 31 (by decide) dX7_quarrels_27 ?_
        exact r_sub [0, 2] rfl (gj_X7_quarrels_31 E   _ (fun x1 x2  σ => ih x1 x2  σ) _ _ _  _)
def f_X7_quarrels   (σ : k_Mem) : Option (Int32 × k_Mem) :=
  l_X7_quarrels_4   1000 0 0 σ
set_option maxRecDepth 100000 in
theorem c_X7_quarrels (E : k_EV)    (σ : k_Mem) : k_MC m_X7_quarrels E k_vi [k_rf E 67] σ (f_X7_quarrels  σ) := by
  refine k_MC_of ⟨by decide, by decide⟩ (Nat.le_of_ble_eq_true rfl) ?_
  show k_GO _ _ _ 0 [(0, k_rf E 67)] [] σ _
  unfold f_X7_quarrels
  refine r_iconst 0 (by decide) 1 rfl dX7_quarrels_0 ?_
  refine r_istore_n [(1, .int _), (0, k_rf E 67)] rfl rfl (by decide) 2 rfl dX7_quarrels_1 ?_
  refine r_iconst 0 (by decide) 3 rfl dX7_quarrels_2 ?_
  refine r_istore_n [(2, .int _), (1, .int _), (0, k_rf E 67)] rfl rfl (by decide) 4 rfl dX7_quarrels_3 ?_
  exact r_sub [2, 1, 0] rfl (gl_X7_quarrels_4 E     1000 _ _  _)
/-! HandMarketModel.hold(I)I -/
def j_X7_hold_91  (k26 : Int32 → Int32 → Int32 → k_Mem → Option (Int32 × k_Mem)) (x1 : Int32) (x3 : Int32) (xs0 : Int32) (xs1 : Int32) (σ : k_Mem) : Option (Int32 × k_Mem) :=
  k26 x1 (xs0 + xs1) (x3 + 1) σ
set_option maxRecDepth 100000 in
theorem gj_X7_hold_91 (E : k_EV)   (k26 : Int32 → Int32 → Int32 → k_Mem → Option (Int32 × k_Mem)) (hk26 : ∀ (x1 : Int32) (x2 : Int32) (x3 : Int32)  (σ : k_Mem), k_GO m_X7_hold E k_vi 26 [(0, k_rf E 67), (1, .int x1), (2, .int x2), (3, .int x3)] [] σ (k26 x1 x2 x3 σ)) (x1 : Int32) (x3 : Int32) (xs0 : Int32) (xs1 : Int32)  (σ : k_Mem) : k_GO m_X7_hold E k_vi 91 [(0, k_rf E 67), (1, .int x1), (3, .int x3)] [.int xs1, .int xs0] σ (j_X7_hold_91  k26 x1 x3 xs0 xs1 σ) := by
  unfold j_X7_hold_91
  refine r_iadd 92 rfl dX7_hold_91 ?_
  refine r_istore_n [(2, .int _), (0, k_rf E 67), (1, .int _), (3, .int _)] rfl rfl (by decide) 93 rfl dX7_hold_92 ?_
  refine r_iinc 1 (by decide) 3 rfl [(3, .int _), (2, .int _), (0, k_rf E 67), (1, .int _)] rfl (by decide) 96 rfl dX7_hold_93 ?_
  refine r_goto 26 (by decide) dX7_hold_96 ?_
  exact r_sub [2, 3, 1, 0] rfl (hk26 _ _ _  _)
def j_X7_hold_90  (k26 : Int32 → Int32 → Int32 → k_Mem → Option (Int32 × k_Mem)) (x1 : Int32) (x3 : Int32) (xs0 : Int32) (σ : k_Mem) : Option (Int32 × k_Mem) :=
  j_X7_hold_91  k26 x1 x3 xs0 0 σ
set_option maxRecDepth 100000 in
theorem gj_X7_hold_90 (E : k_EV)   (k26 : Int32 → Int32 → Int32 → k_Mem → Option (Int32 × k_Mem)) (hk26 : ∀ (x1 : Int32) (x2 : Int32) (x3 : Int32)  (σ : k_Mem), k_GO m_X7_hold E k_vi 26 [(0, k_rf E 67), (1, .int x1), (2, .int x2), (3, .int x3)] [] σ (k26 x1 x2 x3 σ)) (x1 : Int32) (x3 : Int32) (xs0 : Int32)  (σ : k_Mem) : k_GO m_X7_hold E k_vi 90 [(0, k_rf E 67), (1, .int x1), (3, .int x3)] [.int xs0] σ (j_X7_hold_90  k26 x1 x3 xs0 σ) := by
  unfold j_X7_hold_90
  refine r_iconst 0 (by decide) 91 rfl dX7_hold_90 ?_
  exact r_sub [0, 1, 2] rfl (gj_X7_hold_91 E   _ hk26 _ _ _ _  _)
def j_X7_hold_86  (k26 : Int32 → Int32 → Int32 → k_Mem → Option (Int32 × k_Mem)) (x1 : Int32) (x3 : Int32) (xs0 : Int32) (σ : k_Mem) : Option (Int32 × k_Mem) :=
  j_X7_hold_91  k26 x1 x3 xs0 1 σ
set_option maxRecDepth 100000 in
theorem gj_X7_hold_86 (E : k_EV)   (k26 : Int32 → Int32 → Int32 → k_Mem → Option (Int32 × k_Mem)) (hk26 : ∀ (x1 : Int32) (x2 : Int32) (x3 : Int32)  (σ : k_Mem), k_GO m_X7_hold E k_vi 26 [(0, k_rf E 67), (1, .int x1), (2, .int x2), (3, .int x3)] [] σ (k26 x1 x2 x3 σ)) (x1 : Int32) (x3 : Int32) (xs0 : Int32)  (σ : k_Mem) : k_GO m_X7_hold E k_vi 86 [(0, k_rf E 67), (1, .int x1), (3, .int x3)] [.int xs0] σ (j_X7_hold_86  k26 x1 x3 xs0 σ) := by
  unfold j_X7_hold_86
  refine r_iconst 1 (by decide) 87 rfl dX7_hold_86 ?_
  refine r_goto 91 (by decide) dX7_hold_87 ?_
  exact r_sub [0, 1, 2] rfl (gj_X7_hold_91 E   _ hk26 _ _ _ _  _)
def j_X7_hold_53  (k26 : Int32 → Int32 → Int32 → k_Mem → Option (Int32 × k_Mem)) (x1 : Int32) (x2 : Int32) (x3 : Int32) (xs0 : Int32) (σ : k_Mem) : Option (Int32 × k_Mem) :=
  if xs0 = 0 then (
    j_X7_hold_90  k26 x1 x3 x2 σ
  ) else (
    if x1 = 0 then (
      j_X7_hold_86  k26 x1 x3 x2 σ
    ) else (
      if k_in (x1 - 10) 8 then (
        if k_in (x1 - 10) 8 then (
          if (σ 76 (k_n (x1 - 10))) = (σ 74 (k_n (x1 - 10))) then (
            j_X7_hold_86  k26 x1 x3 x2 σ
          ) else (
            j_X7_hold_90  k26 x1 x3 x2 σ
          )
        ) else none
      ) else none
    )
  )
set_option maxRecDepth 100000 in
theorem gj_X7_hold_53 (E : k_EV)   (k26 : Int32 → Int32 → Int32 → k_Mem → Option (Int32 × k_Mem)) (hk26 : ∀ (x1 : Int32) (x2 : Int32) (x3 : Int32)  (σ : k_Mem), k_GO m_X7_hold E k_vi 26 [(0, k_rf E 67), (1, .int x1), (2, .int x2), (3, .int x3)] [] σ (k26 x1 x2 x3 σ)) (x1 : Int32) (x2 : Int32) (x3 : Int32) (xs0 : Int32)  (σ : k_Mem) : k_GO m_X7_hold E k_vi 53 [(0, k_rf E 67), (1, .int x1), (2, .int x2), (3, .int x3)] [.int xs0] σ (j_X7_hold_53  k26 x1 x2 x3 xs0 σ) := by
  unfold j_X7_hold_53
  refine r_istore [(4, .int _), (0, k_rf E 67), (1, .int _), (2, .int _), (3, .int _)] rfl (by decide) 55 rfl dX7_hold_53 ?_
  refine r_iload_n 3 rfl rfl 56 rfl dX7_hold_55 ?_
  refine r_iload 0 rfl 58 rfl dX7_hold_56 ?_
  refine r_if_eq 90 61 rfl (by decide) dX7_hold_58 (fun c6 => ?_) (fun c6 => ?_)
  · exact r_sub [1, 2, 4] rfl (gj_X7_hold_90 E   _ hk26 _ _ _  _)
  · refine r_iload_n 2 rfl rfl 62 rfl dX7_hold_61 ?_
    refine r_if_eq 86 65 rfl (by decide) dX7_hold_62 (fun c7 => ?_) (fun c7 => ?_)
    · exact r_sub [1, 2, 4] rfl (gj_X7_hold_86 E   _ hk26 _ _ _  _)
    · refine r_aload_n 1 rfl rfl 66 rfl dX7_hold_65 ?_
      refine r_getr fl_X7_34 sh_67 rfl 69 rfl dX7_hold_66 ?_
      refine r_iload_n 2 rfl rfl 70 rfl dX7_hold_69 ?_
      refine r_bipush 10 (by decide) 72 rfl dX7_hold_70 ?_
      refine r_isub 73 rfl dX7_hold_72 ?_
      refine r_iald sh_76 74 rfl dX7_hold_73 ?_
      refine r_aload_n 1 rfl rfl 75 rfl dX7_hold_74 ?_
      refine r_getr fl_X7_28 sh_67 rfl 78 rfl dX7_hold_75 ?_
      refine r_iload_n 2 rfl rfl 79 rfl dX7_hold_78 ?_
      refine r_bipush 10 (by decide) 81 rfl dX7_hold_79 ?_
      refine r_isub 82 rfl dX7_hold_81 ?_
      refine r_iald sh_74 83 rfl dX7_hold_82 ?_
      refine r_icmp_ne 90 86 rfl (by decide) dX7_hold_83 (fun c8 => ?_) (fun c8 => ?_)
      · exact r_sub [1, 2, 4] rfl (gj_X7_hold_86 E   _ hk26 _ _ _  _)
      · exact r_sub [1, 2, 4] rfl (gj_X7_hold_90 E   _ hk26 _ _ _  _)
def j_X7_hold_52  (k26 : Int32 → Int32 → Int32 → k_Mem → Option (Int32 × k_Mem)) (x1 : Int32) (x2 : Int32) (x3 : Int32) (σ : k_Mem) : Option (Int32 × k_Mem) :=
  j_X7_hold_53  k26 x1 x2 x3 0 σ
set_option maxRecDepth 100000 in
theorem gj_X7_hold_52 (E : k_EV)   (k26 : Int32 → Int32 → Int32 → k_Mem → Option (Int32 × k_Mem)) (hk26 : ∀ (x1 : Int32) (x2 : Int32) (x3 : Int32)  (σ : k_Mem), k_GO m_X7_hold E k_vi 26 [(0, k_rf E 67), (1, .int x1), (2, .int x2), (3, .int x3)] [] σ (k26 x1 x2 x3 σ)) (x1 : Int32) (x2 : Int32) (x3 : Int32)  (σ : k_Mem) : k_GO m_X7_hold E k_vi 52 [(0, k_rf E 67), (1, .int x1), (2, .int x2), (3, .int x3)] [] σ (j_X7_hold_52  k26 x1 x2 x3 σ) := by
  unfold j_X7_hold_52
  refine r_iconst 0 (by decide) 53 rfl dX7_hold_52 ?_
  exact r_sub [0, 1, 2, 3] rfl (gj_X7_hold_53 E   _ hk26 _ _ _ _  _)
def l_X7_hold_26   : Nat → Int32 → Int32 → Int32 → k_Mem → Option (Int32 × k_Mem)
  | 0, _, _, _, _ => none
  | n + 1, x1, x2, x3, σ =>
    if 625 ≤ x3 then (
      some (x2, σ)
    ) else (
      k_bd (f_X7_laysPairs  x3 σ) (fun r4 σ4 =>
        if r4 = 0 then (
          j_X7_hold_52  (fun x1 x2 x3 σ => l_X7_hold_26   n x1 x2 x3 σ) x1 x2 x3 σ4
        ) else (
          k_bd (f_X7_quarrels   σ4) (fun r9 σ9 =>
            if r9 = 0 then (
              j_X7_hold_53  (fun x1 x2 x3 σ => l_X7_hold_26   n x1 x2 x3 σ) x1 x2 x3 1 σ9
            ) else (
              j_X7_hold_52  (fun x1 x2 x3 σ => l_X7_hold_26   n x1 x2 x3 σ) x1 x2 x3 σ9
            )
          )
        )
      )
    )
set_option maxRecDepth 100000 in
theorem gl_X7_hold_26 (E : k_EV)     : ∀ (n : Nat) (x1 : Int32) (x2 : Int32) (x3 : Int32)  (σ : k_Mem), k_GO m_X7_hold E k_vi 26 [(0, k_rf E 67), (1, .int x1), (2, .int x2), (3, .int x3)] [] σ (l_X7_hold_26   n x1 x2 x3 σ) := by
  intro n
  induction n with
  | zero => intro x1 x2 x3  σ; exact r_none
  | succ n ih =>
    intro x1 x2 x3  σ
    rw [l_X7_hold_26]
    refine r_iload_n 3 rfl rfl 27 rfl dX7_hold_26 ?_
    refine r_sipush 625 (by decide) 30 rfl dX7_hold_27 ?_
    refine r_icmp_ge 99 33 rfl (by decide) dX7_hold_30 (fun c3 => ?_) (fun c3 => ?_)
    · refine r_iload_n 2 rfl rfl 100 rfl dX7_hold_99 ?_
      exact r_iret rfl dX7_hold_100
    · refine r_aload_n 0 rfl rfl 34 rfl dX7_hold_33 ?_
      refine r_iload_n 3 rfl rfl 35 rfl dX7_hold_34 ?_
      refine r_calli (c_X7_laysPairs E   _ _) rfl sh_67 rfl ml_X7_237 cw_X7_laysPairs vw_X7_laysPairs (by decide) (Nat.le_of_ble_eq_true rfl) 38 rfl dX7_hold_35 (fun r4 σ4 => ?_)
      refine r_if_eq 52 41 rfl (by decide) dX7_hold_38 (fun c5 => ?_) (fun c5 => ?_)
      · exact r_sub [0, 1, 2, 3] rfl (gj_X7_hold_52 E   _ (fun x1 x2 x3  σ => ih x1 x2 x3  σ) _ _ _  _)
      · refine r_aload_n 0 rfl rfl 42 rfl dX7_hold_41 ?_
        refine r_calli (c_X7_quarrels E    _) rfl sh_67 rfl ml_X7_240 cw_X7_quarrels vw_X7_quarrels (by decide) (Nat.le_of_ble_eq_true rfl) 45 rfl dX7_hold_42 (fun r9 σ9 => ?_)
        refine r_if_ne 52 48 rfl (by decide) dX7_hold_45 (fun c10 => ?_) (fun c10 => ?_)
        · refine r_iconst 1 (by decide) 49 rfl dX7_hold_48 ?_
          refine r_goto 53 (by decide) dX7_hold_49 ?_
          exact r_sub [0, 1, 2, 3] rfl (gj_X7_hold_53 E   _ (fun x1 x2 x3  σ => ih x1 x2 x3  σ) _ _ _ _  _)
        · exact r_sub [0, 1, 2, 3] rfl (gj_X7_hold_52 E   _ (fun x1 x2 x3  σ => ih x1 x2 x3  σ) _ _ _  _)
def j_X7_hold_17   (x1 : Int32) (σ : k_Mem) : Option (Int32 × k_Mem) :=
  k_bd (f_X7_askingNow  0 σ) (fun _ σ2 =>
    l_X7_hold_26   1000 x1 0 0 σ2
  )
set_option maxRecDepth 100000 in
theorem gj_X7_hold_17 (E : k_EV)     (x1 : Int32)  (σ : k_Mem) : k_GO m_X7_hold E k_vi 17 [(0, k_rf E 67), (1, .int x1)] [] σ (j_X7_hold_17   x1 σ) := by
  unfold j_X7_hold_17
  refine r_aload_n 0 rfl rfl 18 rfl dX7_hold_17 ?_
  refine r_iconst 0 (by decide) 19 rfl dX7_hold_18 ?_
  refine r_callv (c_X7_askingNow E   _ _) rfl sh_67 rfl ml_X7_225 cw_X7_askingNow vw_X7_askingNow (by decide) (Nat.le_of_ble_eq_true rfl) 22 rfl dX7_hold_19 (fun _ σ2 => ?_)
  refine r_iconst 0 (by decide) 23 rfl dX7_hold_22 ?_
  refine r_istore_n [(2, .int _), (0, k_rf E 67), (1, .int _)] rfl rfl (by decide) 24 rfl dX7_hold_23 ?_
  refine r_iconst 0 (by decide) 25 rfl dX7_hold_24 ?_
  refine r_istore_n [(3, .int _), (2, .int _), (0, k_rf E 67), (1, .int _)] rfl rfl (by decide) 26 rfl dX7_hold_25 ?_
  exact r_sub [2, 3, 1, 0] rfl (gl_X7_hold_26 E     1000 _ _ _  _)
def f_X7_hold  (x1 : Int32) (σ : k_Mem) : Option (Int32 × k_Mem) :=
  if x1 = 0 then (
    j_X7_hold_17   x1 σ
  ) else (
    k_bd (f_X7_isHand  (x1 - 10) σ) (fun r11 σ11 =>
      if r11 = 0 then (
        some ((-1), σ11)
      ) else (
        j_X7_hold_17   x1 σ11
      )
    )
  )
set_option maxRecDepth 100000 in
theorem c_X7_hold (E : k_EV)   (x1 : Int32) (σ : k_Mem) : k_MC m_X7_hold E k_vi [k_rf E 67, .int x1] σ (f_X7_hold x1 σ) := by
  refine k_MC_of ⟨by decide, by decide⟩ (Nat.le_of_ble_eq_true rfl) ?_
  show k_GO _ _ _ 0 [(0, k_rf E 67), (1, .int x1)] [] σ _
  unfold f_X7_hold
  refine r_iload_n 1 rfl rfl 1 rfl dX7_hold_0 ?_
  refine r_if_eq 17 4 rfl (by decide) dX7_hold_1 (fun c1 => ?_) (fun c1 => ?_)
  · exact r_sub [0, 1] rfl (gj_X7_hold_17 E     _  _)
  · refine r_aload_n 0 rfl rfl 5 rfl dX7_hold_4 ?_
    refine r_iload_n 1 rfl rfl 6 rfl dX7_hold_5 ?_
    refine r_bipush 10 (by decide) 8 rfl dX7_hold_6 ?_
    refine r_isub 9 rfl dX7_hold_8 ?_
    refine r_calli (c_X7_isHand E   _ _) rfl sh_67 rfl ml_X7_158 cw_X7_isHand vw_X7_isHand (by decide) (Nat.le_of_ble_eq_true rfl) 12 rfl dX7_hold_9 (fun r11 σ11 => ?_)
    refine r_if_ne 17 15 rfl (by decide) dX7_hold_12 (fun c12 => ?_) (fun c12 => ?_)
    · refine r_iconst (-1) (by decide) 16 rfl dX7_hold_15 ?_
      exact r_iret rfl dX7_hold_16
    · exact r_sub [0, 1] rfl (gj_X7_hold_17 E     _  _)
/-! HandMarketModel.most(I)I -/
def j_X7_most_138  (k37 : Int32 → Int32 → Int32 → Int32 → k_Mem → Option (Int32 × k_Mem)) (x1 : Int32) (x2 : Int32) (x3 : Int32) (x4 : Int32) (σ : k_Mem) : Option (Int32 × k_Mem) :=
  k37 x1 x2 x3 (x4 + 1) σ
set_option maxRecDepth 100000 in
theorem gj_X7_most_138 (E : k_EV)   (k37 : Int32 → Int32 → Int32 → Int32 → k_Mem → Option (Int32 × k_Mem)) (hk37 : ∀ (x1 : Int32) (x2 : Int32) (x3 : Int32) (x4 : Int32)  (σ : k_Mem), k_GO m_X7_most E k_vi 37 [(0, k_rf E 67), (1, .int x1), (2, .int x2), (3, .int x3), (4, .int x4)] [] σ (k37 x1 x2 x3 x4 σ)) (x1 : Int32) (x2 : Int32) (x3 : Int32) (x4 : Int32)  (σ : k_Mem) : k_GO m_X7_most E k_vi 138 [(0, k_rf E 67), (1, .int x1), (2, .int x2), (3, .int x3), (4, .int x4)] [] σ (j_X7_most_138  k37 x1 x2 x3 x4 σ) := by
  unfold j_X7_most_138
  refine r_iinc 1 (by decide) 4 rfl [(4, .int _), (0, k_rf E 67), (1, .int _), (2, .int _), (3, .int _)] rfl (by decide) 141 rfl dX7_most_138 ?_
  refine r_goto 37 (by decide) dX7_most_141 ?_
  exact r_sub [1, 2, 3, 4, 0] rfl (hk37 _ _ _ _  _)
def j_X7_most_137  (k37 : Int32 → Int32 → Int32 → Int32 → k_Mem → Option (Int32 × k_Mem)) (x1 : Int32) (x3 : Int32) (x4 : Int32) (xs0 : Int32) (σ : k_Mem) : Option (Int32 × k_Mem) :=
  j_X7_most_138  k37 x1 xs0 x3 x4 σ
set_option maxRecDepth 100000 in
theorem gj_X7_most_137 (E : k_EV)   (k37 : Int32 → Int32 → Int32 → Int32 → k_Mem → Option (Int32 × k_Mem)) (hk37 : ∀ (x1 : Int32) (x2 : Int32) (x3 : Int32) (x4 : Int32)  (σ : k_Mem), k_GO m_X7_most E k_vi 37 [(0, k_rf E 67), (1, .int x1), (2, .int x2), (3, .int x3), (4, .int x4)] [] σ (k37 x1 x2 x3 x4 σ)) (x1 : Int32) (x3 : Int32) (x4 : Int32) (xs0 : Int32)  (σ : k_Mem) : k_GO m_X7_most E k_vi 137 [(0, k_rf E 67), (1, .int x1), (3, .int x3), (4, .int x4)] [.int xs0] σ (j_X7_most_137  k37 x1 x3 x4 xs0 σ) := by
  unfold j_X7_most_137
  refine r_istore_n [(2, .int _), (0, k_rf E 67), (1, .int _), (3, .int _), (4, .int _)] rfl rfl (by decide) 138 rfl dX7_most_137 ?_
  exact r_sub [1, 2, 0, 3, 4] rfl (gj_X7_most_138 E   _ hk37 _ _ _ _  _)
def j_X7_most_124  (k37 : Int32 → Int32 → Int32 → Int32 → k_Mem → Option (Int32 × k_Mem)) (x1 : Int32) (x2 : Int32) (x4 : Int32) (x5 : Int32) (xs0 : Int32) (σ : k_Mem) : Option (Int32 × k_Mem) :=
  if x5 ≤ x2 then (
    j_X7_most_137  k37 x1 xs0 x4 x2 σ
  ) else (
    j_X7_most_137  k37 x1 xs0 x4 x5 σ
  )
set_option maxRecDepth 100000 in
theorem gj_X7_most_124 (E : k_EV)   (k37 : Int32 → Int32 → Int32 → Int32 → k_Mem → Option (Int32 × k_Mem)) (hk37 : ∀ (x1 : Int32) (x2 : Int32) (x3 : Int32) (x4 : Int32)  (σ : k_Mem), k_GO m_X7_most E k_vi 37 [(0, k_rf E 67), (1, .int x1), (2, .int x2), (3, .int x3), (4, .int x4)] [] σ (k37 x1 x2 x3 x4 σ)) (x1 : Int32) (x2 : Int32) (x4 : Int32) (x5 : Int32) (xs0 : Int32)  (σ : k_Mem) : k_GO m_X7_most E k_vi 124 [(0, k_rf E 67), (1, .int x1), (2, .int x2), (4, .int x4), (5, .int x5)] [.int xs0] σ (j_X7_most_124  k37 x1 x2 x4 x5 xs0 σ) := by
  unfold j_X7_most_124
  refine r_istore_n [(3, .int _), (0, k_rf E 67), (1, .int _), (2, .int _), (4, .int _), (5, .int _)] rfl rfl (by decide) 125 rfl dX7_most_124 ?_
  refine r_iload 5 rfl 127 rfl dX7_most_125 ?_
  refine r_iload_n 3 rfl rfl 128 rfl dX7_most_127 ?_
  refine r_icmp_le 136 131 rfl (by decide) dX7_most_128 (fun c10 => ?_) (fun c10 => ?_)
  · refine r_iload_n 3 rfl rfl 137 rfl dX7_most_136 ?_
    exact r_sub [1, 2, 0, 4] rfl (gj_X7_most_137 E   _ hk37 _ _ _ _  _)
  · refine r_iload 5 rfl 133 rfl dX7_most_131 ?_
    refine r_goto 137 (by decide) dX7_most_133 ?_
    exact r_sub [1, 2, 0, 4] rfl (gj_X7_most_137 E   _ hk37 _ _ _ _  _)
def j_X7_most_103  (k37 : Int32 → Int32 → Int32 → Int32 → k_Mem → Option (Int32 × k_Mem)) (k60 : Int32 → Int32 → Int32 → Int32 → Int32 → Int32 → k_Mem → Option (Int32 × k_Mem)) (x1 : Int32) (x2 : Int32) (x3 : Int32) (x4 : Int32) (x6 : Int32) (xs0 : Int32) (xs1 : Int32) (σ : k_Mem) : Option (Int32 × k_Mem) :=
  k60 x1 x2 x3 x4 (xs0 + xs1) (x6 + 1) σ
set_option maxRecDepth 100000 in
theorem gj_X7_most_103 (E : k_EV)   (k37 : Int32 → Int32 → Int32 → Int32 → k_Mem → Option (Int32 × k_Mem)) (k60 : Int32 → Int32 → Int32 → Int32 → Int32 → Int32 → k_Mem → Option (Int32 × k_Mem)) (hk37 : ∀ (x1 : Int32) (x2 : Int32) (x3 : Int32) (x4 : Int32)  (σ : k_Mem), k_GO m_X7_most E k_vi 37 [(0, k_rf E 67), (1, .int x1), (2, .int x2), (3, .int x3), (4, .int x4)] [] σ (k37 x1 x2 x3 x4 σ)) (hk60 : ∀ (x1 : Int32) (x2 : Int32) (x3 : Int32) (x4 : Int32) (x5 : Int32) (x6 : Int32)  (σ : k_Mem), k_GO m_X7_most E k_vi 60 [(0, k_rf E 67), (1, .int x1), (2, .int x2), (3, .int x3), (4, .int x4), (5, .int x5), (6, .int x6)] [] σ (k60 x1 x2 x3 x4 x5 x6 σ)) (x1 : Int32) (x2 : Int32) (x3 : Int32) (x4 : Int32) (x6 : Int32) (xs0 : Int32) (xs1 : Int32)  (σ : k_Mem) : k_GO m_X7_most E k_vi 103 [(0, k_rf E 67), (1, .int x1), (2, .int x2), (3, .int x3), (4, .int x4), (6, .int x6)] [.int xs1, .int xs0] σ (j_X7_most_103  k37 k60 x1 x2 x3 x4 x6 xs0 xs1 σ) := by
  unfold j_X7_most_103
  refine r_iadd 104 rfl dX7_most_103 ?_
  refine r_istore [(5, .int _), (0, k_rf E 67), (1, .int _), (2, .int _), (3, .int _), (4, .int _), (6, .int _)] rfl (by decide) 106 rfl dX7_most_104 ?_
  refine r_iinc 1 (by decide) 6 rfl [(6, .int _), (5, .int _), (0, k_rf E 67), (1, .int _), (2, .int _), (3, .int _), (4, .int _)] rfl (by decide) 109 rfl dX7_most_106 ?_
  refine r_goto 60 (by decide) dX7_most_109 ?_
  exact r_sub [2, 3, 4, 5, 6, 1, 0] rfl (hk60 _ _ _ _ _ _  _)
def l_X7_most_60  (k37 : Int32 → Int32 → Int32 → Int32 → k_Mem → Option (Int32 × k_Mem)) : Nat → Int32 → Int32 → Int32 → Int32 → Int32 → Int32 → k_Mem → Option (Int32 × k_Mem)
  | 0, _, _, _, _, _, _, _ => none
  | n + 1, x1, x2, x3, x4, x5, x6, σ =>
    if 8 ≤ x6 then (
      if x5 ≤ x2 then (
        j_X7_most_124  k37 x1 x2 x4 x5 x3 σ
      ) else (
        j_X7_most_124  k37 x1 x2 x4 x5 x4 σ
      )
    ) else (
      if k_in x6 8 then (
        if (σ 76 (k_n x6)) = (-4) then (
          j_X7_most_103  k37 (fun x1 x2 x3 x4 x5 x6 σ => l_X7_most_60  k37 n x1 x2 x3 x4 x5 x6 σ) x1 x2 x3 x4 x6 x5 0 σ
        ) else (
          if k_in x6 8 then (
            if k_in ((8 * x6) + (σ 76 (k_n x6))) 64 then (
              j_X7_most_103  k37 (fun x1 x2 x3 x4 x5 x6 σ => l_X7_most_60  k37 n x1 x2 x3 x4 x5 x6 σ) x1 x2 x3 x4 x6 x5 (σ 73 (k_n ((8 * x6) + (σ 76 (k_n x6))))) σ
            ) else none
          ) else none
        )
      ) else none
    )
set_option maxRecDepth 100000 in
theorem gl_X7_most_60 (E : k_EV)   (k37 : Int32 → Int32 → Int32 → Int32 → k_Mem → Option (Int32 × k_Mem)) (hk37 : ∀ (x1 : Int32) (x2 : Int32) (x3 : Int32) (x4 : Int32)  (σ : k_Mem), k_GO m_X7_most E k_vi 37 [(0, k_rf E 67), (1, .int x1), (2, .int x2), (3, .int x3), (4, .int x4)] [] σ (k37 x1 x2 x3 x4 σ)) : ∀ (n : Nat) (x1 : Int32) (x2 : Int32) (x3 : Int32) (x4 : Int32) (x5 : Int32) (x6 : Int32)  (σ : k_Mem), k_GO m_X7_most E k_vi 60 [(0, k_rf E 67), (1, .int x1), (2, .int x2), (3, .int x3), (4, .int x4), (5, .int x5), (6, .int x6)] [] σ (l_X7_most_60  k37 n x1 x2 x3 x4 x5 x6 σ) := by
  intro n
  induction n with
  | zero => intro x1 x2 x3 x4 x5 x6  σ; exact r_none
  | succ n ih =>
    intro x1 x2 x3 x4 x5 x6  σ
    rw [l_X7_most_60]
    refine r_iload 6 rfl 62 rfl dX7_most_60 ?_
    refine r_bipush 8 (by decide) 64 rfl dX7_most_62 ?_
    refine r_icmp_ge 112 67 rfl (by decide) dX7_most_64 (fun c8 => ?_) (fun c8 => ?_)
    · refine r_iload 5 rfl 114 rfl dX7_most_112 ?_
      refine r_iload_n 2 rfl rfl 115 rfl dX7_most_114 ?_
      refine r_icmp_le 123 118 rfl (by decide) dX7_most_115 (fun c9 => ?_) (fun c9 => ?_)
      · refine r_iload_n 3 rfl rfl 124 rfl dX7_most_123 ?_
        exact r_sub [0, 1, 2, 4, 5] rfl (gj_X7_most_124 E   _ hk37 _ _ _ _ _  _)
      · refine r_iload 4 rfl 120 rfl dX7_most_118 ?_
        refine r_goto 124 (by decide) dX7_most_120 ?_
        exact r_sub [0, 1, 2, 4, 5] rfl (gj_X7_most_124 E   _ hk37 _ _ _ _ _  _)
    · refine r_iload 5 rfl 69 rfl dX7_most_67 ?_
      refine r_aload_n 0 rfl rfl 70 rfl dX7_most_69 ?_
      refine r_getr fl_X7_34 sh_67 rfl 73 rfl dX7_most_70 ?_
      refine r_iload 6 rfl 75 rfl dX7_most_73 ?_
      refine r_iald sh_76 76 rfl dX7_most_75 ?_
      refine r_bipush (-4) (by decide) 78 rfl dX7_most_76 ?_
      refine r_icmp_eq 102 81 rfl (by decide) dX7_most_78 (fun c11 => ?_) (fun c11 => ?_)
      · refine r_iconst 0 (by decide) 103 rfl dX7_most_102 ?_
        exact r_sub [0, 1, 2, 3, 4, 6] rfl (gj_X7_most_103 E   _ _ hk37 (fun x1 x2 x3 x4 x5 x6  σ => ih x1 x2 x3 x4 x5 x6  σ) _ _ _ _ _ _ _  _)
      · refine r_aload_n 0 rfl rfl 82 rfl dX7_most_81 ?_
        refine r_getr fl_X7_25 sh_67 rfl 85 rfl dX7_most_82 ?_
        refine r_bipush 8 (by decide) 87 rfl dX7_most_85 ?_
        refine r_iload 6 rfl 89 rfl dX7_most_87 ?_
        refine r_imul 90 rfl dX7_most_89 ?_
        refine r_aload_n 0 rfl rfl 91 rfl dX7_most_90 ?_
        refine r_getr fl_X7_34 sh_67 rfl 94 rfl dX7_most_91 ?_
        refine r_iload 6 rfl 96 rfl dX7_most_94 ?_
        refine r_iald sh_76 97 rfl dX7_most_96 ?_
        refine r_iadd 98 rfl dX7_most_97 ?_
        refine r_iald sh_73 99 rfl dX7_most_98 ?_
        refine r_goto 103 (by decide) dX7_most_99 ?_
        exact r_sub [0, 1, 2, 3, 4, 6] rfl (gj_X7_most_103 E   _ _ hk37 (fun x1 x2 x3 x4 x5 x6  σ => ih x1 x2 x3 x4 x5 x6  σ) _ _ _ _ _ _ _  _)
def l_X7_most_37   : Nat → Int32 → Int32 → Int32 → Int32 → k_Mem → Option (Int32 × k_Mem)
  | 0, _, _, _, _, _ => none
  | n + 1, x1, x2, x3, x4, σ =>
    if 625 ≤ x4 then (
      k_bd (f_X7_laysPairs  x3 σ) (fun r4 σ4 =>
        if x1 = 0 then (
          some (x2, σ4)
        ) else (
          if k_in (x1 - 10) 8 then (
            some ((σ4 76 (k_n (x1 - 10))), σ4)
          ) else none
        )
      )
    ) else (
      k_bd (f_X7_laysPairs  x4 σ) (fun r6 σ6 =>
        if r6 = 0 then (
          j_X7_most_138  (fun x1 x2 x3 x4 σ => l_X7_most_37   n x1 x2 x3 x4 σ) x1 x2 x3 x4 σ6
        ) else (
          l_X7_most_60  (fun x1 x2 x3 x4 σ => l_X7_most_37   n x1 x2 x3 x4 σ) 1000 x1 x2 x3 x4 0 0 σ6
        )
      )
    )
set_option maxRecDepth 100000 in
theorem gl_X7_most_37 (E : k_EV)     : ∀ (n : Nat) (x1 : Int32) (x2 : Int32) (x3 : Int32) (x4 : Int32)  (σ : k_Mem), k_GO m_X7_most E k_vi 37 [(0, k_rf E 67), (1, .int x1), (2, .int x2), (3, .int x3), (4, .int x4)] [] σ (l_X7_most_37   n x1 x2 x3 x4 σ) := by
  intro n
  induction n with
  | zero => intro x1 x2 x3 x4  σ; exact r_none
  | succ n ih =>
    intro x1 x2 x3 x4  σ
    rw [l_X7_most_37]
    refine r_iload 4 rfl 39 rfl dX7_most_37 ?_
    refine r_sipush 625 (by decide) 42 rfl dX7_most_39 ?_
    refine r_icmp_ge 144 45 rfl (by decide) dX7_most_42 (fun c3 => ?_) (fun c3 => ?_)
    · refine r_aload_n 0 rfl rfl 145 rfl dX7_most_144 ?_
      refine r_iload_n 3 rfl rfl 146 rfl dX7_most_145 ?_
      refine r_calli (c_X7_laysPairs E   _ _) rfl sh_67 rfl ml_X7_237 cw_X7_laysPairs vw_X7_laysPairs (by decide) (Nat.le_of_ble_eq_true rfl) 149 rfl dX7_most_146 (fun r4 σ4 => ?_)
      refine r_pop 150 rfl dX7_most_149 rfl ?_
      refine r_iload_n 1 rfl rfl 151 rfl dX7_most_150 ?_
      refine r_if_ne 158 154 rfl (by decide) dX7_most_151 (fun c5 => ?_) (fun c5 => ?_)
      · refine r_iload_n 2 rfl rfl 155 rfl dX7_most_154 ?_
        refine r_goto 167 (by decide) dX7_most_155 ?_
        exact r_iret rfl dX7_most_167
      · refine r_aload_n 0 rfl rfl 159 rfl dX7_most_158 ?_
        refine r_getr fl_X7_34 sh_67 rfl 162 rfl dX7_most_159 ?_
        refine r_iload_n 1 rfl rfl 163 rfl dX7_most_162 ?_
        refine r_bipush 10 (by decide) 165 rfl dX7_most_163 ?_
        refine r_isub 166 rfl dX7_most_165 ?_
        refine r_iald sh_76 167 rfl dX7_most_166 ?_
        exact r_iret rfl dX7_most_167
    · refine r_aload_n 0 rfl rfl 46 rfl dX7_most_45 ?_
      refine r_iload 4 rfl 48 rfl dX7_most_46 ?_
      refine r_calli (c_X7_laysPairs E   _ _) rfl sh_67 rfl ml_X7_237 cw_X7_laysPairs vw_X7_laysPairs (by decide) (Nat.le_of_ble_eq_true rfl) 51 rfl dX7_most_48 (fun r6 σ6 => ?_)
      refine r_if_eq 138 54 rfl (by decide) dX7_most_51 (fun c7 => ?_) (fun c7 => ?_)
      · exact r_sub [0, 1, 2, 3, 4] rfl (gj_X7_most_138 E   _ (fun x1 x2 x3 x4  σ => ih x1 x2 x3 x4  σ) _ _ _ _  _)
      · refine r_iconst 0 (by decide) 55 rfl dX7_most_54 ?_
        refine r_istore [(5, .int _), (0, k_rf E 67), (1, .int _), (2, .int _), (3, .int _), (4, .int _)] rfl (by decide) 57 rfl dX7_most_55 ?_
        refine r_iconst 0 (by decide) 58 rfl dX7_most_57 ?_
        refine r_istore [(6, .int _), (5, .int _), (0, k_rf E 67), (1, .int _), (2, .int _), (3, .int _), (4, .int _)] rfl (by decide) 60 rfl dX7_most_58 ?_
        exact r_sub [2, 3, 4, 5, 6, 1, 0] rfl (gl_X7_most_60 E   _ (fun x1 x2 x3 x4  σ => ih x1 x2 x3 x4  σ) 1000 _ _ _ _ _ _  _)
def j_X7_most_25   (x1 : Int32) (σ : k_Mem) : Option (Int32 × k_Mem) :=
  k_bd (f_X7_laysTable  0 σ) (fun _ σ2 =>
    l_X7_most_37   1000 x1 (-1) 0 0 σ2
  )
set_option maxRecDepth 100000 in
theorem gj_X7_most_25 (E : k_EV)     (x1 : Int32)  (σ : k_Mem) : k_GO m_X7_most E k_vi 25 [(0, k_rf E 67), (1, .int x1)] [] σ (j_X7_most_25   x1 σ) := by
  unfold j_X7_most_25
  refine r_aload_n 0 rfl rfl 26 rfl dX7_most_25 ?_
  refine r_iconst 0 (by decide) 27 rfl dX7_most_26 ?_
  refine r_callv (c_X7_laysTable E   _ _) rfl sh_67 rfl ml_X7_195 cw_X7_laysTable vw_X7_laysTable (by decide) (Nat.le_of_ble_eq_true rfl) 30 rfl dX7_most_27 (fun _ σ2 => ?_)
  refine r_iconst (-1) (by decide) 31 rfl dX7_most_30 ?_
  refine r_istore_n [(2, .int _), (0, k_rf E 67), (1, .int _)] rfl rfl (by decide) 32 rfl dX7_most_31 ?_
  refine r_iconst 0 (by decide) 33 rfl dX7_most_32 ?_
  refine r_istore_n [(3, .int _), (2, .int _), (0, k_rf E 67), (1, .int _)] rfl rfl (by decide) 34 rfl dX7_most_33 ?_
  refine r_iconst 0 (by decide) 35 rfl dX7_most_34 ?_
  refine r_istore [(4, .int _), (3, .int _), (2, .int _), (0, k_rf E 67), (1, .int _)] rfl (by decide) 37 rfl dX7_most_35 ?_
  exact r_sub [3, 4, 2, 1, 0] rfl (gl_X7_most_37 E     1000 _ _ _ _  _)
def f_X7_most  (x1 : Int32) (σ : k_Mem) : Option (Int32 × k_Mem) :=
  if x1 = 0 then (
    j_X7_most_25   x1 σ
  ) else (
    k_bd (f_X7_in  (Int32.toInt64 x1) 10 (Int32.toInt64 (9 + (σ 67 1))) σ) (fun r12 σ12 =>
      if r12 = 0 then (
        some ((-1), σ12)
      ) else (
        j_X7_most_25   x1 σ12
      )
    )
  )
set_option maxRecDepth 100000 in
theorem c_X7_most (E : k_EV)   (x1 : Int32) (σ : k_Mem) : k_MC m_X7_most E k_vi [k_rf E 67, .int x1] σ (f_X7_most x1 σ) := by
  refine k_MC_of ⟨by decide, by decide⟩ (Nat.le_of_ble_eq_true rfl) ?_
  show k_GO _ _ _ 0 [(0, k_rf E 67), (1, .int x1)] [] σ _
  unfold f_X7_most
  refine r_iload_n 1 rfl rfl 1 rfl dX7_most_0 ?_
  refine r_if_eq 25 4 rfl (by decide) dX7_most_1 (fun c1 => ?_) (fun c1 => ?_)
  · exact r_sub [0, 1] rfl (gj_X7_most_25 E     _  _)
  · refine r_iload_n 1 rfl rfl 5 rfl dX7_most_4 ?_
    refine r_i2l 6 rfl dX7_most_5 ?_
    refine r_ldc2 cs_X7_243 9 rfl dX7_most_6 ?_
    refine r_bipush 9 (by decide) 11 rfl dX7_most_9 ?_
    refine r_aload_n 0 rfl rfl 12 rfl dX7_most_11 ?_
    refine r_geti fl_X7_147 sh_67 rfl 15 rfl dX7_most_12 ?_
    refine r_iadd 16 rfl dX7_most_15 ?_
    refine r_i2l 17 rfl dX7_most_16 ?_
    refine r_callsi (c_X7_in E   _ _ _ _) rfl ml_X7_58 cw_X7_in sw_X7_in (by decide) (Nat.le_of_ble_eq_true rfl) 20 rfl dX7_most_17 (fun r12 σ12 => ?_)
    refine r_if_ne 25 23 rfl (by decide) dX7_most_20 (fun c13 => ?_) (fun c13 => ?_)
    · refine r_iconst (-1) (by decide) 24 rfl dX7_most_23 ?_
      exact r_iret rfl dX7_most_24
    · exact r_sub [0, 1] rfl (gj_X7_most_25 E     _  _)
/-! HandMarketModel.quarrel(I)I -/
def l_X7_quarrel_53   : Nat → Int32 → k_Mem → Option (Int32 × k_Mem)
  | 0, _, _ => none
  | n + 1, x2, σ =>
    if 16 ≤ x2 then (
      some ((-4), σ)
    ) else (
      k_bd (f_X7_doQuarrel  (x2 / 4) (4 + (k_rem x2 4)) σ) (fun r8 σ8 =>
        if r8 = 0 then (
          l_X7_quarrel_53   n (x2 + 1) σ8
        ) else (
          some ((((10 * (x2 / 4)) + 4) + (k_rem x2 4)), σ8)
        )
      )
    )
set_option maxRecDepth 100000 in
theorem gl_X7_quarrel_53 (E : k_EV)     : ∀ (n : Nat) (x2 : Int32)  (σ : k_Mem), k_GO m_X7_quarrel E k_vi 53 [(0, k_rf E 67), (2, .int x2)] [] σ (l_X7_quarrel_53   n x2 σ) := by
  intro n
  induction n with
  | zero => intro x2  σ; exact r_none
  | succ n ih =>
    intro x2  σ
    rw [l_X7_quarrel_53]
    refine r_iload_n 1 rfl rfl 54 rfl dX7_quarrel_53 ?_
    refine r_bipush 16 (by decide) 56 rfl dX7_quarrel_54 ?_
    refine r_icmp_ge 93 59 rfl (by decide) dX7_quarrel_56 (fun c7 => ?_) (fun c7 => ?_)
    · refine r_bipush (-4) (by decide) 95 rfl dX7_quarrel_93 ?_
      exact r_iret rfl dX7_quarrel_95
    · refine r_aload_n 0 rfl rfl 60 rfl dX7_quarrel_59 ?_
      refine r_iload_n 1 rfl rfl 61 rfl dX7_quarrel_60 ?_
      refine r_iconst 4 (by decide) 62 rfl dX7_quarrel_61 ?_
      refine r_idiv (by decide) 63 rfl dX7_quarrel_62 ?_
      refine r_iconst 4 (by decide) 64 rfl dX7_quarrel_63 ?_
      refine r_iload_n 1 rfl rfl 65 rfl dX7_quarrel_64 ?_
      refine r_iconst 4 (by decide) 66 rfl dX7_quarrel_65 ?_
      refine r_irem (by decide) 67 rfl dX7_quarrel_66 ?_
      refine r_iadd 68 rfl dX7_quarrel_67 ?_
      refine r_calli (c_X7_doQuarrel E   _ _ _) rfl sh_67 rfl ml_X7_234 cw_X7_doQuarrel vw_X7_doQuarrel (by decide) (Nat.le_of_ble_eq_true rfl) 71 rfl dX7_quarrel_68 (fun r8 σ8 => ?_)
      refine r_if_eq 87 74 rfl (by decide) dX7_quarrel_71 (fun c9 => ?_) (fun c9 => ?_)
      · refine r_iinc 1 (by decide) 1 rfl [(2, .int _), (0, k_rf E 67)] rfl (by decide) 90 rfl dX7_quarrel_87 ?_
        refine r_goto 53 (by decide) dX7_quarrel_90 ?_
        exact r_sub [1, 0] rfl (ih _  _)
      · refine r_bipush 10 (by decide) 76 rfl dX7_quarrel_74 ?_
        refine r_iload_n 1 rfl rfl 77 rfl dX7_quarrel_76 ?_
        refine r_iconst 4 (by decide) 78 rfl dX7_quarrel_77 ?_
        refine r_idiv (by decide) 79 rfl dX7_quarrel_78 ?_
        refine r_imul 80 rfl dX7_quarrel_79 ?_
        refine r_iconst 4 (by decide) 81 rfl dX7_quarrel_80 ?_
        refine r_iadd 82 rfl dX7_quarrel_81 ?_
        refine r_iload_n 1 rfl rfl 83 rfl dX7_quarrel_82 ?_
        refine r_iconst 4 (by decide) 84 rfl dX7_quarrel_83 ?_
        refine r_irem (by decide) 85 rfl dX7_quarrel_84 ?_
        refine r_iadd 86 rfl dX7_quarrel_85 ?_
        exact r_iret rfl dX7_quarrel_86
def l_X7_quarrel_19   : Nat → Int32 → Int32 → k_Mem → Option (Int32 × k_Mem)
  | 0, _, _, _ => none
  | n + 1, x1, x2, σ =>
    if 8 ≤ x2 then (
      if x1 = 0 then (
        k_bd (f_X7_quarrels   σ) (fun r6 σ6 =>
          some (r6, σ6)
        )
      ) else (
        l_X7_quarrel_53   1000 0 σ
      )
    ) else (
      k_bd (f_X7_wedTo  x2 σ) (fun r10 σ10 =>
        if k_in x2 8 then (
          l_X7_quarrel_19   n x1 (x2 + 1) (k_mset σ10 76 (k_n x2) r10)
        ) else none
      )
    )
set_option maxRecDepth 100000 in
theorem gl_X7_quarrel_19 (E : k_EV)     : ∀ (n : Nat) (x1 : Int32) (x2 : Int32)  (σ : k_Mem), k_GO m_X7_quarrel E k_vi 19 [(0, k_rf E 67), (1, .int x1), (2, .int x2)] [] σ (l_X7_quarrel_19   n x1 x2 σ) := by
  intro n
  induction n with
  | zero => intro x1 x2  σ; exact r_none
  | succ n ih =>
    intro x1 x2  σ
    rw [l_X7_quarrel_19]
    refine r_iload_n 2 rfl rfl 20 rfl dX7_quarrel_19 ?_
    refine r_bipush 8 (by decide) 22 rfl dX7_quarrel_20 ?_
    refine r_icmp_ge 42 25 rfl (by decide) dX7_quarrel_22 (fun c4 => ?_) (fun c4 => ?_)
    · refine r_iload_n 1 rfl rfl 43 rfl dX7_quarrel_42 ?_
      refine r_if_ne 51 46 rfl (by decide) dX7_quarrel_43 (fun c5 => ?_) (fun c5 => ?_)
      · refine r_aload_n 0 rfl rfl 47 rfl dX7_quarrel_46 ?_
        refine r_calli (c_X7_quarrels E    _) rfl sh_67 rfl ml_X7_240 cw_X7_quarrels vw_X7_quarrels (by decide) (Nat.le_of_ble_eq_true rfl) 50 rfl dX7_quarrel_47 (fun r6 σ6 => ?_)
        exact r_iret rfl dX7_quarrel_50
      · refine r_iconst 0 (by decide) 52 rfl dX7_quarrel_51 ?_
        refine r_istore_n [(2, .int _), (0, k_rf E 67), (1, .int _)] rfl rfl (by decide) 53 rfl dX7_quarrel_52 ?_
        exact r_sub [1, 0] rfl (gl_X7_quarrel_53 E     1000 _  _)
    · refine r_aload_n 0 rfl rfl 26 rfl dX7_quarrel_25 ?_
      refine r_getr fl_X7_34 sh_67 rfl 29 rfl dX7_quarrel_26 ?_
      refine r_iload_n 2 rfl rfl 30 rfl dX7_quarrel_29 ?_
      refine r_aload_n 0 rfl rfl 31 rfl dX7_quarrel_30 ?_
      refine r_iload_n 2 rfl rfl 32 rfl dX7_quarrel_31 ?_
      refine r_calli (c_X7_wedTo E   _ _) rfl sh_67 rfl ml_X7_162 cw_X7_wedTo vw_X7_wedTo (by decide) (Nat.le_of_ble_eq_true rfl) 35 rfl dX7_quarrel_32 (fun r10 σ10 => ?_)
      refine r_iast sh_76 36 rfl dX7_quarrel_35 ?_
      refine r_iinc 1 (by decide) 2 rfl [(2, .int _), (0, k_rf E 67), (1, .int _)] rfl (by decide) 39 rfl dX7_quarrel_36 ?_
      refine r_goto 19 (by decide) dX7_quarrel_39 ?_
      exact r_sub [1, 2, 0] rfl (ih _ _  _)
def f_X7_quarrel  (x1 : Int32) (σ : k_Mem) : Option (Int32 × k_Mem) :=
  k_bd (f_X7_in  (Int32.toInt64 x1) 0 1 σ) (fun r1 σ1 =>
    if r1 = 0 then (
      some ((-1), σ1)
    ) else (
      k_bd (f_X7_laysTable  0 σ1) (fun _ σ3 =>
        l_X7_quarrel_19   1000 x1 0 σ3
      )
    )
  )
set_option maxRecDepth 100000 in
theorem c_X7_quarrel (E : k_EV)   (x1 : Int32) (σ : k_Mem) : k_MC m_X7_quarrel E k_vi [k_rf E 67, .int x1] σ (f_X7_quarrel x1 σ) := by
  refine k_MC_of ⟨by decide, by decide⟩ (Nat.le_of_ble_eq_true rfl) ?_
  show k_GO _ _ _ 0 [(0, k_rf E 67), (1, .int x1)] [] σ _
  unfold f_X7_quarrel
  refine r_iload_n 1 rfl rfl 1 rfl dX7_quarrel_0 ?_
  refine r_i2l 2 rfl dX7_quarrel_1 ?_
  refine r_lconst 0 (by decide) 3 rfl dX7_quarrel_2 ?_
  refine r_lconst 1 (by decide) 4 rfl dX7_quarrel_3 ?_
  refine r_callsi (c_X7_in E   _ _ _ _) rfl ml_X7_58 cw_X7_in sw_X7_in (by decide) (Nat.le_of_ble_eq_true rfl) 7 rfl dX7_quarrel_4 (fun r1 σ1 => ?_)
  refine r_if_ne 12 10 rfl (by decide) dX7_quarrel_7 (fun c2 => ?_) (fun c2 => ?_)
  · refine r_iconst (-1) (by decide) 11 rfl dX7_quarrel_10 ?_
    exact r_iret rfl dX7_quarrel_11
  · refine r_aload_n 0 rfl rfl 13 rfl dX7_quarrel_12 ?_
    refine r_iconst 0 (by decide) 14 rfl dX7_quarrel_13 ?_
    refine r_callv (c_X7_laysTable E   _ _) rfl sh_67 rfl ml_X7_195 cw_X7_laysTable vw_X7_laysTable (by decide) (Nat.le_of_ble_eq_true rfl) 17 rfl dX7_quarrel_14 (fun _ σ3 => ?_)
    refine r_iconst 0 (by decide) 18 rfl dX7_quarrel_17 ?_
    refine r_istore_n [(2, .int _), (0, k_rf E 67), (1, .int _)] rfl rfl (by decide) 19 rfl dX7_quarrel_18 ?_
    exact r_sub [1, 2, 0] rfl (gl_X7_quarrel_19 E     1000 _ _  _)
/-! HandMarketModel.alone()I -/
def j_X7_alone_42  (k9 : Int32 → Int32 → k_Mem → Option (Int32 × k_Mem)) (x2 : Int32) (xs0 : Int32) (xs1 : Int32) (σ : k_Mem) : Option (Int32 × k_Mem) :=
  k9 (xs0 ||| xs1) (x2 + 1) σ
set_option maxRecDepth 100000 in
theorem gj_X7_alone_42 (E : k_EV)   (k9 : Int32 → Int32 → k_Mem → Option (Int32 × k_Mem)) (hk9 : ∀ (x1 : Int32) (x2 : Int32)  (σ : k_Mem), k_GO m_X7_alone E k_vi 9 [(0, k_rf E 67), (1, .int x1), (2, .int x2)] [] σ (k9 x1 x2 σ)) (x2 : Int32) (xs0 : Int32) (xs1 : Int32)  (σ : k_Mem) : k_GO m_X7_alone E k_vi 42 [(0, k_rf E 67), (2, .int x2)] [.int xs1, .int xs0] σ (j_X7_alone_42  k9 x2 xs0 xs1 σ) := by
  unfold j_X7_alone_42
  refine r_ior 43 rfl dX7_alone_42 ?_
  refine r_istore_n [(1, .int _), (0, k_rf E 67), (2, .int _)] rfl rfl (by decide) 44 rfl dX7_alone_43 ?_
  refine r_iinc 1 (by decide) 2 rfl [(2, .int _), (1, .int _), (0, k_rf E 67)] rfl (by decide) 47 rfl dX7_alone_44 ?_
  refine r_goto 9 (by decide) dX7_alone_47 ?_
  exact r_sub [2, 1, 0] rfl (hk9 _ _  _)
def j_X7_alone_41  (k9 : Int32 → Int32 → k_Mem → Option (Int32 × k_Mem)) (x2 : Int32) (xs0 : Int32) (σ : k_Mem) : Option (Int32 × k_Mem) :=
  j_X7_alone_42  k9 x2 xs0 0 σ
set_option maxRecDepth 100000 in
theorem gj_X7_alone_41 (E : k_EV)   (k9 : Int32 → Int32 → k_Mem → Option (Int32 × k_Mem)) (hk9 : ∀ (x1 : Int32) (x2 : Int32)  (σ : k_Mem), k_GO m_X7_alone E k_vi 9 [(0, k_rf E 67), (1, .int x1), (2, .int x2)] [] σ (k9 x1 x2 σ)) (x2 : Int32) (xs0 : Int32)  (σ : k_Mem) : k_GO m_X7_alone E k_vi 41 [(0, k_rf E 67), (2, .int x2)] [.int xs0] σ (j_X7_alone_41  k9 x2 xs0 σ) := by
  unfold j_X7_alone_41
  refine r_iconst 0 (by decide) 42 rfl dX7_alone_41 ?_
  exact r_sub [0, 1] rfl (gj_X7_alone_42 E   _ hk9 _ _ _  _)
def l_X7_alone_9   : Nat → Int32 → Int32 → k_Mem → Option (Int32 × k_Mem)
  | 0, _, _, _ => none
  | n + 1, x1, x2, σ =>
    if 8 ≤ x2 then (
      some (x1, σ)
    ) else (
      k_bd (f_X7_isHand  x2 σ) (fun r3 σ3 =>
        if r3 = 0 then (
          j_X7_alone_41  (fun x1 x2 σ => l_X7_alone_9   n x1 x2 σ) x2 x1 σ3
        ) else (
          if k_in x2 8 then (
            if (σ3 74 (k_n x2)) = (-4) then (
              j_X7_alone_42  (fun x1 x2 σ => l_X7_alone_9   n x1 x2 σ) x2 x1 (k_shl 1 x2) σ3
            ) else (
              j_X7_alone_41  (fun x1 x2 σ => l_X7_alone_9   n x1 x2 σ) x2 x1 σ3
            )
          ) else none
        )
      )
    )
set_option maxRecDepth 100000 in
theorem gl_X7_alone_9 (E : k_EV)     : ∀ (n : Nat) (x1 : Int32) (x2 : Int32)  (σ : k_Mem), k_GO m_X7_alone E k_vi 9 [(0, k_rf E 67), (1, .int x1), (2, .int x2)] [] σ (l_X7_alone_9   n x1 x2 σ) := by
  intro n
  induction n with
  | zero => intro x1 x2  σ; exact r_none
  | succ n ih =>
    intro x1 x2  σ
    rw [l_X7_alone_9]
    refine r_iload_n 2 rfl rfl 10 rfl dX7_alone_9 ?_
    refine r_bipush 8 (by decide) 12 rfl dX7_alone_10 ?_
    refine r_icmp_ge 50 15 rfl (by decide) dX7_alone_12 (fun c2 => ?_) (fun c2 => ?_)
    · refine r_iload_n 1 rfl rfl 51 rfl dX7_alone_50 ?_
      exact r_iret rfl dX7_alone_51
    · refine r_iload_n 1 rfl rfl 16 rfl dX7_alone_15 ?_
      refine r_aload_n 0 rfl rfl 17 rfl dX7_alone_16 ?_
      refine r_iload_n 2 rfl rfl 18 rfl dX7_alone_17 ?_
      refine r_calli (c_X7_isHand E   _ _) rfl sh_67 rfl ml_X7_158 cw_X7_isHand vw_X7_isHand (by decide) (Nat.le_of_ble_eq_true rfl) 21 rfl dX7_alone_18 (fun r3 σ3 => ?_)
      refine r_if_eq 41 24 rfl (by decide) dX7_alone_21 (fun c4 => ?_) (fun c4 => ?_)
      · exact r_sub [0, 2] rfl (gj_X7_alone_41 E   _ (fun x1 x2  σ => ih x1 x2  σ) _ _  _)
      · refine r_aload_n 0 rfl rfl 25 rfl dX7_alone_24 ?_
        refine r_getr fl_X7_28 sh_67 rfl 28 rfl dX7_alone_25 ?_
        refine r_iload_n 2 rfl rfl 29 rfl dX7_alone_28 ?_
        refine r_iald sh_74 30 rfl dX7_alone_29 ?_
        refine r_bipush (-4) (by decide) 32 rfl dX7_alone_30 ?_
        refine r_icmp_ne 41 35 rfl (by decide) dX7_alone_32 (fun c5 => ?_) (fun c5 => ?_)
        · refine r_iconst 1 (by decide) 36 rfl dX7_alone_35 ?_
          refine r_iload_n 2 rfl rfl 37 rfl dX7_alone_36 ?_
          refine r_ishl 38 rfl dX7_alone_37 ?_
          refine r_goto 42 (by decide) dX7_alone_38 ?_
          exact r_sub [0, 2] rfl (gj_X7_alone_42 E   _ (fun x1 x2  σ => ih x1 x2  σ) _ _ _  _)
        · exact r_sub [0, 2] rfl (gj_X7_alone_41 E   _ (fun x1 x2  σ => ih x1 x2  σ) _ _  _)
def f_X7_alone   (σ : k_Mem) : Option (Int32 × k_Mem) :=
  k_bd (f_X7_askingNow  0 σ) (fun _ σ1 =>
    l_X7_alone_9   1000 0 0 σ1
  )
set_option maxRecDepth 100000 in
theorem c_X7_alone (E : k_EV)    (σ : k_Mem) : k_MC m_X7_alone E k_vi [k_rf E 67] σ (f_X7_alone  σ) := by
  refine k_MC_of ⟨by decide, by decide⟩ (Nat.le_of_ble_eq_true rfl) ?_
  show k_GO _ _ _ 0 [(0, k_rf E 67)] [] σ _
  unfold f_X7_alone
  refine r_aload_n 0 rfl rfl 1 rfl dX7_alone_0 ?_
  refine r_iconst 0 (by decide) 2 rfl dX7_alone_1 ?_
  refine r_callv (c_X7_askingNow E   _ _) rfl sh_67 rfl ml_X7_225 cw_X7_askingNow vw_X7_askingNow (by decide) (Nat.le_of_ble_eq_true rfl) 5 rfl dX7_alone_2 (fun _ σ1 => ?_)
  refine r_iconst 0 (by decide) 6 rfl dX7_alone_5 ?_
  refine r_istore_n [(1, .int _), (0, k_rf E 67)] rfl rfl (by decide) 7 rfl dX7_alone_6 ?_
  refine r_iconst 0 (by decide) 8 rfl dX7_alone_7 ?_
  refine r_istore_n [(2, .int _), (1, .int _), (0, k_rf E 67)] rfl rfl (by decide) 9 rfl dX7_alone_8 ?_
  exact r_sub [2, 1, 0] rfl (gl_X7_alone_9 E     1000 _ _  _)
/-! HandMarketModel.nears(III)V -/
def j_X7_nears_114   (xs1 : Int32) (xs2 : Int32) (xs3 : Int32) (σ : k_Mem) : Option (Unit × k_Mem) :=
  if k_in xs1 250 then (
    some ((), (k_mset σ 68 (k_n xs1) (xs2 + xs3)))
  ) else none
set_option maxRecDepth 100000 in
theorem gj_X7_nears_114 (E : k_EV)     (xs1 : Int32) (xs2 : Int32) (xs3 : Int32)  (σ : k_Mem) : k_GO m_X7_nears E k_vv 114 [] [.int xs3, .int xs2, .int xs1, k_rf E 68] σ (j_X7_nears_114   xs1 xs2 xs3 σ) := by
  unfold j_X7_nears_114
  refine r_iadd 115 rfl dX7_nears_114 ?_
  refine r_iast sh_68 116 rfl dX7_nears_115 ?_
  exact r_vret rfl dX7_nears_116
def j_X7_nears_90   (x1 : Int32) (x3 : Int32) (x7 : Int32) (x8 : Int32) (x9 : Int32) (xs1 : Int32) (xs2 : Int32) (xs3 : Int32) (σ : k_Mem) : Option (Unit × k_Mem) :=
  if k_in xs1 250 then (
    if k_in (x1 + x3) 250 then (
      if x7 = 0 then (
        j_X7_nears_114   (x1 + x3) ((k_mset σ 68 (k_n xs1) (xs2 + xs3)) 68 (k_n (x1 + x3))) x8 (k_mset σ 68 (k_n xs1) (xs2 + xs3))
      ) else (
        j_X7_nears_114   (x1 + x3) ((k_mset σ 68 (k_n xs1) (xs2 + xs3)) 68 (k_n (x1 + x3))) (-x9) (k_mset σ 68 (k_n xs1) (xs2 + xs3))
      )
    ) else none
  ) else none
set_option maxRecDepth 100000 in
theorem gj_X7_nears_90 (E : k_EV)     (x1 : Int32) (x3 : Int32) (x7 : Int32) (x8 : Int32) (x9 : Int32) (xs1 : Int32) (xs2 : Int32) (xs3 : Int32)  (σ : k_Mem) : k_GO m_X7_nears E k_vv 90 [(0, k_rf E 67), (1, .int x1), (3, .int x3), (7, .int x7), (8, .int x8), (9, .int x9)] [.int xs3, .int xs2, .int xs1, k_rf E 68] σ (j_X7_nears_90   x1 x3 x7 x8 x9 xs1 xs2 xs3 σ) := by
  unfold j_X7_nears_90
  refine r_iadd 91 rfl dX7_nears_90 ?_
  refine r_iast sh_68 92 rfl dX7_nears_91 ?_
  refine r_aload_n 0 rfl rfl 93 rfl dX7_nears_92 ?_
  refine r_getr fl_X7_7 sh_67 rfl 96 rfl dX7_nears_93 ?_
  refine r_iload_n 1 rfl rfl 97 rfl dX7_nears_96 ?_
  refine r_iload_n 2 rfl rfl 98 rfl dX7_nears_97 ?_
  refine r_iadd 99 rfl dX7_nears_98 ?_
  refine r_dup2 100 rfl dX7_nears_99 rfl rfl ?_
  refine r_iald sh_68 101 rfl dX7_nears_100 ?_
  refine r_iload 3 rfl 103 rfl dX7_nears_101 ?_
  refine r_if_eq 112 106 rfl (by decide) dX7_nears_103 (fun c6 => ?_) (fun c6 => ?_)
  · refine r_iload 4 rfl 114 rfl dX7_nears_112 ?_
    exact r_sub [] rfl (gj_X7_nears_114 E     _ _ _  _)
  · refine r_iload 5 rfl 108 rfl dX7_nears_106 ?_
    refine r_ineg 109 rfl dX7_nears_108 ?_
    refine r_goto 114 (by decide) dX7_nears_109 ?_
    exact r_sub [] rfl (gj_X7_nears_114 E     _ _ _  _)
def j_X7_nears_66   (x1 : Int32) (x2 : Int32) (x3 : Int32) (x7 : Int32) (x8 : Int32) (xs0 : Int32) (σ : k_Mem) : Option (Unit × k_Mem) :=
  if k_in (x1 + x2) 250 then (
    if x7 = 0 then (
      j_X7_nears_90   x1 x3 x7 x8 xs0 (x1 + x2) (σ 68 (k_n (x1 + x2))) (-xs0) σ
    ) else (
      j_X7_nears_90   x1 x3 x7 x8 xs0 (x1 + x2) (σ 68 (k_n (x1 + x2))) x8 σ
    )
  ) else none
set_option maxRecDepth 100000 in
theorem gj_X7_nears_66 (E : k_EV)     (x1 : Int32) (x2 : Int32) (x3 : Int32) (x7 : Int32) (x8 : Int32) (xs0 : Int32)  (σ : k_Mem) : k_GO m_X7_nears E k_vv 66 [(0, k_rf E 67), (1, .int x1), (2, .int x2), (3, .int x3), (7, .int x7), (8, .int x8)] [.int xs0] σ (j_X7_nears_66   x1 x2 x3 x7 x8 xs0 σ) := by
  unfold j_X7_nears_66
  refine r_istore [(9, .int _), (0, k_rf E 67), (1, .int _), (2, .int _), (3, .int _), (7, .int _), (8, .int _)] rfl (by decide) 68 rfl dX7_nears_66 ?_
  refine r_aload_n 1 rfl rfl 69 rfl dX7_nears_68 ?_
  refine r_getr fl_X7_7 sh_67 rfl 72 rfl dX7_nears_69 ?_
  refine r_iload_n 2 rfl rfl 73 rfl dX7_nears_72 ?_
  refine r_iload_n 3 rfl rfl 74 rfl dX7_nears_73 ?_
  refine r_iadd 75 rfl dX7_nears_74 ?_
  refine r_dup2 76 rfl dX7_nears_75 rfl rfl ?_
  refine r_iald sh_68 77 rfl dX7_nears_76 ?_
  refine r_iload 5 rfl 79 rfl dX7_nears_77 ?_
  refine r_if_eq 87 82 rfl (by decide) dX7_nears_79 (fun c5 => ?_) (fun c5 => ?_)
  · refine r_iload 0 rfl 89 rfl dX7_nears_87 ?_
    refine r_ineg 90 rfl dX7_nears_89 ?_
    exact r_sub [1, 2, 4, 5, 6, 0] rfl (gj_X7_nears_90 E     _ _ _ _ _ _ _ _  _)
  · refine r_iload 6 rfl 84 rfl dX7_nears_82 ?_
    refine r_goto 90 (by decide) dX7_nears_84 ?_
    exact r_sub [1, 2, 4, 5, 6, 0] rfl (gj_X7_nears_90 E     _ _ _ _ _ _ _ _  _)
def j_X7_nears_53   (x1 : Int32) (x2 : Int32) (x3 : Int32) (x6 : Int32) (x7 : Int32) (xs0 : Int32) (σ : k_Mem) : Option (Unit × k_Mem) :=
  if x6 ≤ 1 then (
    j_X7_nears_66   x1 x2 x3 x7 xs0 0 σ
  ) else (
    j_X7_nears_66   x1 x2 x3 x7 xs0 1 σ
  )
set_option maxRecDepth 100000 in
theorem gj_X7_nears_53 (E : k_EV)     (x1 : Int32) (x2 : Int32) (x3 : Int32) (x6 : Int32) (x7 : Int32) (xs0 : Int32)  (σ : k_Mem) : k_GO m_X7_nears E k_vv 53 [(0, k_rf E 67), (1, .int x1), (2, .int x2), (3, .int x3), (6, .int x6), (7, .int x7)] [.int xs0] σ (j_X7_nears_53   x1 x2 x3 x6 x7 xs0 σ) := by
  unfold j_X7_nears_53
  refine r_istore [(8, .int _), (0, k_rf E 67), (1, .int _), (2, .int _), (3, .int _), (6, .int _), (7, .int _)] rfl (by decide) 55 rfl dX7_nears_53 ?_
  refine r_iload 5 rfl 57 rfl dX7_nears_55 ?_
  refine r_iconst 1 (by decide) 58 rfl dX7_nears_57 ?_
  refine r_icmp_le 65 61 rfl (by decide) dX7_nears_58 (fun c4 => ?_) (fun c4 => ?_)
  · refine r_iconst 0 (by decide) 66 rfl dX7_nears_65 ?_
    exact r_sub [1, 2, 3, 4, 6, 0] rfl (gj_X7_nears_66 E     _ _ _ _ _ _  _)
  · refine r_iconst 1 (by decide) 62 rfl dX7_nears_61 ?_
    refine r_goto 66 (by decide) dX7_nears_62 ?_
    exact r_sub [1, 2, 3, 4, 6, 0] rfl (gj_X7_nears_66 E     _ _ _ _ _ _  _)
def j_X7_nears_41   (x1 : Int32) (x2 : Int32) (x3 : Int32) (x6 : Int32) (xs0 : Int32) (σ : k_Mem) : Option (Unit × k_Mem) :=
  if x6 ≤ 0 then (
    j_X7_nears_53   x1 x2 x3 x6 xs0 0 σ
  ) else (
    j_X7_nears_53   x1 x2 x3 x6 xs0 1 σ
  )
set_option maxRecDepth 100000 in
theorem gj_X7_nears_41 (E : k_EV)     (x1 : Int32) (x2 : Int32) (x3 : Int32) (x6 : Int32) (xs0 : Int32)  (σ : k_Mem) : k_GO m_X7_nears E k_vv 41 [(0, k_rf E 67), (1, .int x1), (2, .int x2), (3, .int x3), (6, .int x6)] [.int xs0] σ (j_X7_nears_41   x1 x2 x3 x6 xs0 σ) := by
  unfold j_X7_nears_41
  refine r_istore [(7, .int _), (0, k_rf E 67), (1, .int _), (2, .int _), (3, .int _), (6, .int _)] rfl (by decide) 43 rfl dX7_nears_41 ?_
  refine r_iload 5 rfl 45 rfl dX7_nears_43 ?_
  refine r_if_le 52 48 rfl (by decide) dX7_nears_45 (fun c3 => ?_) (fun c3 => ?_)
  · refine r_iconst 0 (by decide) 53 rfl dX7_nears_52 ?_
    exact r_sub [1, 2, 3, 4, 5, 0] rfl (gj_X7_nears_53 E     _ _ _ _ _ _  _)
  · refine r_iconst 1 (by decide) 49 rfl dX7_nears_48 ?_
    refine r_goto 53 (by decide) dX7_nears_49 ?_
    exact r_sub [1, 2, 3, 4, 5, 0] rfl (gj_X7_nears_53 E     _ _ _ _ _ _  _)
def f_X7_nears  (x1 : Int32) (x2 : Int32) (x3 : Int32) (σ : k_Mem) : Option (Unit × k_Mem) :=
  if k_in (x1 + x2) 250 then (
    if k_in (x1 + x3) 250 then (
      k_bd (f_X7_far  (σ 68 (k_n (x1 + x2))) (σ 68 (k_n (x1 + x3))) σ) (fun r1 σ1 =>
        if (σ 68 (k_n (x1 + x3))) ≤ (σ 68 (k_n (x1 + x2))) then (
          j_X7_nears_41   x1 x2 x3 r1 0 σ1
        ) else (
          j_X7_nears_41   x1 x2 x3 r1 1 σ1
        )
      )
    ) else none
  ) else none
set_option maxRecDepth 100000 in
theorem c_X7_nears (E : k_EV)   (x1 : Int32) (x2 : Int32) (x3 : Int32) (σ : k_Mem) : k_MC m_X7_nears E k_vv [k_rf E 67, .int x1, .int x2, .int x3] σ (f_X7_nears x1 x2 x3 σ) := by
  refine k_MC_of ⟨by decide, by decide⟩ (Nat.le_of_ble_eq_true rfl) ?_
  show k_GO _ _ _ 0 [(0, k_rf E 67), (1, .int x1), (2, .int x2), (3, .int x3)] [] σ _
  unfold f_X7_nears
  refine r_aload_n 0 rfl rfl 1 rfl dX7_nears_0 ?_
  refine r_getr fl_X7_7 sh_67 rfl 4 rfl dX7_nears_1 ?_
  refine r_iload_n 1 rfl rfl 5 rfl dX7_nears_4 ?_
  refine r_iload_n 2 rfl rfl 6 rfl dX7_nears_5 ?_
  refine r_iadd 7 rfl dX7_nears_6 ?_
  refine r_iald sh_68 8 rfl dX7_nears_7 ?_
  refine r_istore [(4, .int _), (0, k_rf E 67), (1, .int _), (2, .int _), (3, .int _)] rfl (by decide) 10 rfl dX7_nears_8 ?_
  refine r_aload_n 1 rfl rfl 11 rfl dX7_nears_10 ?_
  refine r_getr fl_X7_7 sh_67 rfl 14 rfl dX7_nears_11 ?_
  refine r_iload_n 2 rfl rfl 15 rfl dX7_nears_14 ?_
  refine r_iload_n 4 rfl rfl 16 rfl dX7_nears_15 ?_
  refine r_iadd 17 rfl dX7_nears_16 ?_
  refine r_iald sh_68 18 rfl dX7_nears_17 ?_
  refine r_istore [(5, .int _), (4, .int _), (0, k_rf E 67), (1, .int _), (2, .int _), (3, .int _)] rfl (by decide) 20 rfl dX7_nears_18 ?_
  refine r_iload 1 rfl 22 rfl dX7_nears_20 ?_
  refine r_iload 0 rfl 24 rfl dX7_nears_22 ?_
  refine r_callsi (c_X7_far E   _ _ _) rfl ml_X7_189 cw_X7_far sw_X7_far (by decide) (Nat.le_of_ble_eq_true rfl) 27 rfl dX7_nears_24 (fun r1 σ1 => ?_)
  refine r_istore [(6, .int _), (5, .int _), (4, .int _), (0, k_rf E 67), (1, .int _), (2, .int _), (3, .int _)] rfl (by decide) 29 rfl dX7_nears_27 ?_
  refine r_iload 2 rfl 31 rfl dX7_nears_29 ?_
  refine r_iload 1 rfl 33 rfl dX7_nears_31 ?_
  refine r_icmp_ge 40 36 rfl (by decide) dX7_nears_33 (fun c2 => ?_) (fun c2 => ?_)
  · refine r_iconst 0 (by decide) 41 rfl dX7_nears_40 ?_
    exact r_sub [3, 4, 5, 6, 0] rfl (gj_X7_nears_41 E     _ _ _ _ _  _)
  · refine r_iconst 1 (by decide) 37 rfl dX7_nears_36 ?_
    refine r_goto 41 (by decide) dX7_nears_37 ?_
    exact r_sub [3, 4, 5, 6, 0] rfl (gj_X7_nears_41 E     _ _ _ _ _  _)
/-! HandMarketModel.yearGoes()V -/
def j_X7_yearGoes_51  (k2 : Int32 → k_Mem → Option (Unit × k_Mem)) (x1 : Int32) (σ : k_Mem) : Option (Unit × k_Mem) :=
  k2 (x1 + 1) σ
set_option maxRecDepth 100000 in
theorem gj_X7_yearGoes_51 (E : k_EV)   (k2 : Int32 → k_Mem → Option (Unit × k_Mem)) (hk2 : ∀ (x1 : Int32)  (σ : k_Mem), k_GO m_X7_yearGoes E k_vv 2 [(0, k_rf E 67), (1, .int x1)] [] σ (k2 x1 σ)) (x1 : Int32)  (σ : k_Mem) : k_GO m_X7_yearGoes E k_vv 51 [(0, k_rf E 67), (1, .int x1)] [] σ (j_X7_yearGoes_51  k2 x1 σ) := by
  unfold j_X7_yearGoes_51
  refine r_iinc 1 (by decide) 1 rfl [(1, .int _), (0, k_rf E 67)] rfl (by decide) 54 rfl dX7_yearGoes_51 ?_
  refine r_goto 2 (by decide) dX7_yearGoes_54 ?_
  exact r_sub [1, 0] rfl (hk2 _  _)
def l_X7_yearGoes_2   : Nat → Int32 → k_Mem → Option (Unit × k_Mem)
  | 0, _, _ => none
  | n + 1, x1, σ =>
    if 4 ≤ x1 then (
      if k_in 49 250 then (
        if k_in 49 250 then (
          some ((), (k_mset σ 68 (k_n 49) ((σ 68 (k_n 49)) + 1)))
        ) else none
      ) else none
    ) else (
      if k_in (45 + x1) 250 then (
        if (σ 68 (k_n (45 + x1))) = 0 then (
          j_X7_yearGoes_51  (fun x1 σ => l_X7_yearGoes_2   n x1 σ) x1 σ
        ) else (
          if k_in (45 + x1) 250 then (
            k_bd (f_X7_nears  8 x1 (σ 68 (k_n (45 + x1))) σ) (fun _ σ3 =>
              if k_in (45 + x1) 250 then (
                k_bd (f_X7_nears  16 x1 (σ3 68 (k_n (45 + x1))) σ3) (fun _ σ4 =>
                  j_X7_yearGoes_51  (fun x1 σ => l_X7_yearGoes_2   n x1 σ) x1 σ4
                )
              ) else none
            )
          ) else none
        )
      ) else none
    )
set_option maxRecDepth 100000 in
theorem gl_X7_yearGoes_2 (E : k_EV)     : ∀ (n : Nat) (x1 : Int32)  (σ : k_Mem), k_GO m_X7_yearGoes E k_vv 2 [(0, k_rf E 67), (1, .int x1)] [] σ (l_X7_yearGoes_2   n x1 σ) := by
  intro n
  induction n with
  | zero => intro x1  σ; exact r_none
  | succ n ih =>
    intro x1  σ
    rw [l_X7_yearGoes_2]
    refine r_iload_n 1 rfl rfl 3 rfl dX7_yearGoes_2 ?_
    refine r_iconst 4 (by decide) 4 rfl dX7_yearGoes_3 ?_
    refine r_icmp_ge 57 7 rfl (by decide) dX7_yearGoes_4 (fun c1 => ?_) (fun c1 => ?_)
    · refine r_aload_n 0 rfl rfl 58 rfl dX7_yearGoes_57 ?_
      refine r_getr fl_X7_7 sh_67 rfl 61 rfl dX7_yearGoes_58 ?_
      refine r_bipush 49 (by decide) 63 rfl dX7_yearGoes_61 ?_
      refine r_dup2 64 rfl dX7_yearGoes_63 rfl rfl ?_
      refine r_iald sh_68 65 rfl dX7_yearGoes_64 ?_
      refine r_iconst 1 (by decide) 66 rfl dX7_yearGoes_65 ?_
      refine r_iadd 67 rfl dX7_yearGoes_66 ?_
      refine r_iast sh_68 68 rfl dX7_yearGoes_67 ?_
      exact r_vret rfl dX7_yearGoes_68
    · refine r_aload_n 0 rfl rfl 8 rfl dX7_yearGoes_7 ?_
      refine r_getr fl_X7_7 sh_67 rfl 11 rfl dX7_yearGoes_8 ?_
      refine r_bipush 45 (by decide) 13 rfl dX7_yearGoes_11 ?_
      refine r_iload_n 1 rfl rfl 14 rfl dX7_yearGoes_13 ?_
      refine r_iadd 15 rfl dX7_yearGoes_14 ?_
      refine r_iald sh_68 16 rfl dX7_yearGoes_15 ?_
      refine r_if_eq 51 19 rfl (by decide) dX7_yearGoes_16 (fun c2 => ?_) (fun c2 => ?_)
      · exact r_sub [0, 1] rfl (gj_X7_yearGoes_51 E   _ (fun x1  σ => ih x1  σ) _  _)
      · refine r_aload_n 0 rfl rfl 20 rfl dX7_yearGoes_19 ?_
        refine r_bipush 8 (by decide) 22 rfl dX7_yearGoes_20 ?_
        refine r_iload_n 1 rfl rfl 23 rfl dX7_yearGoes_22 ?_
        refine r_aload_n 0 rfl rfl 24 rfl dX7_yearGoes_23 ?_
        refine r_getr fl_X7_7 sh_67 rfl 27 rfl dX7_yearGoes_24 ?_
        refine r_bipush 45 (by decide) 29 rfl dX7_yearGoes_27 ?_
        refine r_iload_n 1 rfl rfl 30 rfl dX7_yearGoes_29 ?_
        refine r_iadd 31 rfl dX7_yearGoes_30 ?_
        refine r_iald sh_68 32 rfl dX7_yearGoes_31 ?_
        refine r_callv (c_X7_nears E   _ _ _ _) rfl sh_67 rfl ml_X7_245 cw_X7_nears vw_X7_nears (by decide) (Nat.le_of_ble_eq_true rfl) 35 rfl dX7_yearGoes_32 (fun _ σ3 => ?_)
        refine r_aload_n 0 rfl rfl 36 rfl dX7_yearGoes_35 ?_
        refine r_bipush 16 (by decide) 38 rfl dX7_yearGoes_36 ?_
        refine r_iload_n 1 rfl rfl 39 rfl dX7_yearGoes_38 ?_
        refine r_aload_n 0 rfl rfl 40 rfl dX7_yearGoes_39 ?_
        refine r_getr fl_X7_7 sh_67 rfl 43 rfl dX7_yearGoes_40 ?_
        refine r_bipush 45 (by decide) 45 rfl dX7_yearGoes_43 ?_
        refine r_iload_n 1 rfl rfl 46 rfl dX7_yearGoes_45 ?_
        refine r_iadd 47 rfl dX7_yearGoes_46 ?_
        refine r_iald sh_68 48 rfl dX7_yearGoes_47 ?_
        refine r_callv (c_X7_nears E   _ _ _ _) rfl sh_67 rfl ml_X7_245 cw_X7_nears vw_X7_nears (by decide) (Nat.le_of_ble_eq_true rfl) 51 rfl dX7_yearGoes_48 (fun _ σ4 => ?_)
        exact r_sub [0, 1] rfl (gj_X7_yearGoes_51 E   _ (fun x1  σ => ih x1  σ) _  _)
def f_X7_yearGoes   (σ : k_Mem) : Option (Unit × k_Mem) :=
  l_X7_yearGoes_2   1000 0 σ
set_option maxRecDepth 100000 in
theorem c_X7_yearGoes (E : k_EV)    (σ : k_Mem) : k_MC m_X7_yearGoes E k_vv [k_rf E 67] σ (f_X7_yearGoes  σ) := by
  refine k_MC_of ⟨by decide, by decide⟩ (Nat.le_of_ble_eq_true rfl) ?_
  show k_GO _ _ _ 0 [(0, k_rf E 67)] [] σ _
  unfold f_X7_yearGoes
  refine r_iconst 0 (by decide) 1 rfl dX7_yearGoes_0 ?_
  refine r_istore_n [(1, .int _), (0, k_rf E 67)] rfl rfl (by decide) 2 rfl dX7_yearGoes_1 ?_
  exact r_sub [1, 0] rfl (gl_X7_yearGoes_2 E     1000 _  _)
/-! HandMarketModel.years(I)I -/
def l_X7_years_34   : Nat → Int32 → Int32 → k_Mem → Option (Int32 × k_Mem)
  | 0, _, _, _ => none
  | n + 1, x1, x2, σ =>
    if x1 ≤ x2 then (
      if k_in 49 250 then (
        some ((σ 68 (k_n 49)), σ)
      ) else none
    ) else (
      k_bd (f_X7_yearGoes   σ) (fun _ σ5 =>
        l_X7_years_34   n x1 (x2 + 1) σ5
      )
    )
set_option maxRecDepth 100000 in
theorem gl_X7_years_34 (E : k_EV)     : ∀ (n : Nat) (x1 : Int32) (x2 : Int32)  (σ : k_Mem), k_GO m_X7_years E k_vi 34 [(0, k_rf E 67), (1, .int x1), (2, .int x2)] [] σ (l_X7_years_34   n x1 x2 σ) := by
  intro n
  induction n with
  | zero => intro x1 x2  σ; exact r_none
  | succ n ih =>
    intro x1 x2  σ
    rw [l_X7_years_34]
    refine r_iload_n 2 rfl rfl 35 rfl dX7_years_34 ?_
    refine r_iload_n 1 rfl rfl 36 rfl dX7_years_35 ?_
    refine r_icmp_ge 49 39 rfl (by decide) dX7_years_36 (fun c4 => ?_) (fun c4 => ?_)
    · refine r_aload_n 0 rfl rfl 50 rfl dX7_years_49 ?_
      refine r_getr fl_X7_7 sh_67 rfl 53 rfl dX7_years_50 ?_
      refine r_bipush 49 (by decide) 55 rfl dX7_years_53 ?_
      refine r_iald sh_68 56 rfl dX7_years_55 ?_
      exact r_iret rfl dX7_years_56
    · refine r_aload_n 0 rfl rfl 40 rfl dX7_years_39 ?_
      refine r_callv (c_X7_yearGoes E    _) rfl sh_67 rfl ml_X7_251 cw_X7_yearGoes vw_X7_yearGoes (by decide) (Nat.le_of_ble_eq_true rfl) 43 rfl dX7_years_40 (fun _ σ5 => ?_)
      refine r_iinc 1 (by decide) 2 rfl [(2, .int _), (0, k_rf E 67), (1, .int _)] rfl (by decide) 46 rfl dX7_years_43 ?_
      refine r_goto 34 (by decide) dX7_years_46 ?_
      exact r_sub [1, 2, 0] rfl (ih _ _  _)
def f_X7_years  (x1 : Int32) (σ : k_Mem) : Option (Int32 × k_Mem) :=
  k_bd (f_X7_in  (Int32.toInt64 x1) 0 20 σ) (fun r1 σ1 =>
    if r1 = 0 then (
      some ((-1), σ1)
    ) else (
      if k_in 49 250 then (
        if ((σ1 68 (k_n 49)) + x1) ≤ 999 then (
          l_X7_years_34   1000 x1 0 σ1
        ) else (
          some ((-3), σ1)
        )
      ) else none
    )
  )
set_option maxRecDepth 100000 in
theorem c_X7_years (E : k_EV)   (x1 : Int32) (σ : k_Mem) : k_MC m_X7_years E k_vi [k_rf E 67, .int x1] σ (f_X7_years x1 σ) := by
  refine k_MC_of ⟨by decide, by decide⟩ (Nat.le_of_ble_eq_true rfl) ?_
  show k_GO _ _ _ 0 [(0, k_rf E 67), (1, .int x1)] [] σ _
  unfold f_X7_years
  refine r_iload_n 1 rfl rfl 1 rfl dX7_years_0 ?_
  refine r_i2l 2 rfl dX7_years_1 ?_
  refine r_lconst 0 (by decide) 3 rfl dX7_years_2 ?_
  refine r_ldc2 cs_X7_249 6 rfl dX7_years_3 ?_
  refine r_callsi (c_X7_in E   _ _ _ _) rfl ml_X7_58 cw_X7_in sw_X7_in (by decide) (Nat.le_of_ble_eq_true rfl) 9 rfl dX7_years_6 (fun r1 σ1 => ?_)
  refine r_if_ne 14 12 rfl (by decide) dX7_years_9 (fun c2 => ?_) (fun c2 => ?_)
  · refine r_iconst (-1) (by decide) 13 rfl dX7_years_12 ?_
    exact r_iret rfl dX7_years_13
  · refine r_aload_n 0 rfl rfl 15 rfl dX7_years_14 ?_
    refine r_getr fl_X7_7 sh_67 rfl 18 rfl dX7_years_15 ?_
    refine r_bipush 49 (by decide) 20 rfl dX7_years_18 ?_
    refine r_iald sh_68 21 rfl dX7_years_20 ?_
    refine r_iload_n 1 rfl rfl 22 rfl dX7_years_21 ?_
    refine r_iadd 23 rfl dX7_years_22 ?_
    refine r_sipush 999 (by decide) 26 rfl dX7_years_23 ?_
    refine r_icmp_le 32 29 rfl (by decide) dX7_years_26 (fun c3 => ?_) (fun c3 => ?_)
    · refine r_iconst 0 (by decide) 33 rfl dX7_years_32 ?_
      refine r_istore_n [(2, .int _), (0, k_rf E 67), (1, .int _)] rfl rfl (by decide) 34 rfl dX7_years_33 ?_
      exact r_sub [1, 2, 0] rfl (gl_X7_years_34 E     1000 _ _  _)
    · refine r_bipush (-3) (by decide) 31 rfl dX7_years_29 ?_
      exact r_iret rfl dX7_years_31
/-! HandMarketModel.copies(II)V -/
def l_X7_copies_2   : Nat → Int32 → Int32 → Int32 → k_Mem → Option (Unit × k_Mem)
  | 0, _, _, _, _ => none
  | n + 1, x1, x2, x3, σ =>
    if 50 ≤ x3 then (
      some ((), σ)
    ) else (
      if k_in (x1 + x3) 250 then (
        if k_in (x2 + x3) 250 then (
          l_X7_copies_2   n x1 x2 (x3 + 1) (k_mset σ 68 (k_n (x2 + x3)) (σ 68 (k_n (x1 + x3))))
        ) else none
      ) else none
    )
set_option maxRecDepth 100000 in
theorem gl_X7_copies_2 (E : k_EV)     : ∀ (n : Nat) (x1 : Int32) (x2 : Int32) (x3 : Int32)  (σ : k_Mem), k_GO m_X7_copies E k_vv 2 [(0, k_rf E 67), (1, .int x1), (2, .int x2), (3, .int x3)] [] σ (l_X7_copies_2   n x1 x2 x3 σ) := by
  intro n
  induction n with
  | zero => intro x1 x2 x3  σ; exact r_none
  | succ n ih =>
    intro x1 x2 x3  σ
    rw [l_X7_copies_2]
    refine r_iload_n 3 rfl rfl 3 rfl dX7_copies_2 ?_
    refine r_bipush 50 (by decide) 5 rfl dX7_copies_3 ?_
    refine r_icmp_ge 30 8 rfl (by decide) dX7_copies_5 (fun c1 => ?_) (fun c1 => ?_)
    · exact r_vret rfl dX7_copies_30
    · refine r_aload_n 0 rfl rfl 9 rfl dX7_copies_8 ?_
      refine r_getr fl_X7_7 sh_67 rfl 12 rfl dX7_copies_9 ?_
      refine r_iload_n 2 rfl rfl 13 rfl dX7_copies_12 ?_
      refine r_iload_n 3 rfl rfl 14 rfl dX7_copies_13 ?_
      refine r_iadd 15 rfl dX7_copies_14 ?_
      refine r_aload_n 0 rfl rfl 16 rfl dX7_copies_15 ?_
      refine r_getr fl_X7_7 sh_67 rfl 19 rfl dX7_copies_16 ?_
      refine r_iload_n 1 rfl rfl 20 rfl dX7_copies_19 ?_
      refine r_iload_n 3 rfl rfl 21 rfl dX7_copies_20 ?_
      refine r_iadd 22 rfl dX7_copies_21 ?_
      refine r_iald sh_68 23 rfl dX7_copies_22 ?_
      refine r_iast sh_68 24 rfl dX7_copies_23 ?_
      refine r_iinc 1 (by decide) 3 rfl [(3, .int _), (0, k_rf E 67), (1, .int _), (2, .int _)] rfl (by decide) 27 rfl dX7_copies_24 ?_
      refine r_goto 2 (by decide) dX7_copies_27 ?_
      exact r_sub [1, 2, 3, 0] rfl (ih _ _ _  _)
def f_X7_copies  (x1 : Int32) (x2 : Int32) (σ : k_Mem) : Option (Unit × k_Mem) :=
  l_X7_copies_2   1000 x1 x2 0 σ
set_option maxRecDepth 100000 in
theorem c_X7_copies (E : k_EV)   (x1 : Int32) (x2 : Int32) (σ : k_Mem) : k_MC m_X7_copies E k_vv [k_rf E 67, .int x1, .int x2] σ (f_X7_copies x1 x2 σ) := by
  refine k_MC_of ⟨by decide, by decide⟩ (Nat.le_of_ble_eq_true rfl) ?_
  show k_GO _ _ _ 0 [(0, k_rf E 67), (1, .int x1), (2, .int x2)] [] σ _
  unfold f_X7_copies
  refine r_iconst 0 (by decide) 1 rfl dX7_copies_0 ?_
  refine r_istore_n [(3, .int _), (0, k_rf E 67), (1, .int _), (2, .int _)] rfl rfl (by decide) 2 rfl dX7_copies_1 ?_
  exact r_sub [1, 2, 3, 0] rfl (gl_X7_copies_2 E     1000 _ _ _  _)
/-! HandMarketModel.unlike(II)I -/
def f_X7_unlike  (x1 : Int32) (x2 : Int32) (σ : k_Mem) : Option (Int32 × k_Mem) :=
  if k_in (8 + x1) 250 then (
    if k_in (8 + x2) 250 then (
      k_bd (f_X7_far  (σ 68 (k_n (8 + x1))) (σ 68 (k_n (8 + x2))) σ) (fun r1 σ1 =>
        if k_in (16 + x1) 250 then (
          if k_in (16 + x2) 250 then (
            k_bd (f_X7_far  (σ1 68 (k_n (16 + x1))) (σ1 68 (k_n (16 + x2))) σ1) (fun r2 σ2 =>
              some ((r1 + r2), σ2)
            )
          ) else none
        ) else none
      )
    ) else none
  ) else none
set_option maxRecDepth 100000 in
theorem c_X7_unlike (E : k_EV)   (x1 : Int32) (x2 : Int32) (σ : k_Mem) : k_MC m_X7_unlike E k_vi [k_rf E 67, .int x1, .int x2] σ (f_X7_unlike x1 x2 σ) := by
  refine k_MC_of ⟨by decide, by decide⟩ (Nat.le_of_ble_eq_true rfl) ?_
  show k_GO _ _ _ 0 [(0, k_rf E 67), (1, .int x1), (2, .int x2)] [] σ _
  unfold f_X7_unlike
  refine r_aload_n 0 rfl rfl 1 rfl dX7_unlike_0 ?_
  refine r_getr fl_X7_7 sh_67 rfl 4 rfl dX7_unlike_1 ?_
  refine r_bipush 8 (by decide) 6 rfl dX7_unlike_4 ?_
  refine r_iload_n 1 rfl rfl 7 rfl dX7_unlike_6 ?_
  refine r_iadd 8 rfl dX7_unlike_7 ?_
  refine r_iald sh_68 9 rfl dX7_unlike_8 ?_
  refine r_aload_n 0 rfl rfl 10 rfl dX7_unlike_9 ?_
  refine r_getr fl_X7_7 sh_67 rfl 13 rfl dX7_unlike_10 ?_
  refine r_bipush 8 (by decide) 15 rfl dX7_unlike_13 ?_
  refine r_iload_n 2 rfl rfl 16 rfl dX7_unlike_15 ?_
  refine r_iadd 17 rfl dX7_unlike_16 ?_
  refine r_iald sh_68 18 rfl dX7_unlike_17 ?_
  refine r_callsi (c_X7_far E   _ _ _) rfl ml_X7_189 cw_X7_far sw_X7_far (by decide) (Nat.le_of_ble_eq_true rfl) 21 rfl dX7_unlike_18 (fun r1 σ1 => ?_)
  refine r_aload_n 0 rfl rfl 22 rfl dX7_unlike_21 ?_
  refine r_getr fl_X7_7 sh_67 rfl 25 rfl dX7_unlike_22 ?_
  refine r_bipush 16 (by decide) 27 rfl dX7_unlike_25 ?_
  refine r_iload_n 1 rfl rfl 28 rfl dX7_unlike_27 ?_
  refine r_iadd 29 rfl dX7_unlike_28 ?_
  refine r_iald sh_68 30 rfl dX7_unlike_29 ?_
  refine r_aload_n 0 rfl rfl 31 rfl dX7_unlike_30 ?_
  refine r_getr fl_X7_7 sh_67 rfl 34 rfl dX7_unlike_31 ?_
  refine r_bipush 16 (by decide) 36 rfl dX7_unlike_34 ?_
  refine r_iload_n 2 rfl rfl 37 rfl dX7_unlike_36 ?_
  refine r_iadd 38 rfl dX7_unlike_37 ?_
  refine r_iald sh_68 39 rfl dX7_unlike_38 ?_
  refine r_callsi (c_X7_far E   _ _ _) rfl ml_X7_189 cw_X7_far sw_X7_far (by decide) (Nat.le_of_ble_eq_true rfl) 42 rfl dX7_unlike_39 (fun r2 σ2 => ?_)
  refine r_iadd 43 rfl dX7_unlike_42 ?_
  exact r_iret rfl dX7_unlike_43
/-! HandMarketModel.alike()I -/
def j_X7_alike_99   (x1 : Int32) (σ : k_Mem) : Option (Int32 × k_Mem) :=
  k_bd (f_X7_copies  200 0 σ) (fun _ σ3 =>
    some (x1, σ3)
  )
set_option maxRecDepth 100000 in
theorem gj_X7_alike_99 (E : k_EV)     (x1 : Int32)  (σ : k_Mem) : k_GO m_X7_alike E k_vi 99 [(0, k_rf E 67), (1, .int x1)] [] σ (j_X7_alike_99   x1 σ) := by
  unfold j_X7_alike_99
  refine r_aload_n 0 rfl rfl 100 rfl dX7_alike_99 ?_
  refine r_sipush 200 (by decide) 103 rfl dX7_alike_100 ?_
  refine r_iconst 0 (by decide) 104 rfl dX7_alike_103 ?_
  refine r_callv (c_X7_copies E   _ _ _) rfl sh_67 rfl ml_X7_254 cw_X7_copies vw_X7_copies (by decide) (Nat.le_of_ble_eq_true rfl) 107 rfl dX7_alike_104 (fun _ σ3 => ?_)
  refine r_iload_n 1 rfl rfl 108 rfl dX7_alike_107 ?_
  exact r_iret rfl dX7_alike_108
def j_X7_alike_88  (k13 : Int32 → Int32 → k_Mem → Option (Int32 × k_Mem)) (x2 : Int32) (xs0 : Int32) (σ : k_Mem) : Option (Int32 × k_Mem) :=
  k_bd (f_X7_yearGoes   σ) (fun _ σ7 =>
    k13 xs0 (x2 + 1) σ7
  )
set_option maxRecDepth 100000 in
theorem gj_X7_alike_88 (E : k_EV)   (k13 : Int32 → Int32 → k_Mem → Option (Int32 × k_Mem)) (hk13 : ∀ (x1 : Int32) (x2 : Int32)  (σ : k_Mem), k_GO m_X7_alike E k_vi 13 [(0, k_rf E 67), (1, .int x1), (2, .int x2)] [] σ (k13 x1 x2 σ)) (x2 : Int32) (xs0 : Int32)  (σ : k_Mem) : k_GO m_X7_alike E k_vi 88 [(0, k_rf E 67), (2, .int x2)] [.int xs0] σ (j_X7_alike_88  k13 x2 xs0 σ) := by
  unfold j_X7_alike_88
  refine r_istore_n [(1, .int _), (0, k_rf E 67), (2, .int _)] rfl rfl (by decide) 89 rfl dX7_alike_88 ?_
  refine r_aload_n 1 rfl rfl 90 rfl dX7_alike_89 ?_
  refine r_callv (c_X7_yearGoes E    _) rfl sh_67 rfl ml_X7_251 cw_X7_yearGoes vw_X7_yearGoes (by decide) (Nat.le_of_ble_eq_true rfl) 93 rfl dX7_alike_90 (fun _ σ7 => ?_)
  refine r_iinc 1 (by decide) 2 rfl [(2, .int _), (1, .int _), (0, k_rf E 67)] rfl (by decide) 96 rfl dX7_alike_93 ?_
  refine r_goto 13 (by decide) dX7_alike_96 ?_
  exact r_sub [2, 1, 0] rfl (hk13 _ _  _)
def j_X7_alike_70  (k13 : Int32 → Int32 → k_Mem → Option (Int32 × k_Mem)) (k30 : Int32 → Int32 → Int32 → k_Mem → Option (Int32 × k_Mem)) (x2 : Int32) (x4 : Int32) (xs0 : Int32) (xs1 : Int32) (σ : k_Mem) : Option (Int32 × k_Mem) :=
  k30 x2 (xs0 + xs1) (x4 + 1) σ
set_option maxRecDepth 100000 in
theorem gj_X7_alike_70 (E : k_EV)   (k13 : Int32 → Int32 → k_Mem → Option (Int32 × k_Mem)) (k30 : Int32 → Int32 → Int32 → k_Mem → Option (Int32 × k_Mem)) (hk13 : ∀ (x1 : Int32) (x2 : Int32)  (σ : k_Mem), k_GO m_X7_alike E k_vi 13 [(0, k_rf E 67), (1, .int x1), (2, .int x2)] [] σ (k13 x1 x2 σ)) (hk30 : ∀ (x2 : Int32) (x3 : Int32) (x4 : Int32)  (σ : k_Mem), k_GO m_X7_alike E k_vi 30 [(0, k_rf E 67), (2, .int x2), (3, .int x3), (4, .int x4)] [] σ (k30 x2 x3 x4 σ)) (x2 : Int32) (x4 : Int32) (xs0 : Int32) (xs1 : Int32)  (σ : k_Mem) : k_GO m_X7_alike E k_vi 70 [(0, k_rf E 67), (2, .int x2), (4, .int x4)] [.int xs1, .int xs0] σ (j_X7_alike_70  k13 k30 x2 x4 xs0 xs1 σ) := by
  unfold j_X7_alike_70
  refine r_iadd 71 rfl dX7_alike_70 ?_
  refine r_istore_n [(3, .int _), (0, k_rf E 67), (2, .int _), (4, .int _)] rfl rfl (by decide) 72 rfl dX7_alike_71 ?_
  refine r_iinc 1 (by decide) 3 rfl [(4, .int _), (3, .int _), (0, k_rf E 67), (2, .int _)] rfl (by decide) 75 rfl dX7_alike_72 ?_
  refine r_goto 30 (by decide) dX7_alike_75 ?_
  exact r_sub [2, 3, 1, 0] rfl (hk30 _ _ _  _)
def l_X7_alike_30  (k13 : Int32 → Int32 → k_Mem → Option (Int32 × k_Mem)) : Nat → Int32 → Int32 → Int32 → k_Mem → Option (Int32 × k_Mem)
  | 0, _, _, _, _ => none
  | n + 1, x2, x3, x4, σ =>
    if 4 ≤ x4 then (
      if x3 = 0 then (
        j_X7_alike_88  k13 x2 x2 σ
      ) else (
        j_X7_alike_88  k13 x2 (-4) σ
      )
    ) else (
      if k_in (45 + x4) 250 then (
        if (σ 68 (k_n (45 + x4))) = 0 then (
          j_X7_alike_70  k13 (fun x2 x3 x4 σ => l_X7_alike_30  k13 n x2 x3 x4 σ) x2 x4 x3 0 σ
        ) else (
          if k_in (45 + x4) 250 then (
            k_bd (f_X7_unlike  x4 (σ 68 (k_n (45 + x4))) σ) (fun r9 σ9 =>
              j_X7_alike_70  k13 (fun x2 x3 x4 σ => l_X7_alike_30  k13 n x2 x3 x4 σ) x2 x4 x3 r9 σ9
            )
          ) else none
        )
      ) else none
    )
set_option maxRecDepth 100000 in
theorem gl_X7_alike_30 (E : k_EV)   (k13 : Int32 → Int32 → k_Mem → Option (Int32 × k_Mem)) (hk13 : ∀ (x1 : Int32) (x2 : Int32)  (σ : k_Mem), k_GO m_X7_alike E k_vi 13 [(0, k_rf E 67), (1, .int x1), (2, .int x2)] [] σ (k13 x1 x2 σ)) : ∀ (n : Nat) (x2 : Int32) (x3 : Int32) (x4 : Int32)  (σ : k_Mem), k_GO m_X7_alike E k_vi 30 [(0, k_rf E 67), (2, .int x2), (3, .int x3), (4, .int x4)] [] σ (l_X7_alike_30  k13 n x2 x3 x4 σ) := by
  intro n
  induction n with
  | zero => intro x2 x3 x4  σ; exact r_none
  | succ n ih =>
    intro x2 x3 x4  σ
    rw [l_X7_alike_30]
    refine r_iload 3 rfl 32 rfl dX7_alike_30 ?_
    refine r_iconst 4 (by decide) 33 rfl dX7_alike_32 ?_
    refine r_icmp_ge 78 36 rfl (by decide) dX7_alike_33 (fun c5 => ?_) (fun c5 => ?_)
    · refine r_iload_n 2 rfl rfl 79 rfl dX7_alike_78 ?_
      refine r_if_ne 86 82 rfl (by decide) dX7_alike_79 (fun c6 => ?_) (fun c6 => ?_)
      · refine r_iload_n 1 rfl rfl 83 rfl dX7_alike_82 ?_
        refine r_goto 88 (by decide) dX7_alike_83 ?_
        exact r_sub [0, 1] rfl (gj_X7_alike_88 E   _ hk13 _ _  _)
      · refine r_bipush (-4) (by decide) 88 rfl dX7_alike_86 ?_
        exact r_sub [0, 1] rfl (gj_X7_alike_88 E   _ hk13 _ _  _)
    · refine r_iload_n 2 rfl rfl 37 rfl dX7_alike_36 ?_
      refine r_aload_n 0 rfl rfl 38 rfl dX7_alike_37 ?_
      refine r_getr fl_X7_7 sh_67 rfl 41 rfl dX7_alike_38 ?_
      refine r_bipush 45 (by decide) 43 rfl dX7_alike_41 ?_
      refine r_iload 3 rfl 45 rfl dX7_alike_43 ?_
      refine r_iadd 46 rfl dX7_alike_45 ?_
      refine r_iald sh_68 47 rfl dX7_alike_46 ?_
      refine r_if_eq 69 50 rfl (by decide) dX7_alike_47 (fun c8 => ?_) (fun c8 => ?_)
      · refine r_iconst 0 (by decide) 70 rfl dX7_alike_69 ?_
        exact r_sub [0, 1, 3] rfl (gj_X7_alike_70 E   _ _ hk13 (fun x2 x3 x4  σ => ih x2 x3 x4  σ) _ _ _ _  _)
      · refine r_aload_n 0 rfl rfl 51 rfl dX7_alike_50 ?_
        refine r_iload 3 rfl 53 rfl dX7_alike_51 ?_
        refine r_aload_n 0 rfl rfl 54 rfl dX7_alike_53 ?_
        refine r_getr fl_X7_7 sh_67 rfl 57 rfl dX7_alike_54 ?_
        refine r_bipush 45 (by decide) 59 rfl dX7_alike_57 ?_
        refine r_iload 3 rfl 61 rfl dX7_alike_59 ?_
        refine r_iadd 62 rfl dX7_alike_61 ?_
        refine r_iald sh_68 63 rfl dX7_alike_62 ?_
        refine r_calli (c_X7_unlike E   _ _ _) rfl sh_67 rfl ml_X7_258 cw_X7_unlike vw_X7_unlike (by decide) (Nat.le_of_ble_eq_true rfl) 66 rfl dX7_alike_63 (fun r9 σ9 => ?_)
        refine r_goto 70 (by decide) dX7_alike_66 ?_
        exact r_sub [0, 1, 3] rfl (gj_X7_alike_70 E   _ _ hk13 (fun x2 x3 x4  σ => ih x2 x3 x4  σ) _ _ _ _  _)
def l_X7_alike_13   : Nat → Int32 → Int32 → k_Mem → Option (Int32 × k_Mem)
  | 0, _, _, _ => none
  | n + 1, x1, x2, σ =>
    if 20 < x2 then (
      j_X7_alike_99   x1 σ
    ) else (
      if x1 = (-4) then (
        l_X7_alike_30  (fun x1 x2 σ => l_X7_alike_13   n x1 x2 σ) 1000 x2 0 0 σ
      ) else (
        j_X7_alike_99   x1 σ
      )
    )
set_option maxRecDepth 100000 in
theorem gl_X7_alike_13 (E : k_EV)     : ∀ (n : Nat) (x1 : Int32) (x2 : Int32)  (σ : k_Mem), k_GO m_X7_alike E k_vi 13 [(0, k_rf E 67), (1, .int x1), (2, .int x2)] [] σ (l_X7_alike_13   n x1 x2 σ) := by
  intro n
  induction n with
  | zero => intro x1 x2  σ; exact r_none
  | succ n ih =>
    intro x1 x2  σ
    rw [l_X7_alike_13]
    refine r_iload_n 2 rfl rfl 14 rfl dX7_alike_13 ?_
    refine r_bipush 20 (by decide) 16 rfl dX7_alike_14 ?_
    refine r_icmp_gt 99 19 rfl (by decide) dX7_alike_16 (fun c2 => ?_) (fun c2 => ?_)
    · exact r_sub [0, 1] rfl (gj_X7_alike_99 E     _  _)
    · refine r_iload_n 1 rfl rfl 20 rfl dX7_alike_19 ?_
      refine r_bipush (-4) (by decide) 22 rfl dX7_alike_20 ?_
      refine r_icmp_ne 99 25 rfl (by decide) dX7_alike_22 (fun c4 => ?_) (fun c4 => ?_)
      · refine r_iconst 0 (by decide) 26 rfl dX7_alike_25 ?_
        refine r_istore_n [(3, .int _), (0, k_rf E 67), (1, .int _), (2, .int _)] rfl rfl (by decide) 27 rfl dX7_alike_26 ?_
        refine r_iconst 0 (by decide) 28 rfl dX7_alike_27 ?_
        refine r_istore [(4, .int _), (3, .int _), (0, k_rf E 67), (1, .int _), (2, .int _)] rfl (by decide) 30 rfl dX7_alike_28 ?_
        exact r_sub [2, 4, 1, 0] rfl (gl_X7_alike_30 E   _ (fun x1 x2  σ => ih x1 x2  σ) 1000 _ _ _  _)
      · exact r_sub [0, 1] rfl (gj_X7_alike_99 E     _  _)
def f_X7_alike   (σ : k_Mem) : Option (Int32 × k_Mem) :=
  k_bd (f_X7_copies  0 200 σ) (fun _ σ1 =>
    l_X7_alike_13   1000 (-4) 0 σ1
  )
set_option maxRecDepth 100000 in
theorem c_X7_alike (E : k_EV)    (σ : k_Mem) : k_MC m_X7_alike E k_vi [k_rf E 67] σ (f_X7_alike  σ) := by
  refine k_MC_of ⟨by decide, by decide⟩ (Nat.le_of_ble_eq_true rfl) ?_
  show k_GO _ _ _ 0 [(0, k_rf E 67)] [] σ _
  unfold f_X7_alike
  refine r_aload_n 0 rfl rfl 1 rfl dX7_alike_0 ?_
  refine r_iconst 0 (by decide) 2 rfl dX7_alike_1 ?_
  refine r_sipush 200 (by decide) 5 rfl dX7_alike_2 ?_
  refine r_callv (c_X7_copies E   _ _ _) rfl sh_67 rfl ml_X7_254 cw_X7_copies vw_X7_copies (by decide) (Nat.le_of_ble_eq_true rfl) 8 rfl dX7_alike_5 (fun _ σ1 => ?_)
  refine r_bipush (-4) (by decide) 10 rfl dX7_alike_8 ?_
  refine r_istore_n [(1, .int _), (0, k_rf E 67)] rfl rfl (by decide) 11 rfl dX7_alike_10 ?_
  refine r_iconst 0 (by decide) 12 rfl dX7_alike_11 ?_
  refine r_istore_n [(2, .int _), (1, .int _), (0, k_rf E 67)] rfl rfl (by decide) 13 rfl dX7_alike_12 ?_
  exact r_sub [2, 1, 0] rfl (gl_X7_alike_13 E     1000 _ _  _)
/-! HandMarketModel.near(I)I -/
def j_X7_near_90  (k22 : Int32 → Int32 → Int32 → Int32 → k_Mem → Option (Int32 × k_Mem)) (k35 : Int32 → Int32 → Int32 → Int32 → Int32 → k_Mem → Option (Int32 × k_Mem)) (x1 : Int32) (x2 : Int32) (x3 : Int32) (x4 : Int32) (x5 : Int32) (σ : k_Mem) : Option (Int32 × k_Mem) :=
  k35 x1 x2 x3 x4 (x5 + 1) σ
set_option maxRecDepth 100000 in
theorem gj_X7_near_90 (E : k_EV)   (k22 : Int32 → Int32 → Int32 → Int32 → k_Mem → Option (Int32 × k_Mem)) (k35 : Int32 → Int32 → Int32 → Int32 → Int32 → k_Mem → Option (Int32 × k_Mem)) (hk22 : ∀ (x1 : Int32) (x2 : Int32) (x3 : Int32) (x4 : Int32)  (σ : k_Mem), k_GO m_X7_near E k_vi 22 [(0, k_rf E 67), (1, .int x1), (2, .int x2), (3, .int x3), (4, .int x4)] [] σ (k22 x1 x2 x3 x4 σ)) (hk35 : ∀ (x1 : Int32) (x2 : Int32) (x3 : Int32) (x4 : Int32) (x5 : Int32)  (σ : k_Mem), k_GO m_X7_near E k_vi 35 [(0, k_rf E 67), (1, .int x1), (2, .int x2), (3, .int x3), (4, .int x4), (5, .int x5)] [] σ (k35 x1 x2 x3 x4 x5 σ)) (x1 : Int32) (x2 : Int32) (x3 : Int32) (x4 : Int32) (x5 : Int32)  (σ : k_Mem) : k_GO m_X7_near E k_vi 90 [(0, k_rf E 67), (1, .int x1), (2, .int x2), (3, .int x3), (4, .int x4), (5, .int x5)] [] σ (j_X7_near_90  k22 k35 x1 x2 x3 x4 x5 σ) := by
  unfold j_X7_near_90
  refine r_iinc 1 (by decide) 5 rfl [(5, .int _), (0, k_rf E 67), (1, .int _), (2, .int _), (3, .int _), (4, .int _)] rfl (by decide) 93 rfl dX7_near_90 ?_
  refine r_goto 35 (by decide) dX7_near_93 ?_
  exact r_sub [1, 2, 3, 4, 5, 0] rfl (hk35 _ _ _ _ _  _)
def l_X7_near_35  (k22 : Int32 → Int32 → Int32 → Int32 → k_Mem → Option (Int32 × k_Mem)) : Nat → Int32 → Int32 → Int32 → Int32 → Int32 → k_Mem → Option (Int32 × k_Mem)
  | 0, _, _, _, _, _, _ => none
  | n + 1, x1, x2, x3, x4, x5, σ =>
    if 8 ≤ x5 then (
      k22 x1 x2 x3 (x4 + 1) σ
    ) else (
      k_bd (f_X7_isHand  x4 σ) (fun r7 σ7 =>
        if r7 = 0 then (
          j_X7_near_90  k22 (fun x1 x2 x3 x4 x5 σ => l_X7_near_35  k22 n x1 x2 x3 x4 x5 σ) x1 x2 x3 x4 x5 σ7
        ) else (
          k_bd (f_X7_isHand  x5 σ7) (fun r9 σ9 =>
            if r9 = 0 then (
              j_X7_near_90  k22 (fun x1 x2 x3 x4 x5 σ => l_X7_near_35  k22 n x1 x2 x3 x4 x5 σ) x1 x2 x3 x4 x5 σ9
            ) else (
              k_bd (f_X7_unlike  x4 x5 σ9) (fun r11 σ11 =>
                if x2 ≤ r11 then (
                  j_X7_near_90  k22 (fun x1 x2 x3 x4 x5 σ => l_X7_near_35  k22 n x1 x2 x3 x4 x5 σ) x1 x2 x3 x4 x5 σ11
                ) else (
                  k_bd (f_X7_unlike  x4 x5 σ11) (fun r13 σ13 =>
                    j_X7_near_90  k22 (fun x1 x2 x3 x4 x5 σ => l_X7_near_35  k22 n x1 x2 x3 x4 x5 σ) x1 r13 ((10 * x4) + x5) x4 x5 σ13
                  )
                )
              )
            )
          )
        )
      )
    )
set_option maxRecDepth 100000 in
theorem gl_X7_near_35 (E : k_EV)   (k22 : Int32 → Int32 → Int32 → Int32 → k_Mem → Option (Int32 × k_Mem)) (hk22 : ∀ (x1 : Int32) (x2 : Int32) (x3 : Int32) (x4 : Int32)  (σ : k_Mem), k_GO m_X7_near E k_vi 22 [(0, k_rf E 67), (1, .int x1), (2, .int x2), (3, .int x3), (4, .int x4)] [] σ (k22 x1 x2 x3 x4 σ)) : ∀ (n : Nat) (x1 : Int32) (x2 : Int32) (x3 : Int32) (x4 : Int32) (x5 : Int32)  (σ : k_Mem), k_GO m_X7_near E k_vi 35 [(0, k_rf E 67), (1, .int x1), (2, .int x2), (3, .int x3), (4, .int x4), (5, .int x5)] [] σ (l_X7_near_35  k22 n x1 x2 x3 x4 x5 σ) := by
  intro n
  induction n with
  | zero => intro x1 x2 x3 x4 x5  σ; exact r_none
  | succ n ih =>
    intro x1 x2 x3 x4 x5  σ
    rw [l_X7_near_35]
    refine r_iload 5 rfl 37 rfl dX7_near_35 ?_
    refine r_bipush 8 (by decide) 39 rfl dX7_near_37 ?_
    refine r_icmp_ge 96 42 rfl (by decide) dX7_near_39 (fun c6 => ?_) (fun c6 => ?_)
    · refine r_iinc 1 (by decide) 4 rfl [(4, .int _), (0, k_rf E 67), (1, .int _), (2, .int _), (3, .int _), (5, .int _)] rfl (by decide) 99 rfl dX7_near_96 ?_
      refine r_goto 22 (by decide) dX7_near_99 ?_
      exact r_sub [1, 2, 3, 4, 0] rfl (hk22 _ _ _ _  _)
    · refine r_aload_n 0 rfl rfl 43 rfl dX7_near_42 ?_
      refine r_iload 4 rfl 45 rfl dX7_near_43 ?_
      refine r_calli (c_X7_isHand E   _ _) rfl sh_67 rfl ml_X7_158 cw_X7_isHand vw_X7_isHand (by decide) (Nat.le_of_ble_eq_true rfl) 48 rfl dX7_near_45 (fun r7 σ7 => ?_)
      refine r_if_eq 90 51 rfl (by decide) dX7_near_48 (fun c8 => ?_) (fun c8 => ?_)
      · exact r_sub [0, 1, 2, 3, 4, 5] rfl (gj_X7_near_90 E   _ _ hk22 (fun x1 x2 x3 x4 x5  σ => ih x1 x2 x3 x4 x5  σ) _ _ _ _ _  _)
      · refine r_aload_n 0 rfl rfl 52 rfl dX7_near_51 ?_
        refine r_iload 5 rfl 54 rfl dX7_near_52 ?_
        refine r_calli (c_X7_isHand E   _ _) rfl sh_67 rfl ml_X7_158 cw_X7_isHand vw_X7_isHand (by decide) (Nat.le_of_ble_eq_true rfl) 57 rfl dX7_near_54 (fun r9 σ9 => ?_)
        refine r_if_eq 90 60 rfl (by decide) dX7_near_57 (fun c10 => ?_) (fun c10 => ?_)
        · exact r_sub [0, 1, 2, 3, 4, 5] rfl (gj_X7_near_90 E   _ _ hk22 (fun x1 x2 x3 x4 x5  σ => ih x1 x2 x3 x4 x5  σ) _ _ _ _ _  _)
        · refine r_aload_n 0 rfl rfl 61 rfl dX7_near_60 ?_
          refine r_iload 4 rfl 63 rfl dX7_near_61 ?_
          refine r_iload 5 rfl 65 rfl dX7_near_63 ?_
          refine r_calli (c_X7_unlike E   _ _ _) rfl sh_67 rfl ml_X7_258 cw_X7_unlike vw_X7_unlike (by decide) (Nat.le_of_ble_eq_true rfl) 68 rfl dX7_near_65 (fun r11 σ11 => ?_)
          refine r_iload_n 2 rfl rfl 69 rfl dX7_near_68 ?_
          refine r_icmp_ge 90 72 rfl (by decide) dX7_near_69 (fun c12 => ?_) (fun c12 => ?_)
          · exact r_sub [0, 1, 2, 3, 4, 5] rfl (gj_X7_near_90 E   _ _ hk22 (fun x1 x2 x3 x4 x5  σ => ih x1 x2 x3 x4 x5  σ) _ _ _ _ _  _)
          · refine r_aload_n 0 rfl rfl 73 rfl dX7_near_72 ?_
            refine r_iload 4 rfl 75 rfl dX7_near_73 ?_
            refine r_iload 5 rfl 77 rfl dX7_near_75 ?_
            refine r_calli (c_X7_unlike E   _ _ _) rfl sh_67 rfl ml_X7_258 cw_X7_unlike vw_X7_unlike (by decide) (Nat.le_of_ble_eq_true rfl) 80 rfl dX7_near_77 (fun r13 σ13 => ?_)
            refine r_istore_n [(2, .int _), (0, k_rf E 67), (1, .int _), (3, .int _), (4, .int _), (5, .int _)] rfl rfl (by decide) 81 rfl dX7_near_80 ?_
            refine r_bipush 10 (by decide) 83 rfl dX7_near_81 ?_
            refine r_iload 4 rfl 85 rfl dX7_near_83 ?_
            refine r_imul 86 rfl dX7_near_85 ?_
            refine r_iload 5 rfl 88 rfl dX7_near_86 ?_
            refine r_iadd 89 rfl dX7_near_88 ?_
            refine r_istore_n [(3, .int _), (2, .int _), (0, k_rf E 67), (1, .int _), (4, .int _), (5, .int _)] rfl rfl (by decide) 90 rfl dX7_near_89 ?_
            exact r_sub [2, 3, 1, 0, 4, 5] rfl (gj_X7_near_90 E   _ _ hk22 (fun x1 x2 x3 x4 x5  σ => ih x1 x2 x3 x4 x5  σ) _ _ _ _ _  _)
def l_X7_near_22   : Nat → Int32 → Int32 → Int32 → Int32 → k_Mem → Option (Int32 × k_Mem)
  | 0, _, _, _, _, _ => none
  | n + 1, x1, x2, x3, x4, σ =>
    if 8 ≤ x4 then (
      if x3 = (-4) then (
        some (x3, σ)
      ) else (
        if x1 = 0 then (
          some (x3, σ)
        ) else (
          some (x2, σ)
        )
      )
    ) else (
      l_X7_near_35  (fun x1 x2 x3 x4 σ => l_X7_near_22   n x1 x2 x3 x4 σ) 1000 x1 x2 x3 x4 (x4 + 1) σ
    )
set_option maxRecDepth 100000 in
theorem gl_X7_near_22 (E : k_EV)     : ∀ (n : Nat) (x1 : Int32) (x2 : Int32) (x3 : Int32) (x4 : Int32)  (σ : k_Mem), k_GO m_X7_near E k_vi 22 [(0, k_rf E 67), (1, .int x1), (2, .int x2), (3, .int x3), (4, .int x4)] [] σ (l_X7_near_22   n x1 x2 x3 x4 σ) := by
  intro n
  induction n with
  | zero => intro x1 x2 x3 x4  σ; exact r_none
  | succ n ih =>
    intro x1 x2 x3 x4  σ
    rw [l_X7_near_22]
    refine r_iload 4 rfl 24 rfl dX7_near_22 ?_
    refine r_bipush 8 (by decide) 26 rfl dX7_near_24 ?_
    refine r_icmp_ge 102 29 rfl (by decide) dX7_near_26 (fun c3 => ?_) (fun c3 => ?_)
    · refine r_iload_n 3 rfl rfl 103 rfl dX7_near_102 ?_
      refine r_bipush (-4) (by decide) 105 rfl dX7_near_103 ?_
      refine r_icmp_eq 112 108 rfl (by decide) dX7_near_105 (fun c4 => ?_) (fun c4 => ?_)
      · refine r_iload_n 3 rfl rfl 113 rfl dX7_near_112 ?_
        refine r_goto 117 (by decide) dX7_near_113 ?_
        exact r_iret rfl dX7_near_117
      · refine r_iload_n 1 rfl rfl 109 rfl dX7_near_108 ?_
        refine r_if_ne 116 112 rfl (by decide) dX7_near_109 (fun c5 => ?_) (fun c5 => ?_)
        · refine r_iload_n 3 rfl rfl 113 rfl dX7_near_112 ?_
          refine r_goto 117 (by decide) dX7_near_113 ?_
          exact r_iret rfl dX7_near_117
        · refine r_iload_n 2 rfl rfl 117 rfl dX7_near_116 ?_
          exact r_iret rfl dX7_near_117
    · refine r_iload 4 rfl 31 rfl dX7_near_29 ?_
      refine r_iconst 1 (by decide) 32 rfl dX7_near_31 ?_
      refine r_iadd 33 rfl dX7_near_32 ?_
      refine r_istore [(5, .int _), (0, k_rf E 67), (1, .int _), (2, .int _), (3, .int _), (4, .int _)] rfl (by decide) 35 rfl dX7_near_33 ?_
      exact r_sub [1, 2, 3, 4, 5, 0] rfl (gl_X7_near_35 E   _ (fun x1 x2 x3 x4  σ => ih x1 x2 x3 x4  σ) 1000 _ _ _ _ _  _)
def f_X7_near  (x1 : Int32) (σ : k_Mem) : Option (Int32 × k_Mem) :=
  k_bd (f_X7_in  (Int32.toInt64 x1) 0 1 σ) (fun r1 σ1 =>
    if r1 = 0 then (
      some ((-1), σ1)
    ) else (
      l_X7_near_22   1000 x1 1000000 (-4) 0 σ1
    )
  )
set_option maxRecDepth 100000 in
theorem c_X7_near (E : k_EV)   (x1 : Int32) (σ : k_Mem) : k_MC m_X7_near E k_vi [k_rf E 67, .int x1] σ (f_X7_near x1 σ) := by
  refine k_MC_of ⟨by decide, by decide⟩ (Nat.le_of_ble_eq_true rfl) ?_
  show k_GO _ _ _ 0 [(0, k_rf E 67), (1, .int x1)] [] σ _
  unfold f_X7_near
  refine r_iload_n 1 rfl rfl 1 rfl dX7_near_0 ?_
  refine r_i2l 2 rfl dX7_near_1 ?_
  refine r_lconst 0 (by decide) 3 rfl dX7_near_2 ?_
  refine r_lconst 1 (by decide) 4 rfl dX7_near_3 ?_
  refine r_callsi (c_X7_in E   _ _ _ _) rfl ml_X7_58 cw_X7_in sw_X7_in (by decide) (Nat.le_of_ble_eq_true rfl) 7 rfl dX7_near_4 (fun r1 σ1 => ?_)
  refine r_if_ne 12 10 rfl (by decide) dX7_near_7 (fun c2 => ?_) (fun c2 => ?_)
  · refine r_iconst (-1) (by decide) 11 rfl dX7_near_10 ?_
    exact r_iret rfl dX7_near_11
  · refine r_ldcw cs_X7_261 15 rfl dX7_near_12 ?_
    refine r_istore_n [(2, .int _), (0, k_rf E 67), (1, .int _)] rfl rfl (by decide) 16 rfl dX7_near_15 ?_
    refine r_bipush (-4) (by decide) 18 rfl dX7_near_16 ?_
    refine r_istore_n [(3, .int _), (2, .int _), (0, k_rf E 67), (1, .int _)] rfl rfl (by decide) 19 rfl dX7_near_18 ?_
    refine r_iconst 0 (by decide) 20 rfl dX7_near_19 ?_
    refine r_istore [(4, .int _), (3, .int _), (2, .int _), (0, k_rf E 67), (1, .int _)] rfl (by decide) 22 rfl dX7_near_20 ?_
    exact r_sub [3, 4, 2, 1, 0] rfl (gl_X7_near_22 E     1000 _ _ _ _  _)
/-! HandMarketModel.forge(II)I -/
def j_X7_forge_165  (k46 : Int32 → Int32 → Int32 → Int32 → Int32 → Int32 → Int32 → k_Mem → Option (Int32 × k_Mem)) (x1 : Int32) (x2 : Int32) (x3 : Int32) (x4 : Int32) (x5 : Int32) (x6 : Int32) (x7 : Int32) (σ : k_Mem) : Option (Int32 × k_Mem) :=
  k46 x1 x2 x3 x4 x5 x6 (x7 + 1) σ
set_option maxRecDepth 100000 in
theorem gj_X7_forge_165 (E : k_EV)   (k46 : Int32 → Int32 → Int32 → Int32 → Int32 → Int32 → Int32 → k_Mem → Option (Int32 × k_Mem)) (hk46 : ∀ (x1 : Int32) (x2 : Int32) (x3 : Int32) (x4 : Int32) (x5 : Int32) (x6 : Int32) (x7 : Int32)  (σ : k_Mem), k_GO m_X7_forge E k_vi 46 [(0, k_rf E 67), (1, .int x1), (2, .int x2), (3, .int x3), (4, .int x4), (5, .int x5), (6, .int x6), (7, .int x7)] [] σ (k46 x1 x2 x3 x4 x5 x6 x7 σ)) (x1 : Int32) (x2 : Int32) (x3 : Int32) (x4 : Int32) (x5 : Int32) (x6 : Int32) (x7 : Int32)  (σ : k_Mem) : k_GO m_X7_forge E k_vi 165 [(0, k_rf E 67), (1, .int x1), (2, .int x2), (3, .int x3), (4, .int x4), (5, .int x5), (6, .int x6), (7, .int x7)] [] σ (j_X7_forge_165  k46 x1 x2 x3 x4 x5 x6 x7 σ) := by
  unfold j_X7_forge_165
  refine r_iinc 1 (by decide) 7 rfl [(7, .int _), (0, k_rf E 67), (1, .int _), (2, .int _), (3, .int _), (4, .int _), (5, .int _), (6, .int _)] rfl (by decide) 168 rfl dX7_forge_165 ?_
  refine r_goto 46 (by decide) dX7_forge_168 ?_
  exact r_sub [1, 2, 3, 4, 5, 6, 7, 0] rfl (hk46 _ _ _ _ _ _ _  _)
def j_X7_forge_163  (k46 : Int32 → Int32 → Int32 → Int32 → Int32 → Int32 → Int32 → k_Mem → Option (Int32 × k_Mem)) (x1 : Int32) (x2 : Int32) (x3 : Int32) (x4 : Int32) (x6 : Int32) (x7 : Int32) (xs0 : Int32) (σ : k_Mem) : Option (Int32 × k_Mem) :=
  j_X7_forge_165  k46 x1 x2 x3 x4 xs0 x6 x7 σ
set_option maxRecDepth 100000 in
theorem gj_X7_forge_163 (E : k_EV)   (k46 : Int32 → Int32 → Int32 → Int32 → Int32 → Int32 → Int32 → k_Mem → Option (Int32 × k_Mem)) (hk46 : ∀ (x1 : Int32) (x2 : Int32) (x3 : Int32) (x4 : Int32) (x5 : Int32) (x6 : Int32) (x7 : Int32)  (σ : k_Mem), k_GO m_X7_forge E k_vi 46 [(0, k_rf E 67), (1, .int x1), (2, .int x2), (3, .int x3), (4, .int x4), (5, .int x5), (6, .int x6), (7, .int x7)] [] σ (k46 x1 x2 x3 x4 x5 x6 x7 σ)) (x1 : Int32) (x2 : Int32) (x3 : Int32) (x4 : Int32) (x6 : Int32) (x7 : Int32) (xs0 : Int32)  (σ : k_Mem) : k_GO m_X7_forge E k_vi 163 [(0, k_rf E 67), (1, .int x1), (2, .int x2), (3, .int x3), (4, .int x4), (6, .int x6), (7, .int x7)] [.int xs0] σ (j_X7_forge_163  k46 x1 x2 x3 x4 x6 x7 xs0 σ) := by
  unfold j_X7_forge_163
  refine r_istore [(5, .int _), (0, k_rf E 67), (1, .int _), (2, .int _), (3, .int _), (4, .int _), (6, .int _), (7, .int _)] rfl (by decide) 165 rfl dX7_forge_163 ?_
  exact r_sub [1, 2, 3, 4, 5, 0, 6, 7] rfl (gj_X7_forge_165 E   _ hk46 _ _ _ _ _ _ _  _)
def j_X7_forge_147  (k46 : Int32 → Int32 → Int32 → Int32 → Int32 → Int32 → Int32 → k_Mem → Option (Int32 × k_Mem)) (x1 : Int32) (x2 : Int32) (x3 : Int32) (x4 : Int32) (x5 : Int32) (x7 : Int32) (x8 : Int32) (xs0 : Int32) (σ : k_Mem) : Option (Int32 × k_Mem) :=
  if x8 ≤ x5 then (
    j_X7_forge_163  k46 x1 x2 x3 x4 xs0 x7 x5 σ
  ) else (
    j_X7_forge_163  k46 x1 x2 x3 x4 xs0 x7 x8 σ
  )
set_option maxRecDepth 100000 in
theorem gj_X7_forge_147 (E : k_EV)   (k46 : Int32 → Int32 → Int32 → Int32 → Int32 → Int32 → Int32 → k_Mem → Option (Int32 × k_Mem)) (hk46 : ∀ (x1 : Int32) (x2 : Int32) (x3 : Int32) (x4 : Int32) (x5 : Int32) (x6 : Int32) (x7 : Int32)  (σ : k_Mem), k_GO m_X7_forge E k_vi 46 [(0, k_rf E 67), (1, .int x1), (2, .int x2), (3, .int x3), (4, .int x4), (5, .int x5), (6, .int x6), (7, .int x7)] [] σ (k46 x1 x2 x3 x4 x5 x6 x7 σ)) (x1 : Int32) (x2 : Int32) (x3 : Int32) (x4 : Int32) (x5 : Int32) (x7 : Int32) (x8 : Int32) (xs0 : Int32)  (σ : k_Mem) : k_GO m_X7_forge E k_vi 147 [(0, k_rf E 67), (1, .int x1), (2, .int x2), (3, .int x3), (4, .int x4), (5, .int x5), (7, .int x7), (8, .int x8)] [.int xs0] σ (j_X7_forge_147  k46 x1 x2 x3 x4 x5 x7 x8 xs0 σ) := by
  unfold j_X7_forge_147
  refine r_istore [(6, .int _), (0, k_rf E 67), (1, .int _), (2, .int _), (3, .int _), (4, .int _), (5, .int _), (7, .int _), (8, .int _)] rfl (by decide) 149 rfl dX7_forge_147 ?_
  refine r_iload 8 rfl 151 rfl dX7_forge_149 ?_
  refine r_iload 6 rfl 153 rfl dX7_forge_151 ?_
  refine r_icmp_le 161 156 rfl (by decide) dX7_forge_153 (fun c13 => ?_) (fun c13 => ?_)
  · refine r_iload 6 rfl 163 rfl dX7_forge_161 ?_
    exact r_sub [1, 2, 3, 4, 5, 0, 7] rfl (gj_X7_forge_163 E   _ hk46 _ _ _ _ _ _ _  _)
  · refine r_iload 8 rfl 158 rfl dX7_forge_156 ?_
    refine r_goto 163 (by decide) dX7_forge_158 ?_
    exact r_sub [1, 2, 3, 4, 5, 0, 7] rfl (gj_X7_forge_163 E   _ hk46 _ _ _ _ _ _ _  _)
def j_X7_forge_127  (k46 : Int32 → Int32 → Int32 → Int32 → Int32 → Int32 → Int32 → k_Mem → Option (Int32 × k_Mem)) (x1 : Int32) (x2 : Int32) (x3 : Int32) (x5 : Int32) (x6 : Int32) (x7 : Int32) (x8 : Int32) (xs0 : Int32) (σ : k_Mem) : Option (Int32 × k_Mem) :=
  if x8 ≤ x5 then (
    j_X7_forge_147  k46 x1 x2 x3 xs0 x5 x7 x8 x6 σ
  ) else (
    if k_in x1 8 then (
      j_X7_forge_147  k46 x1 x2 x3 xs0 x5 x7 x8 (σ 74 (k_n x1)) σ
    ) else none
  )
set_option maxRecDepth 100000 in
theorem gj_X7_forge_127 (E : k_EV)   (k46 : Int32 → Int32 → Int32 → Int32 → Int32 → Int32 → Int32 → k_Mem → Option (Int32 × k_Mem)) (hk46 : ∀ (x1 : Int32) (x2 : Int32) (x3 : Int32) (x4 : Int32) (x5 : Int32) (x6 : Int32) (x7 : Int32)  (σ : k_Mem), k_GO m_X7_forge E k_vi 46 [(0, k_rf E 67), (1, .int x1), (2, .int x2), (3, .int x3), (4, .int x4), (5, .int x5), (6, .int x6), (7, .int x7)] [] σ (k46 x1 x2 x3 x4 x5 x6 x7 σ)) (x1 : Int32) (x2 : Int32) (x3 : Int32) (x5 : Int32) (x6 : Int32) (x7 : Int32) (x8 : Int32) (xs0 : Int32)  (σ : k_Mem) : k_GO m_X7_forge E k_vi 127 [(0, k_rf E 67), (1, .int x1), (2, .int x2), (3, .int x3), (5, .int x5), (6, .int x6), (7, .int x7), (8, .int x8)] [.int xs0] σ (j_X7_forge_127  k46 x1 x2 x3 x5 x6 x7 x8 xs0 σ) := by
  unfold j_X7_forge_127
  refine r_istore [(4, .int _), (0, k_rf E 67), (1, .int _), (2, .int _), (3, .int _), (5, .int _), (6, .int _), (7, .int _), (8, .int _)] rfl (by decide) 129 rfl dX7_forge_127 ?_
  refine r_iload 8 rfl 131 rfl dX7_forge_129 ?_
  refine r_iload 5 rfl 133 rfl dX7_forge_131 ?_
  refine r_icmp_le 145 136 rfl (by decide) dX7_forge_133 (fun c12 => ?_) (fun c12 => ?_)
  · refine r_iload 6 rfl 147 rfl dX7_forge_145 ?_
    exact r_sub [1, 2, 3, 4, 0, 5, 7, 8] rfl (gj_X7_forge_147 E   _ hk46 _ _ _ _ _ _ _ _  _)
  · refine r_aload_n 1 rfl rfl 137 rfl dX7_forge_136 ?_
    refine r_getr fl_X7_28 sh_67 rfl 140 rfl dX7_forge_137 ?_
    refine r_iload_n 2 rfl rfl 141 rfl dX7_forge_140 ?_
    refine r_iald sh_74 142 rfl dX7_forge_141 ?_
    refine r_goto 147 (by decide) dX7_forge_142 ?_
    exact r_sub [1, 2, 3, 4, 0, 5, 7, 8] rfl (gj_X7_forge_147 E   _ hk46 _ _ _ _ _ _ _ _  _)
def j_X7_forge_111  (k46 : Int32 → Int32 → Int32 → Int32 → Int32 → Int32 → Int32 → k_Mem → Option (Int32 × k_Mem)) (x1 : Int32) (x2 : Int32) (x3 : Int32) (x4 : Int32) (x5 : Int32) (x6 : Int32) (x7 : Int32) (xs0 : Int32) (σ : k_Mem) : Option (Int32 × k_Mem) :=
  if xs0 ≤ x5 then (
    j_X7_forge_127  k46 x1 x2 x3 x5 x6 x7 xs0 x4 σ
  ) else (
    j_X7_forge_127  k46 x1 x2 x3 x5 x6 x7 xs0 x7 σ
  )
set_option maxRecDepth 100000 in
theorem gj_X7_forge_111 (E : k_EV)   (k46 : Int32 → Int32 → Int32 → Int32 → Int32 → Int32 → Int32 → k_Mem → Option (Int32 × k_Mem)) (hk46 : ∀ (x1 : Int32) (x2 : Int32) (x3 : Int32) (x4 : Int32) (x5 : Int32) (x6 : Int32) (x7 : Int32)  (σ : k_Mem), k_GO m_X7_forge E k_vi 46 [(0, k_rf E 67), (1, .int x1), (2, .int x2), (3, .int x3), (4, .int x4), (5, .int x5), (6, .int x6), (7, .int x7)] [] σ (k46 x1 x2 x3 x4 x5 x6 x7 σ)) (x1 : Int32) (x2 : Int32) (x3 : Int32) (x4 : Int32) (x5 : Int32) (x6 : Int32) (x7 : Int32) (xs0 : Int32)  (σ : k_Mem) : k_GO m_X7_forge E k_vi 111 [(0, k_rf E 67), (1, .int x1), (2, .int x2), (3, .int x3), (4, .int x4), (5, .int x5), (6, .int x6), (7, .int x7)] [.int xs0] σ (j_X7_forge_111  k46 x1 x2 x3 x4 x5 x6 x7 xs0 σ) := by
  unfold j_X7_forge_111
  refine r_istore [(8, .int _), (0, k_rf E 67), (1, .int _), (2, .int _), (3, .int _), (4, .int _), (5, .int _), (6, .int _), (7, .int _)] rfl (by decide) 113 rfl dX7_forge_111 ?_
  refine r_iload 0 rfl 115 rfl dX7_forge_113 ?_
  refine r_iload 6 rfl 117 rfl dX7_forge_115 ?_
  refine r_icmp_le 125 120 rfl (by decide) dX7_forge_117 (fun c11 => ?_) (fun c11 => ?_)
  · refine r_iload 5 rfl 127 rfl dX7_forge_125 ?_
    exact r_sub [1, 2, 3, 4, 6, 7, 8, 0] rfl (gj_X7_forge_127 E   _ hk46 _ _ _ _ _ _ _ _  _)
  · refine r_iload 8 rfl 122 rfl dX7_forge_120 ?_
    refine r_goto 127 (by decide) dX7_forge_122 ?_
    exact r_sub [1, 2, 3, 4, 6, 7, 8, 0] rfl (gj_X7_forge_127 E   _ hk46 _ _ _ _ _ _ _ _  _)
def l_X7_forge_46   : Nat → Int32 → Int32 → Int32 → Int32 → Int32 → Int32 → Int32 → k_Mem → Option (Int32 × k_Mem)
  | 0, _, _, _, _, _, _, _, _ => none
  | n + 1, x1, x2, x3, x4, x5, x6, x7, σ =>
    if 8 ≤ x7 then (
      if k_in (32 + x1) 250 then (
        if x2 = 0 then (
          some (x4, (k_mset σ 68 (k_n (32 + x1)) x3))
        ) else (
          some (x6, (k_mset σ 68 (k_n (32 + x1)) x3))
        )
      ) else none
    ) else (
      k_bd (f_X7_isHand  x7 σ) (fun r7 σ7 =>
        if r7 = 0 then (
          j_X7_forge_165  (fun x1 x2 x3 x4 x5 x6 x7 σ => l_X7_forge_46   n x1 x2 x3 x4 x5 x6 x7 σ) x1 x2 x3 x4 x5 x6 x7 σ7
        ) else (
          if k_in (32 + x1) 250 then (
            k_bd (f_X7_askingNow  0 (k_mset σ7 68 (k_n (32 + x1)) (x7 - x1))) (fun _ σ9 =>
              if k_in x1 8 then (
                if (σ9 74 (k_n x1)) = (-4) then (
                  j_X7_forge_111  (fun x1 x2 x3 x4 x5 x6 x7 σ => l_X7_forge_46   n x1 x2 x3 x4 x5 x6 x7 σ) x1 x2 x3 x4 x5 x6 x7 (-1) σ9
                ) else (
                  if k_in x1 8 then (
                    if k_in ((8 * x1) + (σ9 74 (k_n x1))) 64 then (
                      j_X7_forge_111  (fun x1 x2 x3 x4 x5 x6 x7 σ => l_X7_forge_46   n x1 x2 x3 x4 x5 x6 x7 σ) x1 x2 x3 x4 x5 x6 x7 (σ9 73 (k_n ((8 * x1) + (σ9 74 (k_n x1))))) σ9
                    ) else none
                  ) else none
                )
              ) else none
            )
          ) else none
        )
      )
    )
set_option maxRecDepth 100000 in
theorem gl_X7_forge_46 (E : k_EV)     : ∀ (n : Nat) (x1 : Int32) (x2 : Int32) (x3 : Int32) (x4 : Int32) (x5 : Int32) (x6 : Int32) (x7 : Int32)  (σ : k_Mem), k_GO m_X7_forge E k_vi 46 [(0, k_rf E 67), (1, .int x1), (2, .int x2), (3, .int x3), (4, .int x4), (5, .int x5), (6, .int x6), (7, .int x7)] [] σ (l_X7_forge_46   n x1 x2 x3 x4 x5 x6 x7 σ) := by
  intro n
  induction n with
  | zero => intro x1 x2 x3 x4 x5 x6 x7  σ; exact r_none
  | succ n ih =>
    intro x1 x2 x3 x4 x5 x6 x7  σ
    rw [l_X7_forge_46]
    refine r_iload 7 rfl 48 rfl dX7_forge_46 ?_
    refine r_bipush 8 (by decide) 50 rfl dX7_forge_48 ?_
    refine r_icmp_ge 171 53 rfl (by decide) dX7_forge_50 (fun c5 => ?_) (fun c5 => ?_)
    · refine r_aload_n 0 rfl rfl 172 rfl dX7_forge_171 ?_
      refine r_getr fl_X7_7 sh_67 rfl 175 rfl dX7_forge_172 ?_
      refine r_bipush 32 (by decide) 177 rfl dX7_forge_175 ?_
      refine r_iload_n 1 rfl rfl 178 rfl dX7_forge_177 ?_
      refine r_iadd 179 rfl dX7_forge_178 ?_
      refine r_iload_n 3 rfl rfl 180 rfl dX7_forge_179 ?_
      refine r_iast sh_68 181 rfl dX7_forge_180 ?_
      refine r_iload_n 2 rfl rfl 182 rfl dX7_forge_181 ?_
      refine r_if_ne 190 185 rfl (by decide) dX7_forge_182 (fun c6 => ?_) (fun c6 => ?_)
      · refine r_iload 4 rfl 187 rfl dX7_forge_185 ?_
        refine r_goto 192 (by decide) dX7_forge_187 ?_
        exact r_iret rfl dX7_forge_192
      · refine r_iload 6 rfl 192 rfl dX7_forge_190 ?_
        exact r_iret rfl dX7_forge_192
    · refine r_aload_n 0 rfl rfl 54 rfl dX7_forge_53 ?_
      refine r_iload 7 rfl 56 rfl dX7_forge_54 ?_
      refine r_calli (c_X7_isHand E   _ _) rfl sh_67 rfl ml_X7_158 cw_X7_isHand vw_X7_isHand (by decide) (Nat.le_of_ble_eq_true rfl) 59 rfl dX7_forge_56 (fun r7 σ7 => ?_)
      refine r_if_eq 165 62 rfl (by decide) dX7_forge_59 (fun c8 => ?_) (fun c8 => ?_)
      · exact r_sub [0, 1, 2, 3, 4, 5, 6, 7] rfl (gj_X7_forge_165 E   _ (fun x1 x2 x3 x4 x5 x6 x7  σ => ih x1 x2 x3 x4 x5 x6 x7  σ) _ _ _ _ _ _ _  _)
      · refine r_aload_n 0 rfl rfl 63 rfl dX7_forge_62 ?_
        refine r_getr fl_X7_7 sh_67 rfl 66 rfl dX7_forge_63 ?_
        refine r_bipush 32 (by decide) 68 rfl dX7_forge_66 ?_
        refine r_iload_n 1 rfl rfl 69 rfl dX7_forge_68 ?_
        refine r_iadd 70 rfl dX7_forge_69 ?_
        refine r_iload 7 rfl 72 rfl dX7_forge_70 ?_
        refine r_iload_n 1 rfl rfl 73 rfl dX7_forge_72 ?_
        refine r_isub 74 rfl dX7_forge_73 ?_
        refine r_iast sh_68 75 rfl dX7_forge_74 ?_
        refine r_aload_n 0 rfl rfl 76 rfl dX7_forge_75 ?_
        refine r_iconst 0 (by decide) 77 rfl dX7_forge_76 ?_
        refine r_callv (c_X7_askingNow E   _ _) rfl sh_67 rfl ml_X7_225 cw_X7_askingNow vw_X7_askingNow (by decide) (Nat.le_of_ble_eq_true rfl) 80 rfl dX7_forge_77 (fun _ σ9 => ?_)
        refine r_aload_n 0 rfl rfl 81 rfl dX7_forge_80 ?_
        refine r_getr fl_X7_28 sh_67 rfl 84 rfl dX7_forge_81 ?_
        refine r_iload_n 1 rfl rfl 85 rfl dX7_forge_84 ?_
        refine r_iald sh_74 86 rfl dX7_forge_85 ?_
        refine r_bipush (-4) (by decide) 88 rfl dX7_forge_86 ?_
        refine r_icmp_ne 95 91 rfl (by decide) dX7_forge_88 (fun c10 => ?_) (fun c10 => ?_)
        · refine r_iconst (-1) (by decide) 92 rfl dX7_forge_91 ?_
          refine r_goto 111 (by decide) dX7_forge_92 ?_
          exact r_sub [0, 1, 2, 3, 4, 5, 6, 7] rfl (gj_X7_forge_111 E   _ (fun x1 x2 x3 x4 x5 x6 x7  σ => ih x1 x2 x3 x4 x5 x6 x7  σ) _ _ _ _ _ _ _ _  _)
        · refine r_aload_n 0 rfl rfl 96 rfl dX7_forge_95 ?_
          refine r_getr fl_X7_25 sh_67 rfl 99 rfl dX7_forge_96 ?_
          refine r_bipush 8 (by decide) 101 rfl dX7_forge_99 ?_
          refine r_iload_n 1 rfl rfl 102 rfl dX7_forge_101 ?_
          refine r_imul 103 rfl dX7_forge_102 ?_
          refine r_aload_n 0 rfl rfl 104 rfl dX7_forge_103 ?_
          refine r_getr fl_X7_28 sh_67 rfl 107 rfl dX7_forge_104 ?_
          refine r_iload_n 1 rfl rfl 108 rfl dX7_forge_107 ?_
          refine r_iald sh_74 109 rfl dX7_forge_108 ?_
          refine r_iadd 110 rfl dX7_forge_109 ?_
          refine r_iald sh_73 111 rfl dX7_forge_110 ?_
          exact r_sub [0, 1, 2, 3, 4, 5, 6, 7] rfl (gj_X7_forge_111 E   _ (fun x1 x2 x3 x4 x5 x6 x7  σ => ih x1 x2 x3 x4 x5 x6 x7  σ) _ _ _ _ _ _ _ _  _)
def f_X7_forge  (x1 : Int32) (x2 : Int32) (σ : k_Mem) : Option (Int32 × k_Mem) :=
  k_bd (f_X7_isHand  x1 σ) (fun r1 σ1 =>
    if r1 = 0 then (
      some ((-1), σ1)
    ) else (
      k_bd (f_X7_in  (Int32.toInt64 x2) 0 1 σ1) (fun r3 σ3 =>
        if r3 = 0 then (
          some ((-1), σ3)
        ) else (
          if k_in (32 + x1) 250 then (
            l_X7_forge_46   1000 x1 x2 (σ3 68 (k_n (32 + x1))) 1000000 (-2) (-4) 0 σ3
          ) else none
        )
      )
    )
  )
set_option maxRecDepth 100000 in
theorem c_X7_forge (E : k_EV)   (x1 : Int32) (x2 : Int32) (σ : k_Mem) : k_MC m_X7_forge E k_vi [k_rf E 67, .int x1, .int x2] σ (f_X7_forge x1 x2 σ) := by
  refine k_MC_of ⟨by decide, by decide⟩ (Nat.le_of_ble_eq_true rfl) ?_
  show k_GO _ _ _ 0 [(0, k_rf E 67), (1, .int x1), (2, .int x2)] [] σ _
  unfold f_X7_forge
  refine r_aload_n 0 rfl rfl 1 rfl dX7_forge_0 ?_
  refine r_iload_n 1 rfl rfl 2 rfl dX7_forge_1 ?_
  refine r_calli (c_X7_isHand E   _ _) rfl sh_67 rfl ml_X7_158 cw_X7_isHand vw_X7_isHand (by decide) (Nat.le_of_ble_eq_true rfl) 5 rfl dX7_forge_2 (fun r1 σ1 => ?_)
  refine r_if_eq 18 8 rfl (by decide) dX7_forge_5 (fun c2 => ?_) (fun c2 => ?_)
  · refine r_iconst (-1) (by decide) 19 rfl dX7_forge_18 ?_
    exact r_iret rfl dX7_forge_19
  · refine r_iload_n 2 rfl rfl 9 rfl dX7_forge_8 ?_
    refine r_i2l 10 rfl dX7_forge_9 ?_
    refine r_lconst 0 (by decide) 11 rfl dX7_forge_10 ?_
    refine r_lconst 1 (by decide) 12 rfl dX7_forge_11 ?_
    refine r_callsi (c_X7_in E   _ _ _ _) rfl ml_X7_58 cw_X7_in sw_X7_in (by decide) (Nat.le_of_ble_eq_true rfl) 15 rfl dX7_forge_12 (fun r3 σ3 => ?_)
    refine r_if_ne 20 18 rfl (by decide) dX7_forge_15 (fun c4 => ?_) (fun c4 => ?_)
    · refine r_iconst (-1) (by decide) 19 rfl dX7_forge_18 ?_
      exact r_iret rfl dX7_forge_19
    · refine r_aload_n 0 rfl rfl 21 rfl dX7_forge_20 ?_
      refine r_getr fl_X7_7 sh_67 rfl 24 rfl dX7_forge_21 ?_
      refine r_bipush 32 (by decide) 26 rfl dX7_forge_24 ?_
      refine r_iload_n 1 rfl rfl 27 rfl dX7_forge_26 ?_
      refine r_iadd 28 rfl dX7_forge_27 ?_
      refine r_iald sh_68 29 rfl dX7_forge_28 ?_
      refine r_istore_n [(3, .int _), (0, k_rf E 67), (1, .int _), (2, .int _)] rfl rfl (by decide) 30 rfl dX7_forge_29 ?_
      refine r_ldcw cs_X7_261 33 rfl dX7_forge_30 ?_
      refine r_istore [(4, .int _), (3, .int _), (0, k_rf E 67), (1, .int _), (2, .int _)] rfl (by decide) 35 rfl dX7_forge_33 ?_
      refine r_bipush (-2) (by decide) 37 rfl dX7_forge_35 ?_
      refine r_istore [(5, .int _), (4, .int _), (3, .int _), (0, k_rf E 67), (1, .int _), (2, .int _)] rfl (by decide) 39 rfl dX7_forge_37 ?_
      refine r_bipush (-4) (by decide) 41 rfl dX7_forge_39 ?_
      refine r_istore [(6, .int _), (5, .int _), (4, .int _), (3, .int _), (0, k_rf E 67), (1, .int _), (2, .int _)] rfl (by decide) 43 rfl dX7_forge_41 ?_
      refine r_iconst 0 (by decide) 44 rfl dX7_forge_43 ?_
      refine r_istore [(7, .int _), (6, .int _), (5, .int _), (4, .int _), (3, .int _), (0, k_rf E 67), (1, .int _), (2, .int _)] rfl (by decide) 46 rfl dX7_forge_44 ?_
      exact r_sub [5, 6, 7, 4, 3, 2, 1, 0] rfl (gl_X7_forge_46 E     1000 _ _ _ _ _ _ _  _)
/-! HandMarketModel.swap(I)I -/
def j_X7_swap_185  (k28 : Int32 → Int32 → Int32 → Int32 → k_Mem → Option (Int32 × k_Mem)) (k41 : Int32 → Int32 → Int32 → Int32 → Int32 → k_Mem → Option (Int32 × k_Mem)) (x1 : Int32) (x2 : Int32) (x3 : Int32) (x4 : Int32) (x5 : Int32) (σ : k_Mem) : Option (Int32 × k_Mem) :=
  k41 x1 x2 x3 x4 (x5 + 1) σ
set_option maxRecDepth 100000 in
theorem gj_X7_swap_185 (E : k_EV)   (k28 : Int32 → Int32 → Int32 → Int32 → k_Mem → Option (Int32 × k_Mem)) (k41 : Int32 → Int32 → Int32 → Int32 → Int32 → k_Mem → Option (Int32 × k_Mem)) (hk28 : ∀ (x1 : Int32) (x2 : Int32) (x3 : Int32) (x4 : Int32)  (σ : k_Mem), k_GO m_X7_swap E k_vi 28 [(0, k_rf E 67), (1, .int x1), (2, .int x2), (3, .int x3), (4, .int x4)] [] σ (k28 x1 x2 x3 x4 σ)) (hk41 : ∀ (x1 : Int32) (x2 : Int32) (x3 : Int32) (x4 : Int32) (x5 : Int32)  (σ : k_Mem), k_GO m_X7_swap E k_vi 41 [(0, k_rf E 67), (1, .int x1), (2, .int x2), (3, .int x3), (4, .int x4), (5, .int x5)] [] σ (k41 x1 x2 x3 x4 x5 σ)) (x1 : Int32) (x2 : Int32) (x3 : Int32) (x4 : Int32) (x5 : Int32)  (σ : k_Mem) : k_GO m_X7_swap E k_vi 185 [(0, k_rf E 67), (1, .int x1), (2, .int x2), (3, .int x3), (4, .int x4), (5, .int x5)] [] σ (j_X7_swap_185  k28 k41 x1 x2 x3 x4 x5 σ) := by
  unfold j_X7_swap_185
  refine r_iinc 1 (by decide) 5 rfl [(5, .int _), (0, k_rf E 67), (1, .int _), (2, .int _), (3, .int _), (4, .int _)] rfl (by decide) 188 rfl dX7_swap_185 ?_
  refine r_goto 41 (by decide) dX7_swap_188 ?_
  exact r_sub [1, 2, 3, 4, 5, 0] rfl (hk41 _ _ _ _ _  _)
def j_X7_swap_184  (k28 : Int32 → Int32 → Int32 → Int32 → k_Mem → Option (Int32 × k_Mem)) (k41 : Int32 → Int32 → Int32 → Int32 → Int32 → k_Mem → Option (Int32 × k_Mem)) (x1 : Int32) (x3 : Int32) (x4 : Int32) (x5 : Int32) (xs0 : Int32) (σ : k_Mem) : Option (Int32 × k_Mem) :=
  j_X7_swap_185  k28 k41 x1 xs0 x3 x4 x5 σ
set_option maxRecDepth 100000 in
theorem gj_X7_swap_184 (E : k_EV)   (k28 : Int32 → Int32 → Int32 → Int32 → k_Mem → Option (Int32 × k_Mem)) (k41 : Int32 → Int32 → Int32 → Int32 → Int32 → k_Mem → Option (Int32 × k_Mem)) (hk28 : ∀ (x1 : Int32) (x2 : Int32) (x3 : Int32) (x4 : Int32)  (σ : k_Mem), k_GO m_X7_swap E k_vi 28 [(0, k_rf E 67), (1, .int x1), (2, .int x2), (3, .int x3), (4, .int x4)] [] σ (k28 x1 x2 x3 x4 σ)) (hk41 : ∀ (x1 : Int32) (x2 : Int32) (x3 : Int32) (x4 : Int32) (x5 : Int32)  (σ : k_Mem), k_GO m_X7_swap E k_vi 41 [(0, k_rf E 67), (1, .int x1), (2, .int x2), (3, .int x3), (4, .int x4), (5, .int x5)] [] σ (k41 x1 x2 x3 x4 x5 σ)) (x1 : Int32) (x3 : Int32) (x4 : Int32) (x5 : Int32) (xs0 : Int32)  (σ : k_Mem) : k_GO m_X7_swap E k_vi 184 [(0, k_rf E 67), (1, .int x1), (3, .int x3), (4, .int x4), (5, .int x5)] [.int xs0] σ (j_X7_swap_184  k28 k41 x1 x3 x4 x5 xs0 σ) := by
  unfold j_X7_swap_184
  refine r_istore_n [(2, .int _), (0, k_rf E 67), (1, .int _), (3, .int _), (4, .int _), (5, .int _)] rfl rfl (by decide) 185 rfl dX7_swap_184 ?_
  exact r_sub [1, 2, 0, 3, 4, 5] rfl (gj_X7_swap_185 E   _ _ hk28 hk41 _ _ _ _ _  _)
def j_X7_swap_171  (k28 : Int32 → Int32 → Int32 → Int32 → k_Mem → Option (Int32 × k_Mem)) (k41 : Int32 → Int32 → Int32 → Int32 → Int32 → k_Mem → Option (Int32 × k_Mem)) (x1 : Int32) (x2 : Int32) (x4 : Int32) (x5 : Int32) (x8 : Int32) (xs0 : Int32) (σ : k_Mem) : Option (Int32 × k_Mem) :=
  if x8 ≤ x2 then (
    j_X7_swap_184  k28 k41 x1 xs0 x4 x5 x2 σ
  ) else (
    j_X7_swap_184  k28 k41 x1 xs0 x4 x5 x8 σ
  )
set_option maxRecDepth 100000 in
theorem gj_X7_swap_171 (E : k_EV)   (k28 : Int32 → Int32 → Int32 → Int32 → k_Mem → Option (Int32 × k_Mem)) (k41 : Int32 → Int32 → Int32 → Int32 → Int32 → k_Mem → Option (Int32 × k_Mem)) (hk28 : ∀ (x1 : Int32) (x2 : Int32) (x3 : Int32) (x4 : Int32)  (σ : k_Mem), k_GO m_X7_swap E k_vi 28 [(0, k_rf E 67), (1, .int x1), (2, .int x2), (3, .int x3), (4, .int x4)] [] σ (k28 x1 x2 x3 x4 σ)) (hk41 : ∀ (x1 : Int32) (x2 : Int32) (x3 : Int32) (x4 : Int32) (x5 : Int32)  (σ : k_Mem), k_GO m_X7_swap E k_vi 41 [(0, k_rf E 67), (1, .int x1), (2, .int x2), (3, .int x3), (4, .int x4), (5, .int x5)] [] σ (k41 x1 x2 x3 x4 x5 σ)) (x1 : Int32) (x2 : Int32) (x4 : Int32) (x5 : Int32) (x8 : Int32) (xs0 : Int32)  (σ : k_Mem) : k_GO m_X7_swap E k_vi 171 [(0, k_rf E 67), (1, .int x1), (2, .int x2), (4, .int x4), (5, .int x5), (8, .int x8)] [.int xs0] σ (j_X7_swap_171  k28 k41 x1 x2 x4 x5 x8 xs0 σ) := by
  unfold j_X7_swap_171
  refine r_istore_n [(3, .int _), (0, k_rf E 67), (1, .int _), (2, .int _), (4, .int _), (5, .int _), (8, .int _)] rfl rfl (by decide) 172 rfl dX7_swap_171 ?_
  refine r_iload 6 rfl 174 rfl dX7_swap_172 ?_
  refine r_iload_n 3 rfl rfl 175 rfl dX7_swap_174 ?_
  refine r_icmp_le 183 178 rfl (by decide) dX7_swap_175 (fun c18 => ?_) (fun c18 => ?_)
  · refine r_iload_n 3 rfl rfl 184 rfl dX7_swap_183 ?_
    exact r_sub [1, 2, 0, 4, 5] rfl (gj_X7_swap_184 E   _ _ hk28 hk41 _ _ _ _ _  _)
  · refine r_iload 6 rfl 180 rfl dX7_swap_178 ?_
    refine r_goto 184 (by decide) dX7_swap_180 ?_
    exact r_sub [1, 2, 0, 4, 5] rfl (gj_X7_swap_184 E   _ _ hk28 hk41 _ _ _ _ _  _)
def l_X7_swap_41  (k28 : Int32 → Int32 → Int32 → Int32 → k_Mem → Option (Int32 × k_Mem)) : Nat → Int32 → Int32 → Int32 → Int32 → Int32 → k_Mem → Option (Int32 × k_Mem)
  | 0, _, _, _, _, _, _ => none
  | n + 1, x1, x2, x3, x4, x5, σ =>
    if 8 ≤ x5 then (
      k28 x1 x2 x3 (x4 + 1) σ
    ) else (
      k_bd (f_X7_isHand  x4 σ) (fun r9 σ9 =>
        if r9 = 0 then (
          j_X7_swap_185  k28 (fun x1 x2 x3 x4 x5 σ => l_X7_swap_41  k28 n x1 x2 x3 x4 x5 σ) x1 x2 x3 x4 x5 σ9
        ) else (
          k_bd (f_X7_isHand  x5 σ9) (fun r11 σ11 =>
            if r11 = 0 then (
              j_X7_swap_185  k28 (fun x1 x2 x3 x4 x5 σ => l_X7_swap_41  k28 n x1 x2 x3 x4 x5 σ) x1 x2 x3 x4 x5 σ11
            ) else (
              k_bd (f_X7_penOf  x4 σ11) (fun r13 σ13 =>
                k_bd (f_X7_penOf  x5 σ13) (fun r14 σ14 =>
                  if k_in (32 + x4) 250 then (
                    if k_in (32 + x5) 250 then (
                      k_bd (f_X7_askingNow  0 (k_mset (k_mset σ14 68 (k_n (32 + x4)) (r14 - x4)) 68 (k_n (32 + x5)) (r13 - x5))) (fun _ σ15 =>
                        if k_in (32 + x4) 250 then (
                          if k_in (32 + x5) 250 then (
                            k_bd (f_X7_likesInAll   (k_mset (k_mset σ15 68 (k_n (32 + x4)) (r13 - x4)) 68 (k_n (32 + x5)) (r14 - x5))) (fun r16 σ16 =>
                              if r16 ≤ x2 then (
                                j_X7_swap_171  k28 (fun x1 x2 x3 x4 x5 σ => l_X7_swap_41  k28 n x1 x2 x3 x4 x5 σ) x1 x2 x4 x5 r16 x3 σ16
                              ) else (
                                j_X7_swap_171  k28 (fun x1 x2 x3 x4 x5 σ => l_X7_swap_41  k28 n x1 x2 x3 x4 x5 σ) x1 x2 x4 x5 r16 ((10 * x4) + x5) σ16
                              )
                            )
                          ) else none
                        ) else none
                      )
                    ) else none
                  ) else none
                )
              )
            )
          )
        )
      )
    )
set_option maxRecDepth 100000 in
theorem gl_X7_swap_41 (E : k_EV)   (k28 : Int32 → Int32 → Int32 → Int32 → k_Mem → Option (Int32 × k_Mem)) (hk28 : ∀ (x1 : Int32) (x2 : Int32) (x3 : Int32) (x4 : Int32)  (σ : k_Mem), k_GO m_X7_swap E k_vi 28 [(0, k_rf E 67), (1, .int x1), (2, .int x2), (3, .int x3), (4, .int x4)] [] σ (k28 x1 x2 x3 x4 σ)) : ∀ (n : Nat) (x1 : Int32) (x2 : Int32) (x3 : Int32) (x4 : Int32) (x5 : Int32)  (σ : k_Mem), k_GO m_X7_swap E k_vi 41 [(0, k_rf E 67), (1, .int x1), (2, .int x2), (3, .int x3), (4, .int x4), (5, .int x5)] [] σ (l_X7_swap_41  k28 n x1 x2 x3 x4 x5 σ) := by
  intro n
  induction n with
  | zero => intro x1 x2 x3 x4 x5  σ; exact r_none
  | succ n ih =>
    intro x1 x2 x3 x4 x5  σ
    rw [l_X7_swap_41]
    refine r_iload 5 rfl 43 rfl dX7_swap_41 ?_
    refine r_bipush 8 (by decide) 45 rfl dX7_swap_43 ?_
    refine r_icmp_ge 191 48 rfl (by decide) dX7_swap_45 (fun c8 => ?_) (fun c8 => ?_)
    · refine r_iinc 1 (by decide) 4 rfl [(4, .int _), (0, k_rf E 67), (1, .int _), (2, .int _), (3, .int _), (5, .int _)] rfl (by decide) 194 rfl dX7_swap_191 ?_
      refine r_goto 28 (by decide) dX7_swap_194 ?_
      exact r_sub [1, 2, 3, 4, 0] rfl (hk28 _ _ _ _  _)
    · refine r_aload_n 0 rfl rfl 49 rfl dX7_swap_48 ?_
      refine r_iload 4 rfl 51 rfl dX7_swap_49 ?_
      refine r_calli (c_X7_isHand E   _ _) rfl sh_67 rfl ml_X7_158 cw_X7_isHand vw_X7_isHand (by decide) (Nat.le_of_ble_eq_true rfl) 54 rfl dX7_swap_51 (fun r9 σ9 => ?_)
      refine r_if_eq 185 57 rfl (by decide) dX7_swap_54 (fun c10 => ?_) (fun c10 => ?_)
      · exact r_sub [0, 1, 2, 3, 4, 5] rfl (gj_X7_swap_185 E   _ _ hk28 (fun x1 x2 x3 x4 x5  σ => ih x1 x2 x3 x4 x5  σ) _ _ _ _ _  _)
      · refine r_aload_n 0 rfl rfl 58 rfl dX7_swap_57 ?_
        refine r_iload 5 rfl 60 rfl dX7_swap_58 ?_
        refine r_calli (c_X7_isHand E   _ _) rfl sh_67 rfl ml_X7_158 cw_X7_isHand vw_X7_isHand (by decide) (Nat.le_of_ble_eq_true rfl) 63 rfl dX7_swap_60 (fun r11 σ11 => ?_)
        refine r_if_eq 185 66 rfl (by decide) dX7_swap_63 (fun c12 => ?_) (fun c12 => ?_)
        · exact r_sub [0, 1, 2, 3, 4, 5] rfl (gj_X7_swap_185 E   _ _ hk28 (fun x1 x2 x3 x4 x5  σ => ih x1 x2 x3 x4 x5  σ) _ _ _ _ _  _)
        · refine r_aload_n 0 rfl rfl 67 rfl dX7_swap_66 ?_
          refine r_iload 4 rfl 69 rfl dX7_swap_67 ?_
          refine r_calli (c_X7_penOf E   _ _) rfl sh_67 rfl ml_X7_172 cw_X7_penOf vw_X7_penOf (by decide) (Nat.le_of_ble_eq_true rfl) 72 rfl dX7_swap_69 (fun r13 σ13 => ?_)
          refine r_istore [(6, .int _), (0, k_rf E 67), (1, .int _), (2, .int _), (3, .int _), (4, .int _), (5, .int _)] rfl (by decide) 74 rfl dX7_swap_72 ?_
          refine r_aload_n 1 rfl rfl 75 rfl dX7_swap_74 ?_
          refine r_iload 6 rfl 77 rfl dX7_swap_75 ?_
          refine r_calli (c_X7_penOf E   _ _) rfl sh_67 rfl ml_X7_172 cw_X7_penOf vw_X7_penOf (by decide) (Nat.le_of_ble_eq_true rfl) 80 rfl dX7_swap_77 (fun r14 σ14 => ?_)
          refine r_istore [(7, .int _), (6, .int _), (0, k_rf E 67), (1, .int _), (2, .int _), (3, .int _), (4, .int _), (5, .int _)] rfl (by decide) 82 rfl dX7_swap_80 ?_
          refine r_aload_n 2 rfl rfl 83 rfl dX7_swap_82 ?_
          refine r_getr fl_X7_7 sh_67 rfl 86 rfl dX7_swap_83 ?_
          refine r_bipush 32 (by decide) 88 rfl dX7_swap_86 ?_
          refine r_iload 6 rfl 90 rfl dX7_swap_88 ?_
          refine r_iadd 91 rfl dX7_swap_90 ?_
          refine r_iload 0 rfl 93 rfl dX7_swap_91 ?_
          refine r_iload 6 rfl 95 rfl dX7_swap_93 ?_
          refine r_isub 96 rfl dX7_swap_95 ?_
          refine r_iast sh_68 97 rfl dX7_swap_96 ?_
          refine r_aload_n 2 rfl rfl 98 rfl dX7_swap_97 ?_
          refine r_getr fl_X7_7 sh_67 rfl 101 rfl dX7_swap_98 ?_
          refine r_bipush 32 (by decide) 103 rfl dX7_swap_101 ?_
          refine r_iload 7 rfl 105 rfl dX7_swap_103 ?_
          refine r_iadd 106 rfl dX7_swap_105 ?_
          refine r_iload 1 rfl 108 rfl dX7_swap_106 ?_
          refine r_iload 7 rfl 110 rfl dX7_swap_108 ?_
          refine r_isub 111 rfl dX7_swap_110 ?_
          refine r_iast sh_68 112 rfl dX7_swap_111 ?_
          refine r_aload_n 2 rfl rfl 113 rfl dX7_swap_112 ?_
          refine r_iconst 0 (by decide) 114 rfl dX7_swap_113 ?_
          refine r_callv (c_X7_askingNow E   _ _) rfl sh_67 rfl ml_X7_225 cw_X7_askingNow vw_X7_askingNow (by decide) (Nat.le_of_ble_eq_true rfl) 117 rfl dX7_swap_114 (fun _ σ15 => ?_)
          refine r_aload_n 2 rfl rfl 118 rfl dX7_swap_117 ?_
          refine r_getr fl_X7_7 sh_67 rfl 121 rfl dX7_swap_118 ?_
          refine r_bipush 32 (by decide) 123 rfl dX7_swap_121 ?_
          refine r_iload 6 rfl 125 rfl dX7_swap_123 ?_
          refine r_iadd 126 rfl dX7_swap_125 ?_
          refine r_iload 1 rfl 128 rfl dX7_swap_126 ?_
          refine r_iload 6 rfl 130 rfl dX7_swap_128 ?_
          refine r_isub 131 rfl dX7_swap_130 ?_
          refine r_iast sh_68 132 rfl dX7_swap_131 ?_
          refine r_aload_n 2 rfl rfl 133 rfl dX7_swap_132 ?_
          refine r_getr fl_X7_7 sh_67 rfl 136 rfl dX7_swap_133 ?_
          refine r_bipush 32 (by decide) 138 rfl dX7_swap_136 ?_
          refine r_iload 7 rfl 140 rfl dX7_swap_138 ?_
          refine r_iadd 141 rfl dX7_swap_140 ?_
          refine r_iload 0 rfl 143 rfl dX7_swap_141 ?_
          refine r_iload 7 rfl 145 rfl dX7_swap_143 ?_
          refine r_isub 146 rfl dX7_swap_145 ?_
          refine r_iast sh_68 147 rfl dX7_swap_146 ?_
          refine r_aload_n 2 rfl rfl 148 rfl dX7_swap_147 ?_
          refine r_calli (c_X7_likesInAll E    _) rfl sh_67 rfl ml_X7_231 cw_X7_likesInAll vw_X7_likesInAll (by decide) (Nat.le_of_ble_eq_true rfl) 151 rfl dX7_swap_148 (fun r16 σ16 => ?_)
          refine r_istore [(8, .int _), (7, .int _), (6, .int _), (0, k_rf E 67), (1, .int _), (2, .int _), (3, .int _), (4, .int _), (5, .int _)] rfl (by decide) 153 rfl dX7_swap_151 ?_
          refine r_iload 0 rfl 155 rfl dX7_swap_153 ?_
          refine r_iload_n 5 rfl rfl 156 rfl dX7_swap_155 ?_
          refine r_icmp_le 170 159 rfl (by decide) dX7_swap_156 (fun c17 => ?_) (fun c17 => ?_)
          · refine r_iload_n 6 rfl rfl 171 rfl dX7_swap_170 ?_
            exact r_sub [3, 4, 5, 7, 8, 0] rfl (gj_X7_swap_171 E   _ _ hk28 (fun x1 x2 x3 x4 x5  σ => ih x1 x2 x3 x4 x5  σ) _ _ _ _ _ _  _)
          · refine r_bipush 10 (by decide) 161 rfl dX7_swap_159 ?_
            refine r_iload 7 rfl 163 rfl dX7_swap_161 ?_
            refine r_imul 164 rfl dX7_swap_163 ?_
            refine r_iload 8 rfl 166 rfl dX7_swap_164 ?_
            refine r_iadd 167 rfl dX7_swap_166 ?_
            refine r_goto 171 (by decide) dX7_swap_167 ?_
            exact r_sub [3, 4, 5, 7, 8, 0] rfl (gj_X7_swap_171 E   _ _ hk28 (fun x1 x2 x3 x4 x5  σ => ih x1 x2 x3 x4 x5  σ) _ _ _ _ _ _  _)
def l_X7_swap_28   : Nat → Int32 → Int32 → Int32 → Int32 → k_Mem → Option (Int32 × k_Mem)
  | 0, _, _, _, _, _ => none
  | n + 1, x1, x2, x3, x4, σ =>
    if 8 ≤ x4 then (
      if x3 = (-4) then (
        some (x3, σ)
      ) else (
        if x1 = 0 then (
          some (x3, σ)
        ) else (
          some (x2, σ)
        )
      )
    ) else (
      l_X7_swap_41  (fun x1 x2 x3 x4 σ => l_X7_swap_28   n x1 x2 x3 x4 σ) 1000 x1 x2 x3 x4 (x4 + 1) σ
    )
set_option maxRecDepth 100000 in
theorem gl_X7_swap_28 (E : k_EV)     : ∀ (n : Nat) (x1 : Int32) (x2 : Int32) (x3 : Int32) (x4 : Int32)  (σ : k_Mem), k_GO m_X7_swap E k_vi 28 [(0, k_rf E 67), (1, .int x1), (2, .int x2), (3, .int x3), (4, .int x4)] [] σ (l_X7_swap_28   n x1 x2 x3 x4 σ) := by
  intro n
  induction n with
  | zero => intro x1 x2 x3 x4  σ; exact r_none
  | succ n ih =>
    intro x1 x2 x3 x4  σ
    rw [l_X7_swap_28]
    refine r_iload 4 rfl 30 rfl dX7_swap_28 ?_
    refine r_bipush 8 (by decide) 32 rfl dX7_swap_30 ?_
    refine r_icmp_ge 197 35 rfl (by decide) dX7_swap_32 (fun c5 => ?_) (fun c5 => ?_)
    · refine r_iload_n 3 rfl rfl 198 rfl dX7_swap_197 ?_
      refine r_bipush (-4) (by decide) 200 rfl dX7_swap_198 ?_
      refine r_icmp_eq 207 203 rfl (by decide) dX7_swap_200 (fun c6 => ?_) (fun c6 => ?_)
      · refine r_iload_n 3 rfl rfl 208 rfl dX7_swap_207 ?_
        refine r_goto 212 (by decide) dX7_swap_208 ?_
        exact r_iret rfl dX7_swap_212
      · refine r_iload_n 1 rfl rfl 204 rfl dX7_swap_203 ?_
        refine r_if_ne 211 207 rfl (by decide) dX7_swap_204 (fun c7 => ?_) (fun c7 => ?_)
        · refine r_iload_n 3 rfl rfl 208 rfl dX7_swap_207 ?_
          refine r_goto 212 (by decide) dX7_swap_208 ?_
          exact r_iret rfl dX7_swap_212
        · refine r_iload_n 2 rfl rfl 212 rfl dX7_swap_211 ?_
          exact r_iret rfl dX7_swap_212
    · refine r_iload 4 rfl 37 rfl dX7_swap_35 ?_
      refine r_iconst 1 (by decide) 38 rfl dX7_swap_37 ?_
      refine r_iadd 39 rfl dX7_swap_38 ?_
      refine r_istore [(5, .int _), (0, k_rf E 67), (1, .int _), (2, .int _), (3, .int _), (4, .int _)] rfl (by decide) 41 rfl dX7_swap_39 ?_
      exact r_sub [1, 2, 3, 4, 5, 0] rfl (gl_X7_swap_41 E   _ (fun x1 x2 x3 x4  σ => ih x1 x2 x3 x4  σ) 1000 _ _ _ _ _  _)
def f_X7_swap  (x1 : Int32) (σ : k_Mem) : Option (Int32 × k_Mem) :=
  k_bd (f_X7_in  (Int32.toInt64 x1) 0 1 σ) (fun r1 σ1 =>
    if r1 = 0 then (
      some ((-1), σ1)
    ) else (
      k_bd (f_X7_askingNow  0 σ1) (fun _ σ3 =>
        k_bd (f_X7_likesInAll   σ3) (fun r4 σ4 =>
          l_X7_swap_28   1000 x1 r4 (-4) 0 σ4
        )
      )
    )
  )
set_option maxRecDepth 100000 in
theorem c_X7_swap (E : k_EV)   (x1 : Int32) (σ : k_Mem) : k_MC m_X7_swap E k_vi [k_rf E 67, .int x1] σ (f_X7_swap x1 σ) := by
  refine k_MC_of ⟨by decide, by decide⟩ (Nat.le_of_ble_eq_true rfl) ?_
  show k_GO _ _ _ 0 [(0, k_rf E 67), (1, .int x1)] [] σ _
  unfold f_X7_swap
  refine r_iload_n 1 rfl rfl 1 rfl dX7_swap_0 ?_
  refine r_i2l 2 rfl dX7_swap_1 ?_
  refine r_lconst 0 (by decide) 3 rfl dX7_swap_2 ?_
  refine r_lconst 1 (by decide) 4 rfl dX7_swap_3 ?_
  refine r_callsi (c_X7_in E   _ _ _ _) rfl ml_X7_58 cw_X7_in sw_X7_in (by decide) (Nat.le_of_ble_eq_true rfl) 7 rfl dX7_swap_4 (fun r1 σ1 => ?_)
  refine r_if_ne 12 10 rfl (by decide) dX7_swap_7 (fun c2 => ?_) (fun c2 => ?_)
  · refine r_iconst (-1) (by decide) 11 rfl dX7_swap_10 ?_
    exact r_iret rfl dX7_swap_11
  · refine r_aload_n 0 rfl rfl 13 rfl dX7_swap_12 ?_
    refine r_iconst 0 (by decide) 14 rfl dX7_swap_13 ?_
    refine r_callv (c_X7_askingNow E   _ _) rfl sh_67 rfl ml_X7_225 cw_X7_askingNow vw_X7_askingNow (by decide) (Nat.le_of_ble_eq_true rfl) 17 rfl dX7_swap_14 (fun _ σ3 => ?_)
    refine r_aload_n 0 rfl rfl 18 rfl dX7_swap_17 ?_
    refine r_calli (c_X7_likesInAll E    _) rfl sh_67 rfl ml_X7_231 cw_X7_likesInAll vw_X7_likesInAll (by decide) (Nat.le_of_ble_eq_true rfl) 21 rfl dX7_swap_18 (fun r4 σ4 => ?_)
    refine r_istore_n [(2, .int _), (0, k_rf E 67), (1, .int _)] rfl rfl (by decide) 22 rfl dX7_swap_21 ?_
    refine r_bipush (-4) (by decide) 24 rfl dX7_swap_22 ?_
    refine r_istore_n [(3, .int _), (2, .int _), (0, k_rf E 67), (1, .int _)] rfl rfl (by decide) 25 rfl dX7_swap_24 ?_
    refine r_iconst 0 (by decide) 26 rfl dX7_swap_25 ?_
    refine r_istore [(4, .int _), (3, .int _), (2, .int _), (0, k_rf E 67), (1, .int _)] rfl (by decide) 28 rfl dX7_swap_26 ?_
    exact r_sub [3, 4, 2, 1, 0] rfl (gl_X7_swap_28 E     1000 _ _ _ _  _)
/-! HandMarketModel.lowest(JJI)J -/
def l_X7_lowest_6   : Nat → Int64 → Int64 → Int32 → Int64 → Int64 → k_Mem → Option (Int64 × k_Mem)
  | 0, _, _, _, _, _, _ => none
  | n + 1, x0, x2, x4, x5, x7, σ =>
    if (lg_cmp x7 0) = 0 then (
      if x4 = 0 then (
        if x5 = 0 then none else (
          some ((x0 / x5), σ)
        )
      ) else (
        if x5 = 0 then none else (
          some ((x2 / x5), σ)
        )
      )
    ) else (
      if x7 = 0 then none else (
        l_X7_lowest_6   n x0 x2 x4 x7 (k_lrem x5 x7) σ
      )
    )
set_option maxRecDepth 100000 in
theorem gl_X7_lowest_6 (E : k_EV)     : ∀ (n : Nat) (x0 : Int64) (x2 : Int64) (x4 : Int32) (x5 : Int64) (x7 : Int64)  (σ : k_Mem), k_GO m_X7_lowest E k_vl 6 [(0, .long x0), (2, .long x2), (4, .int x4), (5, .long x5), (7, .long x7)] [] σ (l_X7_lowest_6   n x0 x2 x4 x5 x7 σ) := by
  intro n
  induction n with
  | zero => intro x0 x2 x4 x5 x7  σ; exact r_none
  | succ n ih =>
    intro x0 x2 x4 x5 x7  σ
    rw [l_X7_lowest_6]
    refine r_lload 4 rfl 8 rfl dX7_lowest_6 ?_
    refine r_lconst 0 (by decide) 9 rfl dX7_lowest_8 ?_
    refine r_lcmp 10 rfl dX7_lowest_9 ?_
    refine r_if_eq 31 13 rfl (by decide) dX7_lowest_10 (fun c1 => ?_) (fun c1 => ?_)
    · refine r_iload 2 rfl 33 rfl dX7_lowest_31 ?_
      refine r_if_ne 40 36 rfl (by decide) dX7_lowest_33 (fun c2 => ?_) (fun c2 => ?_)
      · refine r_lload_n 0 rfl rfl 37 rfl dX7_lowest_36 ?_
        refine r_goto 41 (by decide) dX7_lowest_37 ?_
        refine r_lload 3 rfl 43 rfl dX7_lowest_41 ?_
        refine r_nz (fun c3 => ?_)
        refine r_ldiv c3 44 rfl dX7_lowest_43 ?_
        exact r_lret rfl dX7_lowest_44
      · refine r_lload_n 1 rfl rfl 41 rfl dX7_lowest_40 ?_
        refine r_lload 3 rfl 43 rfl dX7_lowest_41 ?_
        refine r_nz (fun c4 => ?_)
        refine r_ldiv c4 44 rfl dX7_lowest_43 ?_
        exact r_lret rfl dX7_lowest_44
    · refine r_lload 3 rfl 15 rfl dX7_lowest_13 ?_
      refine r_lload 4 rfl 17 rfl dX7_lowest_15 ?_
      refine r_nz (fun c5 => ?_)
      refine r_lrem c5 18 rfl dX7_lowest_17 ?_
      refine r_lstore [(9, .long _), (0, .long _), (2, .long _), (4, .int _), (5, .long _), (7, .long _)] rfl (by decide) 20 rfl dX7_lowest_18 ?_
      refine r_lload 5 rfl 22 rfl dX7_lowest_20 ?_
      refine r_lstore [(5, .long _), (9, .long _), (0, .long _), (2, .long _), (4, .int _), (7, .long _)] rfl (by decide) 24 rfl dX7_lowest_22 ?_
      refine r_lload 1 rfl 26 rfl dX7_lowest_24 ?_
      refine r_lstore [(7, .long _), (5, .long _), (9, .long _), (0, .long _), (2, .long _), (4, .int _)] rfl (by decide) 28 rfl dX7_lowest_26 ?_
      refine r_goto 6 (by decide) dX7_lowest_28 ?_
      exact r_sub [3, 4, 5, 1, 0] rfl (ih _ _ _ _ _  _)
def f_X7_lowest  (x0 : Int64) (x2 : Int64) (x4 : Int32) (σ : k_Mem) : Option (Int64 × k_Mem) :=
  l_X7_lowest_6   1000 x0 x2 x4 x0 x2 σ
set_option maxRecDepth 100000 in
theorem c_X7_lowest (E : k_EV)   (x0 : Int64) (x2 : Int64) (x4 : Int32) (σ : k_Mem) : k_MC m_X7_lowest E k_vl [.long x0, .long x2, .int x4] σ (f_X7_lowest x0 x2 x4 σ) := by
  refine k_MC_of ⟨by decide, by decide⟩ (Nat.le_of_ble_eq_true rfl) ?_
  show k_GO _ _ _ 0 [(0, .long x0), (2, .long x2), (4, .int x4)] [] σ _
  unfold f_X7_lowest
  refine r_lload_n 0 rfl rfl 1 rfl dX7_lowest_0 ?_
  refine r_lstore [(5, .long _), (0, .long _), (2, .long _), (4, .int _)] rfl (by decide) 3 rfl dX7_lowest_1 ?_
  refine r_lload_n 2 rfl rfl 4 rfl dX7_lowest_3 ?_
  refine r_lstore [(7, .long _), (5, .long _), (0, .long _), (2, .long _), (4, .int _)] rfl (by decide) 6 rfl dX7_lowest_4 ?_
  exact r_sub [2, 3, 4, 1, 0] rfl (gl_X7_lowest_6 E     1000 _ _ _ _ _  _)
/-! HandMarketModel.byThieves(III)J -/
def j_X7_byThieves_187  (k61 : Int32 → Int32 → Int32 → Int32 → Int64 → Int64 → Int32 → k_Mem → Option (Int64 × k_Mem)) (x1 : Int32) (x2 : Int32) (x3 : Int32) (x4 : Int32) (x5 : Int64) (x7 : Int64) (x9 : Int32) (σ : k_Mem) : Option (Int64 × k_Mem) :=
  k61 x1 x2 x3 x4 x5 x7 (x9 + 1) σ
set_option maxRecDepth 100000 in
theorem gj_X7_byThieves_187 (E : k_EV)   (k61 : Int32 → Int32 → Int32 → Int32 → Int64 → Int64 → Int32 → k_Mem → Option (Int64 × k_Mem)) (hk61 : ∀ (x1 : Int32) (x2 : Int32) (x3 : Int32) (x4 : Int32) (x5 : Int64) (x7 : Int64) (x9 : Int32)  (σ : k_Mem), k_GO m_X7_byThieves E k_vl 61 [(0, k_rf E 67), (1, .int x1), (2, .int x2), (3, .int x3), (4, .int x4), (5, .long x5), (7, .long x7), (9, .int x9)] [] σ (k61 x1 x2 x3 x4 x5 x7 x9 σ)) (x1 : Int32) (x2 : Int32) (x3 : Int32) (x4 : Int32) (x5 : Int64) (x7 : Int64) (x9 : Int32)  (σ : k_Mem) : k_GO m_X7_byThieves E k_vl 187 [(0, k_rf E 67), (1, .int x1), (2, .int x2), (3, .int x3), (4, .int x4), (5, .long x5), (7, .long x7), (9, .int x9)] [] σ (j_X7_byThieves_187  k61 x1 x2 x3 x4 x5 x7 x9 σ) := by
  unfold j_X7_byThieves_187
  refine r_iinc 1 (by decide) 7 rfl [(9, .int _), (0, k_rf E 67), (1, .int _), (2, .int _), (3, .int _), (4, .int _), (5, .long _), (7, .long _)] rfl (by decide) 190 rfl dX7_byThieves_187 ?_
  refine r_goto 61 (by decide) dX7_byThieves_190 ?_
  exact r_sub [1, 2, 3, 4, 5, 6, 7, 0] rfl (hk61 _ _ _ _ _ _ _  _)
def j_X7_byThieves_182  (k61 : Int32 → Int32 → Int32 → Int32 → Int64 → Int64 → Int32 → k_Mem → Option (Int64 × k_Mem)) (x1 : Int32) (x2 : Int32) (x3 : Int32) (x4 : Int32) (x7 : Int64) (x9 : Int32) (xs0 : Int64) (xs1 : Int64) (xs2 : Int32) (σ : k_Mem) : Option (Int64 × k_Mem) :=
  j_X7_byThieves_187  k61 x1 x2 x3 x4 (xs0 + (xs1 * (Int32.toInt64 xs2))) x7 x9 σ
set_option maxRecDepth 100000 in
theorem gj_X7_byThieves_182 (E : k_EV)   (k61 : Int32 → Int32 → Int32 → Int32 → Int64 → Int64 → Int32 → k_Mem → Option (Int64 × k_Mem)) (hk61 : ∀ (x1 : Int32) (x2 : Int32) (x3 : Int32) (x4 : Int32) (x5 : Int64) (x7 : Int64) (x9 : Int32)  (σ : k_Mem), k_GO m_X7_byThieves E k_vl 61 [(0, k_rf E 67), (1, .int x1), (2, .int x2), (3, .int x3), (4, .int x4), (5, .long x5), (7, .long x7), (9, .int x9)] [] σ (k61 x1 x2 x3 x4 x5 x7 x9 σ)) (x1 : Int32) (x2 : Int32) (x3 : Int32) (x4 : Int32) (x7 : Int64) (x9 : Int32) (xs0 : Int64) (xs1 : Int64) (xs2 : Int32)  (σ : k_Mem) : k_GO m_X7_byThieves E k_vl 182 [(0, k_rf E 67), (1, .int x1), (2, .int x2), (3, .int x3), (4, .int x4), (7, .long x7), (9, .int x9)] [.int xs2, .long xs1, .long xs0] σ (j_X7_byThieves_182  k61 x1 x2 x3 x4 x7 x9 xs0 xs1 xs2 σ) := by
  unfold j_X7_byThieves_182
  refine r_i2l 183 rfl dX7_byThieves_182 ?_
  refine r_lmul 184 rfl dX7_byThieves_183 ?_
  refine r_ladd 185 rfl dX7_byThieves_184 ?_
  refine r_lstore [(5, .long _), (0, k_rf E 67), (1, .int _), (2, .int _), (3, .int _), (4, .int _), (7, .long _), (9, .int _)] rfl (by decide) 187 rfl dX7_byThieves_185 ?_
  exact r_sub [1, 2, 3, 4, 5, 0, 6, 7] rfl (gj_X7_byThieves_187 E   _ hk61 _ _ _ _ _ _ _  _)
def j_X7_byThieves_129  (k61 : Int32 → Int32 → Int32 → Int32 → Int64 → Int64 → Int32 → k_Mem → Option (Int64 × k_Mem)) (k85 : Int32 → Int32 → Int32 → Int32 → Int64 → Int64 → Int32 → Int64 → Int32 → k_Mem → Option (Int64 × k_Mem)) (x1 : Int32) (x2 : Int32) (x3 : Int32) (x4 : Int32) (x5 : Int64) (x7 : Int64) (x9 : Int32) (x12 : Int32) (xs0 : Int64) (xs1 : Int64) (σ : k_Mem) : Option (Int64 × k_Mem) :=
  k85 x1 x2 x3 x4 x5 x7 x9 (xs0 * xs1) (x12 + 1) σ
set_option maxRecDepth 100000 in
theorem gj_X7_byThieves_129 (E : k_EV)   (k61 : Int32 → Int32 → Int32 → Int32 → Int64 → Int64 → Int32 → k_Mem → Option (Int64 × k_Mem)) (k85 : Int32 → Int32 → Int32 → Int32 → Int64 → Int64 → Int32 → Int64 → Int32 → k_Mem → Option (Int64 × k_Mem)) (hk61 : ∀ (x1 : Int32) (x2 : Int32) (x3 : Int32) (x4 : Int32) (x5 : Int64) (x7 : Int64) (x9 : Int32)  (σ : k_Mem), k_GO m_X7_byThieves E k_vl 61 [(0, k_rf E 67), (1, .int x1), (2, .int x2), (3, .int x3), (4, .int x4), (5, .long x5), (7, .long x7), (9, .int x9)] [] σ (k61 x1 x2 x3 x4 x5 x7 x9 σ)) (hk85 : ∀ (x1 : Int32) (x2 : Int32) (x3 : Int32) (x4 : Int32) (x5 : Int64) (x7 : Int64) (x9 : Int32) (x10 : Int64) (x12 : Int32)  (σ : k_Mem), k_GO m_X7_byThieves E k_vl 85 [(0, k_rf E 67), (1, .int x1), (2, .int x2), (3, .int x3), (4, .int x4), (5, .long x5), (7, .long x7), (9, .int x9), (10, .long x10), (12, .int x12)] [] σ (k85 x1 x2 x3 x4 x5 x7 x9 x10 x12 σ)) (x1 : Int32) (x2 : Int32) (x3 : Int32) (x4 : Int32) (x5 : Int64) (x7 : Int64) (x9 : Int32) (x12 : Int32) (xs0 : Int64) (xs1 : Int64)  (σ : k_Mem) : k_GO m_X7_byThieves E k_vl 129 [(0, k_rf E 67), (1, .int x1), (2, .int x2), (3, .int x3), (4, .int x4), (5, .long x5), (7, .long x7), (9, .int x9), (12, .int x12)] [.long xs1, .long xs0] σ (j_X7_byThieves_129  k61 k85 x1 x2 x3 x4 x5 x7 x9 x12 xs0 xs1 σ) := by
  unfold j_X7_byThieves_129
  refine r_lmul 130 rfl dX7_byThieves_129 ?_
  refine r_lstore [(10, .long _), (0, k_rf E 67), (1, .int _), (2, .int _), (3, .int _), (4, .int _), (5, .long _), (7, .long _), (9, .int _), (12, .int _)] rfl (by decide) 132 rfl dX7_byThieves_130 ?_
  refine r_iinc 1 (by decide) 9 rfl [(12, .int _), (10, .long _), (0, k_rf E 67), (1, .int _), (2, .int _), (3, .int _), (4, .int _), (5, .long _), (7, .long _), (9, .int _)] rfl (by decide) 135 rfl dX7_byThieves_132 ?_
  refine r_goto 85 (by decide) dX7_byThieves_135 ?_
  exact r_sub [2, 3, 4, 5, 6, 7, 8, 9, 1, 0] rfl (hk85 _ _ _ _ _ _ _ _ _  _)
def l_X7_byThieves_85  (k61 : Int32 → Int32 → Int32 → Int32 → Int64 → Int64 → Int32 → k_Mem → Option (Int64 × k_Mem)) : Nat → Int32 → Int32 → Int32 → Int32 → Int64 → Int64 → Int32 → Int64 → Int32 → k_Mem → Option (Int64 × k_Mem)
  | 0, _, _, _, _, _, _, _, _, _, _ => none
  | n + 1, x1, x2, x3, x4, x5, x7, x9, x10, x12, σ =>
    if 8 ≤ x12 then (
      k_bd (f_X7_laysTable  x9 σ) (fun _ σ7 =>
        k_bd (f_X7_asking  0 σ7) (fun _ σ8 =>
          if x2 = (-4) then (
            k_bd (f_X7_pairMany   σ8) (fun r10 σ10 =>
              j_X7_byThieves_182  k61 x1 x2 x3 x4 x7 x9 x5 x10 r10 σ10
            )
          ) else (
            if k_in x2 8 then (
              if (σ8 74 (k_n x2)) = (-4) then (
                j_X7_byThieves_182  k61 x1 x2 x3 x4 x7 x9 x5 x10 0 σ8
              ) else (
                j_X7_byThieves_182  k61 x1 x2 x3 x4 x7 x9 x5 x10 1 σ8
              )
            ) else none
          )
        )
      )
    ) else (
      if ((k_shr x4 x12) &&& 1) = 0 then (
        j_X7_byThieves_129  k61 (fun x1 x2 x3 x4 x5 x7 x9 x10 x12 σ => l_X7_byThieves_85  k61 n x1 x2 x3 x4 x5 x7 x9 x10 x12 σ) x1 x2 x3 x4 x5 x7 x9 x12 x10 1 σ
      ) else (
        if ((k_shr x9 x12) &&& 1) = 1 then (
          j_X7_byThieves_129  k61 (fun x1 x2 x3 x4 x5 x7 x9 x10 x12 σ => l_X7_byThieves_85  k61 n x1 x2 x3 x4 x5 x7 x9 x10 x12 σ) x1 x2 x3 x4 x5 x7 x9 x12 x10 (Int32.toInt64 x1) σ
        ) else (
          j_X7_byThieves_129  k61 (fun x1 x2 x3 x4 x5 x7 x9 x10 x12 σ => l_X7_byThieves_85  k61 n x1 x2 x3 x4 x5 x7 x9 x10 x12 σ) x1 x2 x3 x4 x5 x7 x9 x12 x10 (Int32.toInt64 (10 - x1)) σ
        )
      )
    )
set_option maxRecDepth 100000 in
theorem gl_X7_byThieves_85 (E : k_EV)   (k61 : Int32 → Int32 → Int32 → Int32 → Int64 → Int64 → Int32 → k_Mem → Option (Int64 × k_Mem)) (hk61 : ∀ (x1 : Int32) (x2 : Int32) (x3 : Int32) (x4 : Int32) (x5 : Int64) (x7 : Int64) (x9 : Int32)  (σ : k_Mem), k_GO m_X7_byThieves E k_vl 61 [(0, k_rf E 67), (1, .int x1), (2, .int x2), (3, .int x3), (4, .int x4), (5, .long x5), (7, .long x7), (9, .int x9)] [] σ (k61 x1 x2 x3 x4 x5 x7 x9 σ)) : ∀ (n : Nat) (x1 : Int32) (x2 : Int32) (x3 : Int32) (x4 : Int32) (x5 : Int64) (x7 : Int64) (x9 : Int32) (x10 : Int64) (x12 : Int32)  (σ : k_Mem), k_GO m_X7_byThieves E k_vl 85 [(0, k_rf E 67), (1, .int x1), (2, .int x2), (3, .int x3), (4, .int x4), (5, .long x5), (7, .long x7), (9, .int x9), (10, .long x10), (12, .int x12)] [] σ (l_X7_byThieves_85  k61 n x1 x2 x3 x4 x5 x7 x9 x10 x12 σ) := by
  intro n
  induction n with
  | zero => intro x1 x2 x3 x4 x5 x7 x9 x10 x12  σ; exact r_none
  | succ n ih =>
    intro x1 x2 x3 x4 x5 x7 x9 x10 x12  σ
    rw [l_X7_byThieves_85]
    refine r_iload 9 rfl 87 rfl dX7_byThieves_85 ?_
    refine r_bipush 8 (by decide) 89 rfl dX7_byThieves_87 ?_
    refine r_icmp_ge 138 92 rfl (by decide) dX7_byThieves_89 (fun c6 => ?_) (fun c6 => ?_)
    · refine r_aload_n 0 rfl rfl 139 rfl dX7_byThieves_138 ?_
      refine r_iload 7 rfl 141 rfl dX7_byThieves_139 ?_
      refine r_callv (c_X7_laysTable E   _ _) rfl sh_67 rfl ml_X7_195 cw_X7_laysTable vw_X7_laysTable (by decide) (Nat.le_of_ble_eq_true rfl) 144 rfl dX7_byThieves_141 (fun _ σ7 => ?_)
      refine r_aload_n 0 rfl rfl 145 rfl dX7_byThieves_144 ?_
      refine r_iconst 0 (by decide) 146 rfl dX7_byThieves_145 ?_
      refine r_callv (c_X7_asking E   _ _) rfl sh_67 rfl ml_X7_222 cw_X7_asking vw_X7_asking (by decide) (Nat.le_of_ble_eq_true rfl) 149 rfl dX7_byThieves_146 (fun _ σ8 => ?_)
      refine r_lload 5 rfl 151 rfl dX7_byThieves_149 ?_
      refine r_lload 8 rfl 153 rfl dX7_byThieves_151 ?_
      refine r_iload_n 2 rfl rfl 154 rfl dX7_byThieves_153 ?_
      refine r_bipush (-4) (by decide) 156 rfl dX7_byThieves_154 ?_
      refine r_icmp_ne 166 159 rfl (by decide) dX7_byThieves_156 (fun c9 => ?_) (fun c9 => ?_)
      · refine r_aload_n 0 rfl rfl 160 rfl dX7_byThieves_159 ?_
        refine r_calli (c_X7_pairMany E    _) rfl sh_67 rfl ml_X7_228 cw_X7_pairMany vw_X7_pairMany (by decide) (Nat.le_of_ble_eq_true rfl) 163 rfl dX7_byThieves_160 (fun r10 σ10 => ?_)
        refine r_goto 182 (by decide) dX7_byThieves_163 ?_
        exact r_sub [0, 1, 2, 3, 4, 6, 7] rfl (gj_X7_byThieves_182 E   _ hk61 _ _ _ _ _ _ _ _ _  _)
      · refine r_aload_n 0 rfl rfl 167 rfl dX7_byThieves_166 ?_
        refine r_getr fl_X7_28 sh_67 rfl 170 rfl dX7_byThieves_167 ?_
        refine r_iload_n 2 rfl rfl 171 rfl dX7_byThieves_170 ?_
        refine r_iald sh_74 172 rfl dX7_byThieves_171 ?_
        refine r_bipush (-4) (by decide) 174 rfl dX7_byThieves_172 ?_
        refine r_icmp_eq 181 177 rfl (by decide) dX7_byThieves_174 (fun c11 => ?_) (fun c11 => ?_)
        · refine r_iconst 0 (by decide) 182 rfl dX7_byThieves_181 ?_
          exact r_sub [0, 1, 2, 3, 4, 6, 7] rfl (gj_X7_byThieves_182 E   _ hk61 _ _ _ _ _ _ _ _ _  _)
        · refine r_iconst 1 (by decide) 178 rfl dX7_byThieves_177 ?_
          refine r_goto 182 (by decide) dX7_byThieves_178 ?_
          exact r_sub [0, 1, 2, 3, 4, 6, 7] rfl (gj_X7_byThieves_182 E   _ hk61 _ _ _ _ _ _ _ _ _  _)
    · refine r_lload 8 rfl 94 rfl dX7_byThieves_92 ?_
      refine r_iload 4 rfl 96 rfl dX7_byThieves_94 ?_
      refine r_iload 9 rfl 98 rfl dX7_byThieves_96 ?_
      refine r_ishr 99 rfl dX7_byThieves_98 ?_
      refine r_iconst 1 (by decide) 100 rfl dX7_byThieves_99 ?_
      refine r_iand 101 rfl dX7_byThieves_100 ?_
      refine r_if_ne 108 104 rfl (by decide) dX7_byThieves_101 (fun c12 => ?_) (fun c12 => ?_)
      · refine r_lconst 1 (by decide) 105 rfl dX7_byThieves_104 ?_
        refine r_goto 129 (by decide) dX7_byThieves_105 ?_
        exact r_sub [0, 1, 2, 3, 4, 5, 6, 7, 9] rfl (gj_X7_byThieves_129 E   _ _ hk61 (fun x1 x2 x3 x4 x5 x7 x9 x10 x12  σ => ih x1 x2 x3 x4 x5 x7 x9 x10 x12  σ) _ _ _ _ _ _ _ _ _ _  _)
      · refine r_iload 7 rfl 110 rfl dX7_byThieves_108 ?_
        refine r_iload 9 rfl 112 rfl dX7_byThieves_110 ?_
        refine r_ishr 113 rfl dX7_byThieves_112 ?_
        refine r_iconst 1 (by decide) 114 rfl dX7_byThieves_113 ?_
        refine r_iand 115 rfl dX7_byThieves_114 ?_
        refine r_iconst 1 (by decide) 116 rfl dX7_byThieves_115 ?_
        refine r_icmp_ne 124 119 rfl (by decide) dX7_byThieves_116 (fun c13 => ?_) (fun c13 => ?_)
        · refine r_iload_n 1 rfl rfl 120 rfl dX7_byThieves_119 ?_
          refine r_i2l 121 rfl dX7_byThieves_120 ?_
          refine r_goto 129 (by decide) dX7_byThieves_121 ?_
          exact r_sub [0, 1, 2, 3, 4, 5, 6, 7, 9] rfl (gj_X7_byThieves_129 E   _ _ hk61 (fun x1 x2 x3 x4 x5 x7 x9 x10 x12  σ => ih x1 x2 x3 x4 x5 x7 x9 x10 x12  σ) _ _ _ _ _ _ _ _ _ _  _)
        · refine r_bipush 10 (by decide) 126 rfl dX7_byThieves_124 ?_
          refine r_iload_n 1 rfl rfl 127 rfl dX7_byThieves_126 ?_
          refine r_isub 128 rfl dX7_byThieves_127 ?_
          refine r_i2l 129 rfl dX7_byThieves_128 ?_
          exact r_sub [0, 1, 2, 3, 4, 5, 6, 7, 9] rfl (gj_X7_byThieves_129 E   _ _ hk61 (fun x1 x2 x3 x4 x5 x7 x9 x10 x12  σ => ih x1 x2 x3 x4 x5 x7 x9 x10 x12  σ) _ _ _ _ _ _ _ _ _ _  _)
def l_X7_byThieves_61   : Nat → Int32 → Int32 → Int32 → Int32 → Int64 → Int64 → Int32 → k_Mem → Option (Int64 × k_Mem)
  | 0, _, _, _, _, _, _, _, _ => none
  | n + 1, x1, x2, x3, x4, x5, x7, x9, σ =>
    if 256 ≤ x9 then (
      k_bd (f_X7_lowest  x5 x7 x3 σ) (fun r4 σ4 =>
        some (r4, σ4)
      )
    ) else (
      if (x9 &&& (x4 ^^^ (-1))) = 0 then (
        l_X7_byThieves_85  (fun x1 x2 x3 x4 x5 x7 x9 σ => l_X7_byThieves_61   n x1 x2 x3 x4 x5 x7 x9 σ) 1000 x1 x2 x3 x4 x5 x7 x9 1 0 σ
      ) else (
        j_X7_byThieves_187  (fun x1 x2 x3 x4 x5 x7 x9 σ => l_X7_byThieves_61   n x1 x2 x3 x4 x5 x7 x9 σ) x1 x2 x3 x4 x5 x7 x9 σ
      )
    )
set_option maxRecDepth 100000 in
theorem gl_X7_byThieves_61 (E : k_EV)     : ∀ (n : Nat) (x1 : Int32) (x2 : Int32) (x3 : Int32) (x4 : Int32) (x5 : Int64) (x7 : Int64) (x9 : Int32)  (σ : k_Mem), k_GO m_X7_byThieves E k_vl 61 [(0, k_rf E 67), (1, .int x1), (2, .int x2), (3, .int x3), (4, .int x4), (5, .long x5), (7, .long x7), (9, .int x9)] [] σ (l_X7_byThieves_61   n x1 x2 x3 x4 x5 x7 x9 σ) := by
  intro n
  induction n with
  | zero => intro x1 x2 x3 x4 x5 x7 x9  σ; exact r_none
  | succ n ih =>
    intro x1 x2 x3 x4 x5 x7 x9  σ
    rw [l_X7_byThieves_61]
    refine r_iload 7 rfl 63 rfl dX7_byThieves_61 ?_
    refine r_sipush 256 (by decide) 66 rfl dX7_byThieves_63 ?_
    refine r_icmp_ge 193 69 rfl (by decide) dX7_byThieves_66 (fun c3 => ?_) (fun c3 => ?_)
    · refine r_lload 5 rfl 195 rfl dX7_byThieves_193 ?_
      refine r_lload 6 rfl 197 rfl dX7_byThieves_195 ?_
      refine r_iload_n 3 rfl rfl 198 rfl dX7_byThieves_197 ?_
      refine r_callsl (c_X7_lowest E   _ _ _ _) rfl ml_X7_262 cw_X7_lowest sw_X7_lowest (by decide) (Nat.le_of_ble_eq_true rfl) 201 rfl dX7_byThieves_198 (fun r4 σ4 => ?_)
      exact r_lret rfl dX7_byThieves_201
    · refine r_iload 7 rfl 71 rfl dX7_byThieves_69 ?_
      refine r_iload 4 rfl 73 rfl dX7_byThieves_71 ?_
      refine r_iconst (-1) (by decide) 74 rfl dX7_byThieves_73 ?_
      refine r_ixor 75 rfl dX7_byThieves_74 ?_
      refine r_iand 76 rfl dX7_byThieves_75 ?_
      refine r_if_ne 187 79 rfl (by decide) dX7_byThieves_76 (fun c5 => ?_) (fun c5 => ?_)
      · refine r_lconst 1 (by decide) 80 rfl dX7_byThieves_79 ?_
        refine r_lstore [(10, .long _), (0, k_rf E 67), (1, .int _), (2, .int _), (3, .int _), (4, .int _), (5, .long _), (7, .long _), (9, .int _)] rfl (by decide) 82 rfl dX7_byThieves_80 ?_
        refine r_iconst 0 (by decide) 83 rfl dX7_byThieves_82 ?_
        refine r_istore [(12, .int _), (10, .long _), (0, k_rf E 67), (1, .int _), (2, .int _), (3, .int _), (4, .int _), (5, .long _), (7, .long _), (9, .int _)] rfl (by decide) 85 rfl dX7_byThieves_83 ?_
        exact r_sub [2, 3, 4, 5, 6, 7, 8, 9, 1, 0] rfl (gl_X7_byThieves_85 E   _ (fun x1 x2 x3 x4 x5 x7 x9  σ => ih x1 x2 x3 x4 x5 x7 x9  σ) 1000 _ _ _ _ _ _ _ _ _  _)
      · exact r_sub [0, 1, 2, 3, 4, 5, 6, 7] rfl (gj_X7_byThieves_187 E   _ (fun x1 x2 x3 x4 x5 x7 x9  σ => ih x1 x2 x3 x4 x5 x7 x9  σ) _ _ _ _ _ _ _  _)
def j_X7_byThieves_49  (k22 : Int32 → Int32 → Int32 → Int32 → Int64 → Int64 → Int32 → k_Mem → Option (Int64 × k_Mem)) (x1 : Int32) (x2 : Int32) (x3 : Int32) (x4 : Int32) (x5 : Int64) (x9 : Int32) (xs0 : Int64) (xs1 : Int64) (σ : k_Mem) : Option (Int64 × k_Mem) :=
  k22 x1 x2 x3 x4 x5 (xs0 * xs1) (x9 + 1) σ
set_option maxRecDepth 100000 in
theorem gj_X7_byThieves_49 (E : k_EV)   (k22 : Int32 → Int32 → Int32 → Int32 → Int64 → Int64 → Int32 → k_Mem → Option (Int64 × k_Mem)) (hk22 : ∀ (x1 : Int32) (x2 : Int32) (x3 : Int32) (x4 : Int32) (x5 : Int64) (x7 : Int64) (x9 : Int32)  (σ : k_Mem), k_GO m_X7_byThieves E k_vl 22 [(0, k_rf E 67), (1, .int x1), (2, .int x2), (3, .int x3), (4, .int x4), (5, .long x5), (7, .long x7), (9, .int x9)] [] σ (k22 x1 x2 x3 x4 x5 x7 x9 σ)) (x1 : Int32) (x2 : Int32) (x3 : Int32) (x4 : Int32) (x5 : Int64) (x9 : Int32) (xs0 : Int64) (xs1 : Int64)  (σ : k_Mem) : k_GO m_X7_byThieves E k_vl 49 [(0, k_rf E 67), (1, .int x1), (2, .int x2), (3, .int x3), (4, .int x4), (5, .long x5), (9, .int x9)] [.long xs1, .long xs0] σ (j_X7_byThieves_49  k22 x1 x2 x3 x4 x5 x9 xs0 xs1 σ) := by
  unfold j_X7_byThieves_49
  refine r_lmul 50 rfl dX7_byThieves_49 ?_
  refine r_lstore [(7, .long _), (0, k_rf E 67), (1, .int _), (2, .int _), (3, .int _), (4, .int _), (5, .long _), (9, .int _)] rfl (by decide) 52 rfl dX7_byThieves_50 ?_
  refine r_iinc 1 (by decide) 7 rfl [(9, .int _), (7, .long _), (0, k_rf E 67), (1, .int _), (2, .int _), (3, .int _), (4, .int _), (5, .long _)] rfl (by decide) 55 rfl dX7_byThieves_52 ?_
  refine r_goto 22 (by decide) dX7_byThieves_55 ?_
  exact r_sub [2, 3, 4, 5, 6, 7, 1, 0] rfl (hk22 _ _ _ _ _ _ _  _)
def l_X7_byThieves_22   : Nat → Int32 → Int32 → Int32 → Int32 → Int64 → Int64 → Int32 → k_Mem → Option (Int64 × k_Mem)
  | 0, _, _, _, _, _, _, _, _ => none
  | n + 1, x1, x2, x3, x4, x5, x7, x9, σ =>
    if 8 ≤ x9 then (
      l_X7_byThieves_61   1000 x1 x2 x3 x4 x5 x7 0 σ
    ) else (
      if ((k_shr x4 x9) &&& 1) = 1 then (
        j_X7_byThieves_49  (fun x1 x2 x3 x4 x5 x7 x9 σ => l_X7_byThieves_22   n x1 x2 x3 x4 x5 x7 x9 σ) x1 x2 x3 x4 x5 x9 x7 10 σ
      ) else (
        j_X7_byThieves_49  (fun x1 x2 x3 x4 x5 x7 x9 σ => l_X7_byThieves_22   n x1 x2 x3 x4 x5 x7 x9 σ) x1 x2 x3 x4 x5 x9 x7 1 σ
      )
    )
set_option maxRecDepth 100000 in
theorem gl_X7_byThieves_22 (E : k_EV)     : ∀ (n : Nat) (x1 : Int32) (x2 : Int32) (x3 : Int32) (x4 : Int32) (x5 : Int64) (x7 : Int64) (x9 : Int32)  (σ : k_Mem), k_GO m_X7_byThieves E k_vl 22 [(0, k_rf E 67), (1, .int x1), (2, .int x2), (3, .int x3), (4, .int x4), (5, .long x5), (7, .long x7), (9, .int x9)] [] σ (l_X7_byThieves_22   n x1 x2 x3 x4 x5 x7 x9 σ) := by
  intro n
  induction n with
  | zero => intro x1 x2 x3 x4 x5 x7 x9  σ; exact r_none
  | succ n ih =>
    intro x1 x2 x3 x4 x5 x7 x9  σ
    rw [l_X7_byThieves_22]
    refine r_iload 7 rfl 24 rfl dX7_byThieves_22 ?_
    refine r_bipush 8 (by decide) 26 rfl dX7_byThieves_24 ?_
    refine r_icmp_ge 58 29 rfl (by decide) dX7_byThieves_26 (fun c2 => ?_) (fun c2 => ?_)
    · refine r_iconst 0 (by decide) 59 rfl dX7_byThieves_58 ?_
      refine r_istore [(9, .int _), (0, k_rf E 67), (1, .int _), (2, .int _), (3, .int _), (4, .int _), (5, .long _), (7, .long _)] rfl (by decide) 61 rfl dX7_byThieves_59 ?_
      exact r_sub [1, 2, 3, 4, 5, 6, 7, 0] rfl (gl_X7_byThieves_61 E     1000 _ _ _ _ _ _ _  _)
    · refine r_lload 6 rfl 31 rfl dX7_byThieves_29 ?_
      refine r_iload 4 rfl 33 rfl dX7_byThieves_31 ?_
      refine r_iload 7 rfl 35 rfl dX7_byThieves_33 ?_
      refine r_ishr 36 rfl dX7_byThieves_35 ?_
      refine r_iconst 1 (by decide) 37 rfl dX7_byThieves_36 ?_
      refine r_iand 38 rfl dX7_byThieves_37 ?_
      refine r_iconst 1 (by decide) 39 rfl dX7_byThieves_38 ?_
      refine r_icmp_ne 48 42 rfl (by decide) dX7_byThieves_39 (fun c14 => ?_) (fun c14 => ?_)
      · refine r_ldc2 cs_X7_243 45 rfl dX7_byThieves_42 ?_
        refine r_goto 49 (by decide) dX7_byThieves_45 ?_
        exact r_sub [0, 1, 2, 3, 4, 5, 7] rfl (gj_X7_byThieves_49 E   _ (fun x1 x2 x3 x4 x5 x7 x9  σ => ih x1 x2 x3 x4 x5 x7 x9  σ) _ _ _ _ _ _ _ _  _)
      · refine r_lconst 1 (by decide) 49 rfl dX7_byThieves_48 ?_
        exact r_sub [0, 1, 2, 3, 4, 5, 7] rfl (gj_X7_byThieves_49 E   _ (fun x1 x2 x3 x4 x5 x7 x9  σ => ih x1 x2 x3 x4 x5 x7 x9  σ) _ _ _ _ _ _ _ _  _)
def f_X7_byThieves  (x1 : Int32) (x2 : Int32) (x3 : Int32) (σ : k_Mem) : Option (Int64 × k_Mem) :=
  k_bd (f_X7_handsOf  (σ 67 1) (σ 67 2) σ) (fun r1 σ1 =>
    l_X7_byThieves_22   1000 x1 x2 x3 r1 0 1 0 σ1
  )
set_option maxRecDepth 100000 in
theorem c_X7_byThieves (E : k_EV)   (x1 : Int32) (x2 : Int32) (x3 : Int32) (σ : k_Mem) : k_MC m_X7_byThieves E k_vl [k_rf E 67, .int x1, .int x2, .int x3] σ (f_X7_byThieves x1 x2 x3 σ) := by
  refine k_MC_of ⟨by decide, by decide⟩ (Nat.le_of_ble_eq_true rfl) ?_
  show k_GO _ _ _ 0 [(0, k_rf E 67), (1, .int x1), (2, .int x2), (3, .int x3)] [] σ _
  unfold f_X7_byThieves
  refine r_aload_n 0 rfl rfl 1 rfl dX7_byThieves_0 ?_
  refine r_geti fl_X7_147 sh_67 rfl 4 rfl dX7_byThieves_1 ?_
  refine r_aload_n 0 rfl rfl 5 rfl dX7_byThieves_4 ?_
  refine r_geti fl_X7_150 sh_67 rfl 8 rfl dX7_byThieves_5 ?_
  refine r_callsi (c_X7_handsOf E   _ _ _) rfl ml_X7_140 cw_X7_handsOf sw_X7_handsOf (by decide) (Nat.le_of_ble_eq_true rfl) 11 rfl dX7_byThieves_8 (fun r1 σ1 => ?_)
  refine r_istore [(4, .int _), (0, k_rf E 67), (1, .int _), (2, .int _), (3, .int _)] rfl (by decide) 13 rfl dX7_byThieves_11 ?_
  refine r_lconst 0 (by decide) 14 rfl dX7_byThieves_13 ?_
  refine r_lstore [(5, .long _), (4, .int _), (0, k_rf E 67), (1, .int _), (2, .int _), (3, .int _)] rfl (by decide) 16 rfl dX7_byThieves_14 ?_
  refine r_lconst 1 (by decide) 17 rfl dX7_byThieves_16 ?_
  refine r_lstore [(7, .long _), (5, .long _), (4, .int _), (0, k_rf E 67), (1, .int _), (2, .int _), (3, .int _)] rfl (by decide) 19 rfl dX7_byThieves_17 ?_
  refine r_iconst 0 (by decide) 20 rfl dX7_byThieves_19 ?_
  refine r_istore [(9, .int _), (7, .long _), (5, .long _), (4, .int _), (0, k_rf E 67), (1, .int _), (2, .int _), (3, .int _)] rfl (by decide) 22 rfl dX7_byThieves_20 ?_
  exact r_sub [4, 5, 6, 7, 3, 2, 1, 0] rfl (gl_X7_byThieves_22 E     1000 _ _ _ _ _ _ _  _)
/-! HandMarketModel.mean(II)J -/
def f_X7_mean  (x1 : Int32) (x2 : Int32) (σ : k_Mem) : Option (Int64 × k_Mem) :=
  k_bd (f_X7_in  (Int32.toInt64 x1) 0 10 σ) (fun r1 σ1 =>
    if r1 = 0 then (
      some ((-1), σ1)
    ) else (
      k_bd (f_X7_in  (Int32.toInt64 x2) 0 1 σ1) (fun r3 σ3 =>
        if r3 = 0 then (
          some ((-1), σ3)
        ) else (
          k_bd (f_X7_byThieves  x1 (-4) x2 σ3) (fun r5 σ5 =>
            some (r5, σ5)
          )
        )
      )
    )
  )
set_option maxRecDepth 100000 in
theorem c_X7_mean (E : k_EV)   (x1 : Int32) (x2 : Int32) (σ : k_Mem) : k_MC m_X7_mean E k_vl [k_rf E 67, .int x1, .int x2] σ (f_X7_mean x1 x2 σ) := by
  refine k_MC_of ⟨by decide, by decide⟩ (Nat.le_of_ble_eq_true rfl) ?_
  show k_GO _ _ _ 0 [(0, k_rf E 67), (1, .int x1), (2, .int x2)] [] σ _
  unfold f_X7_mean
  refine r_iload_n 1 rfl rfl 1 rfl dX7_mean_0 ?_
  refine r_i2l 2 rfl dX7_mean_1 ?_
  refine r_lconst 0 (by decide) 3 rfl dX7_mean_2 ?_
  refine r_ldc2 cs_X7_243 6 rfl dX7_mean_3 ?_
  refine r_callsi (c_X7_in E   _ _ _ _) rfl ml_X7_58 cw_X7_in sw_X7_in (by decide) (Nat.le_of_ble_eq_true rfl) 9 rfl dX7_mean_6 (fun r1 σ1 => ?_)
  refine r_if_eq 33 12 rfl (by decide) dX7_mean_9 (fun c2 => ?_) (fun c2 => ?_)
  · refine r_ldc2 cs_X7_270 36 rfl dX7_mean_33 ?_
    exact r_lret rfl dX7_mean_36
  · refine r_iload_n 2 rfl rfl 13 rfl dX7_mean_12 ?_
    refine r_i2l 14 rfl dX7_mean_13 ?_
    refine r_lconst 0 (by decide) 15 rfl dX7_mean_14 ?_
    refine r_lconst 1 (by decide) 16 rfl dX7_mean_15 ?_
    refine r_callsi (c_X7_in E   _ _ _ _) rfl ml_X7_58 cw_X7_in sw_X7_in (by decide) (Nat.le_of_ble_eq_true rfl) 19 rfl dX7_mean_16 (fun r3 σ3 => ?_)
    refine r_if_eq 33 22 rfl (by decide) dX7_mean_19 (fun c4 => ?_) (fun c4 => ?_)
    · refine r_ldc2 cs_X7_270 36 rfl dX7_mean_33 ?_
      exact r_lret rfl dX7_mean_36
    · refine r_aload_n 0 rfl rfl 23 rfl dX7_mean_22 ?_
      refine r_iload_n 1 rfl rfl 24 rfl dX7_mean_23 ?_
      refine r_bipush (-4) (by decide) 26 rfl dX7_mean_24 ?_
      refine r_iload_n 2 rfl rfl 27 rfl dX7_mean_26 ?_
      refine r_calll (c_X7_byThieves E   _ _ _ _) rfl sh_67 rfl ml_X7_266 cw_X7_byThieves vw_X7_byThieves (by decide) (Nat.le_of_ble_eq_true rfl) 30 rfl dX7_mean_27 (fun r5 σ5 => ?_)
      refine r_goto 36 (by decide) dX7_mean_30 ?_
      exact r_lret rfl dX7_mean_36
/-! HandMarketModel.luck(III)J -/
def f_X7_luck  (x1 : Int32) (x2 : Int32) (x3 : Int32) (σ : k_Mem) : Option (Int64 × k_Mem) :=
  k_bd (f_X7_in  (Int32.toInt64 x1) 0 10 σ) (fun r1 σ1 =>
    if r1 = 0 then (
      some ((-1), σ1)
    ) else (
      k_bd (f_X7_isHand  x2 σ1) (fun r3 σ3 =>
        if r3 = 0 then (
          some ((-1), σ3)
        ) else (
          k_bd (f_X7_in  (Int32.toInt64 x3) 0 1 σ3) (fun r5 σ5 =>
            if r5 = 0 then (
              some ((-1), σ5)
            ) else (
              k_bd (f_X7_byThieves  x1 x2 x3 σ5) (fun r7 σ7 =>
                some (r7, σ7)
              )
            )
          )
        )
      )
    )
  )
set_option maxRecDepth 100000 in
theorem c_X7_luck (E : k_EV)   (x1 : Int32) (x2 : Int32) (x3 : Int32) (σ : k_Mem) : k_MC m_X7_luck E k_vl [k_rf E 67, .int x1, .int x2, .int x3] σ (f_X7_luck x1 x2 x3 σ) := by
  refine k_MC_of ⟨by decide, by decide⟩ (Nat.le_of_ble_eq_true rfl) ?_
  show k_GO _ _ _ 0 [(0, k_rf E 67), (1, .int x1), (2, .int x2), (3, .int x3)] [] σ _
  unfold f_X7_luck
  refine r_iload_n 1 rfl rfl 1 rfl dX7_luck_0 ?_
  refine r_i2l 2 rfl dX7_luck_1 ?_
  refine r_lconst 0 (by decide) 3 rfl dX7_luck_2 ?_
  refine r_ldc2 cs_X7_243 6 rfl dX7_luck_3 ?_
  refine r_callsi (c_X7_in E   _ _ _ _) rfl ml_X7_58 cw_X7_in sw_X7_in (by decide) (Nat.le_of_ble_eq_true rfl) 9 rfl dX7_luck_6 (fun r1 σ1 => ?_)
  refine r_if_eq 40 12 rfl (by decide) dX7_luck_9 (fun c2 => ?_) (fun c2 => ?_)
  · refine r_ldc2 cs_X7_270 43 rfl dX7_luck_40 ?_
    exact r_lret rfl dX7_luck_43
  · refine r_aload_n 0 rfl rfl 13 rfl dX7_luck_12 ?_
    refine r_iload_n 2 rfl rfl 14 rfl dX7_luck_13 ?_
    refine r_calli (c_X7_isHand E   _ _) rfl sh_67 rfl ml_X7_158 cw_X7_isHand vw_X7_isHand (by decide) (Nat.le_of_ble_eq_true rfl) 17 rfl dX7_luck_14 (fun r3 σ3 => ?_)
    refine r_if_eq 40 20 rfl (by decide) dX7_luck_17 (fun c4 => ?_) (fun c4 => ?_)
    · refine r_ldc2 cs_X7_270 43 rfl dX7_luck_40 ?_
      exact r_lret rfl dX7_luck_43
    · refine r_iload_n 3 rfl rfl 21 rfl dX7_luck_20 ?_
      refine r_i2l 22 rfl dX7_luck_21 ?_
      refine r_lconst 0 (by decide) 23 rfl dX7_luck_22 ?_
      refine r_lconst 1 (by decide) 24 rfl dX7_luck_23 ?_
      refine r_callsi (c_X7_in E   _ _ _ _) rfl ml_X7_58 cw_X7_in sw_X7_in (by decide) (Nat.le_of_ble_eq_true rfl) 27 rfl dX7_luck_24 (fun r5 σ5 => ?_)
      refine r_if_eq 40 30 rfl (by decide) dX7_luck_27 (fun c6 => ?_) (fun c6 => ?_)
      · refine r_ldc2 cs_X7_270 43 rfl dX7_luck_40 ?_
        exact r_lret rfl dX7_luck_43
      · refine r_aload_n 0 rfl rfl 31 rfl dX7_luck_30 ?_
        refine r_iload_n 1 rfl rfl 32 rfl dX7_luck_31 ?_
        refine r_iload_n 2 rfl rfl 33 rfl dX7_luck_32 ?_
        refine r_iload_n 3 rfl rfl 34 rfl dX7_luck_33 ?_
        refine r_calll (c_X7_byThieves E   _ _ _ _) rfl sh_67 rfl ml_X7_266 cw_X7_byThieves vw_X7_byThieves (by decide) (Nat.le_of_ble_eq_true rfl) 37 rfl dX7_luck_34 (fun r7 σ7 => ?_)
        refine r_goto 43 (by decide) dX7_luck_37 ?_
        exact r_lret rfl dX7_luck_43
/-! HandMarketModel.see(III)I -/
def f_X7_see  (x1 : Int32) (x2 : Int32) (x3 : Int32) (σ : k_Mem) : Option (Int32 × k_Mem) :=
  k_bd (f_X7_isHand  x1 σ) (fun r1 σ1 =>
    if r1 = 0 then (
      some ((-1), σ1)
    ) else (
      k_bd (f_X7_in  (Int32.toInt64 x2) 0 2 σ1) (fun r3 σ3 =>
        if r3 = 0 then (
          some ((-1), σ3)
        ) else (
          k_bd (f_X7_in  (Int32.toInt64 x3) 0 9 σ3) (fun r5 σ5 =>
            if r5 = 0 then (
              some ((-1), σ5)
            ) else (
              if (σ5 67 25) = 6 then (
                some ((-3), σ5)
              ) else (
                if k_in (3 * (σ5 67 25)) 18 then (
                  if k_in ((3 * ((k_mset σ5 77 (k_n (3 * (σ5 67 25))) x1) 67 25)) + 1) 18 then (
                    if k_in ((3 * ((k_mset (k_mset σ5 77 (k_n (3 * (σ5 67 25))) x1) 77 (k_n ((3 * ((k_mset σ5 77 (k_n (3 * (σ5 67 25))) x1) 67 25)) + 1)) x2) 67 25)) + 2) 18 then (
                      k_ct (k_mset (k_mset (k_mset σ5 77 (k_n (3 * (σ5 67 25))) x1) 77 (k_n ((3 * ((k_mset σ5 77 (k_n (3 * (σ5 67 25))) x1) 67 25)) + 1)) x2) 77 (k_n ((3 * ((k_mset (k_mset σ5 77 (k_n (3 * (σ5 67 25))) x1) 77 (k_n ((3 * ((k_mset σ5 77 (k_n (3 * (σ5 67 25))) x1) 67 25)) + 1)) x2) 67 25)) + 2)) x3) (fun σ8 =>
                        some (((k_mset σ8 67 25 ((σ8 67 25) + 1)) 67 25), (k_mset σ8 67 25 ((σ8 67 25) + 1)))
                      )
                    ) else none
                  ) else none
                ) else none
              )
            )
          )
        )
      )
    )
  )
set_option maxRecDepth 100000 in
theorem c_X7_see (E : k_EV)   (x1 : Int32) (x2 : Int32) (x3 : Int32) (σ : k_Mem) : k_MC m_X7_see E k_vi [k_rf E 67, .int x1, .int x2, .int x3] σ (f_X7_see x1 x2 x3 σ) := by
  refine k_MC_of ⟨by decide, by decide⟩ (Nat.le_of_ble_eq_true rfl) ?_
  show k_GO _ _ _ 0 [(0, k_rf E 67), (1, .int x1), (2, .int x2), (3, .int x3)] [] σ _
  unfold f_X7_see
  refine r_aload_n 0 rfl rfl 1 rfl dX7_see_0 ?_
  refine r_iload_n 1 rfl rfl 2 rfl dX7_see_1 ?_
  refine r_calli (c_X7_isHand E   _ _) rfl sh_67 rfl ml_X7_158 cw_X7_isHand vw_X7_isHand (by decide) (Nat.le_of_ble_eq_true rfl) 5 rfl dX7_see_2 (fun r1 σ1 => ?_)
  refine r_if_eq 32 8 rfl (by decide) dX7_see_5 (fun c2 => ?_) (fun c2 => ?_)
  · refine r_iconst (-1) (by decide) 33 rfl dX7_see_32 ?_
    exact r_iret rfl dX7_see_33
  · refine r_iload_n 2 rfl rfl 9 rfl dX7_see_8 ?_
    refine r_i2l 10 rfl dX7_see_9 ?_
    refine r_lconst 0 (by decide) 11 rfl dX7_see_10 ?_
    refine r_ldc2 cs_X7_184 14 rfl dX7_see_11 ?_
    refine r_callsi (c_X7_in E   _ _ _ _) rfl ml_X7_58 cw_X7_in sw_X7_in (by decide) (Nat.le_of_ble_eq_true rfl) 17 rfl dX7_see_14 (fun r3 σ3 => ?_)
    refine r_if_eq 32 20 rfl (by decide) dX7_see_17 (fun c4 => ?_) (fun c4 => ?_)
    · refine r_iconst (-1) (by decide) 33 rfl dX7_see_32 ?_
      exact r_iret rfl dX7_see_33
    · refine r_iload_n 3 rfl rfl 21 rfl dX7_see_20 ?_
      refine r_i2l 22 rfl dX7_see_21 ?_
      refine r_lconst 0 (by decide) 23 rfl dX7_see_22 ?_
      refine r_ldc2 cs_X7_211 26 rfl dX7_see_23 ?_
      refine r_callsi (c_X7_in E   _ _ _ _) rfl ml_X7_58 cw_X7_in sw_X7_in (by decide) (Nat.le_of_ble_eq_true rfl) 29 rfl dX7_see_26 (fun r5 σ5 => ?_)
      refine r_if_ne 34 32 rfl (by decide) dX7_see_29 (fun c6 => ?_) (fun c6 => ?_)
      · refine r_iconst (-1) (by decide) 33 rfl dX7_see_32 ?_
        exact r_iret rfl dX7_see_33
      · refine r_aload_n 0 rfl rfl 35 rfl dX7_see_34 ?_
        refine r_geti fl_X7_153 sh_67 rfl 38 rfl dX7_see_35 ?_
        refine r_bipush 6 (by decide) 40 rfl dX7_see_38 ?_
        refine r_icmp_ne 46 43 rfl (by decide) dX7_see_40 (fun c7 => ?_) (fun c7 => ?_)
        · refine r_bipush (-3) (by decide) 45 rfl dX7_see_43 ?_
          exact r_iret rfl dX7_see_45
        · refine r_aload_n 0 rfl rfl 47 rfl dX7_see_46 ?_
          refine r_getr fl_X7_37 sh_67 rfl 50 rfl dX7_see_47 ?_
          refine r_iconst 3 (by decide) 51 rfl dX7_see_50 ?_
          refine r_aload_n 0 rfl rfl 52 rfl dX7_see_51 ?_
          refine r_geti fl_X7_153 sh_67 rfl 55 rfl dX7_see_52 ?_
          refine r_imul 56 rfl dX7_see_55 ?_
          refine r_iload_n 1 rfl rfl 57 rfl dX7_see_56 ?_
          refine r_iast sh_77 58 rfl dX7_see_57 ?_
          refine r_aload_n 0 rfl rfl 59 rfl dX7_see_58 ?_
          refine r_getr fl_X7_37 sh_67 rfl 62 rfl dX7_see_59 ?_
          refine r_iconst 3 (by decide) 63 rfl dX7_see_62 ?_
          refine r_aload_n 0 rfl rfl 64 rfl dX7_see_63 ?_
          refine r_geti fl_X7_153 sh_67 rfl 67 rfl dX7_see_64 ?_
          refine r_imul 68 rfl dX7_see_67 ?_
          refine r_iconst 1 (by decide) 69 rfl dX7_see_68 ?_
          refine r_iadd 70 rfl dX7_see_69 ?_
          refine r_iload_n 2 rfl rfl 71 rfl dX7_see_70 ?_
          refine r_iast sh_77 72 rfl dX7_see_71 ?_
          refine r_aload_n 0 rfl rfl 73 rfl dX7_see_72 ?_
          refine r_getr fl_X7_37 sh_67 rfl 76 rfl dX7_see_73 ?_
          refine r_iconst 3 (by decide) 77 rfl dX7_see_76 ?_
          refine r_aload_n 0 rfl rfl 78 rfl dX7_see_77 ?_
          refine r_geti fl_X7_153 sh_67 rfl 81 rfl dX7_see_78 ?_
          refine r_imul 82 rfl dX7_see_81 ?_
          refine r_iconst 2 (by decide) 83 rfl dX7_see_82 ?_
          refine r_iadd 84 rfl dX7_see_83 ?_
          refine r_iload_n 3 rfl rfl 85 rfl dX7_see_84 ?_
          refine r_iast sh_77 86 rfl dX7_see_85 ?_
          refine r_ct ?_
          refine r_aload_n 0 rfl rfl 87 rfl dX7_see_86 ?_
          refine r_dup 88 rfl dX7_see_87 rfl ?_
          refine r_geti fl_X7_153 sh_67 rfl 91 rfl dX7_see_88 ?_
          refine r_iconst 1 (by decide) 92 rfl dX7_see_91 ?_
          refine r_iadd 93 rfl dX7_see_92 ?_
          refine r_puti fp_X7_153 sh_67 rfl 96 rfl dX7_see_93 ?_
          refine r_aload_n 0 rfl rfl 97 rfl dX7_see_96 ?_
          refine r_geti fl_X7_153 sh_67 rfl 100 rfl dX7_see_97 ?_
          exact r_iret rfl dX7_see_100
/-! HandMarketModel.forget(I)I -/
def f_X7_forget  (x1 : Int32) (σ : k_Mem) : Option (Int32 × k_Mem) :=
  k_bd (f_X7_in  (Int32.toInt64 x1) 0 (Int32.toInt64 (σ 67 25)) σ) (fun r1 σ1 =>
    if r1 = 0 then (
      some ((-1), σ1)
    ) else (
      some ((σ1 67 25), (k_mset σ1 67 25 x1))
    )
  )
set_option maxRecDepth 100000 in
theorem c_X7_forget (E : k_EV)   (x1 : Int32) (σ : k_Mem) : k_MC m_X7_forget E k_vi [k_rf E 67, .int x1] σ (f_X7_forget x1 σ) := by
  refine k_MC_of ⟨by decide, by decide⟩ (Nat.le_of_ble_eq_true rfl) ?_
  show k_GO _ _ _ 0 [(0, k_rf E 67), (1, .int x1)] [] σ _
  unfold f_X7_forget
  refine r_iload_n 1 rfl rfl 1 rfl dX7_forget_0 ?_
  refine r_i2l 2 rfl dX7_forget_1 ?_
  refine r_lconst 0 (by decide) 3 rfl dX7_forget_2 ?_
  refine r_aload_n 0 rfl rfl 4 rfl dX7_forget_3 ?_
  refine r_geti fl_X7_153 sh_67 rfl 7 rfl dX7_forget_4 ?_
  refine r_i2l 8 rfl dX7_forget_7 ?_
  refine r_callsi (c_X7_in E   _ _ _ _) rfl ml_X7_58 cw_X7_in sw_X7_in (by decide) (Nat.le_of_ble_eq_true rfl) 11 rfl dX7_forget_8 (fun r1 σ1 => ?_)
  refine r_if_ne 16 14 rfl (by decide) dX7_forget_11 (fun c2 => ?_) (fun c2 => ?_)
  · refine r_iconst (-1) (by decide) 15 rfl dX7_forget_14 ?_
    exact r_iret rfl dX7_forget_15
  · refine r_aload_n 0 rfl rfl 17 rfl dX7_forget_16 ?_
    refine r_geti fl_X7_153 sh_67 rfl 20 rfl dX7_forget_17 ?_
    refine r_istore_n [(2, .int _), (0, k_rf E 67), (1, .int _)] rfl rfl (by decide) 21 rfl dX7_forget_20 ?_
    refine r_aload_n 1 rfl rfl 22 rfl dX7_forget_21 ?_
    refine r_iload_n 2 rfl rfl 23 rfl dX7_forget_22 ?_
    refine r_puti fp_X7_153 sh_67 rfl 26 rfl dX7_forget_23 ?_
    refine r_iload_n 0 rfl rfl 27 rfl dX7_forget_26 ?_
    exact r_iret rfl dX7_forget_27
/-! HandMarketModel.pensFor(I)I -/
def j_X7_pensFor_170  (k15 : Int32 → Int32 → Int32 → Int32 → k_Mem → Option (Int32 × k_Mem)) (x1 : Int32) (x2 : Int32) (x3 : Int32) (x4 : Int32) (σ : k_Mem) : Option (Int32 × k_Mem) :=
  k15 x1 x2 x3 (x4 + 1) σ
set_option maxRecDepth 100000 in
theorem gj_X7_pensFor_170 (E : k_EV)   (k15 : Int32 → Int32 → Int32 → Int32 → k_Mem → Option (Int32 × k_Mem)) (hk15 : ∀ (x1 : Int32) (x2 : Int32) (x3 : Int32) (x4 : Int32)  (σ : k_Mem), k_GO m_X7_pensFor E k_vi 15 [(0, k_rf E 67), (1, .int x1), (2, .int x2), (3, .int x3), (4, .int x4)] [] σ (k15 x1 x2 x3 x4 σ)) (x1 : Int32) (x2 : Int32) (x3 : Int32) (x4 : Int32)  (σ : k_Mem) : k_GO m_X7_pensFor E k_vi 170 [(0, k_rf E 67), (1, .int x1), (2, .int x2), (3, .int x3), (4, .int x4)] [] σ (j_X7_pensFor_170  k15 x1 x2 x3 x4 σ) := by
  unfold j_X7_pensFor_170
  refine r_iinc 1 (by decide) 4 rfl [(4, .int _), (0, k_rf E 67), (1, .int _), (2, .int _), (3, .int _)] rfl (by decide) 173 rfl dX7_pensFor_170 ?_
  refine r_goto 15 (by decide) dX7_pensFor_173 ?_
  exact r_sub [1, 2, 3, 4, 0] rfl (hk15 _ _ _ _  _)
def j_X7_pensFor_168  (k15 : Int32 → Int32 → Int32 → Int32 → k_Mem → Option (Int32 × k_Mem)) (x1 : Int32) (x3 : Int32) (x4 : Int32) (xs0 : Int32) (xs1 : Int32) (σ : k_Mem) : Option (Int32 × k_Mem) :=
  j_X7_pensFor_170  k15 x1 (xs0 ||| xs1) x3 x4 σ
set_option maxRecDepth 100000 in
theorem gj_X7_pensFor_168 (E : k_EV)   (k15 : Int32 → Int32 → Int32 → Int32 → k_Mem → Option (Int32 × k_Mem)) (hk15 : ∀ (x1 : Int32) (x2 : Int32) (x3 : Int32) (x4 : Int32)  (σ : k_Mem), k_GO m_X7_pensFor E k_vi 15 [(0, k_rf E 67), (1, .int x1), (2, .int x2), (3, .int x3), (4, .int x4)] [] σ (k15 x1 x2 x3 x4 σ)) (x1 : Int32) (x3 : Int32) (x4 : Int32) (xs0 : Int32) (xs1 : Int32)  (σ : k_Mem) : k_GO m_X7_pensFor E k_vi 168 [(0, k_rf E 67), (1, .int x1), (3, .int x3), (4, .int x4)] [.int xs1, .int xs0] σ (j_X7_pensFor_168  k15 x1 x3 x4 xs0 xs1 σ) := by
  unfold j_X7_pensFor_168
  refine r_ior 169 rfl dX7_pensFor_168 ?_
  refine r_istore_n [(2, .int _), (0, k_rf E 67), (1, .int _), (3, .int _), (4, .int _)] rfl rfl (by decide) 170 rfl dX7_pensFor_169 ?_
  exact r_sub [1, 2, 0, 3, 4] rfl (gj_X7_pensFor_170 E   _ hk15 _ _ _ _  _)
def l_X7_pensFor_123  (k15 : Int32 → Int32 → Int32 → Int32 → k_Mem → Option (Int32 × k_Mem)) : Nat → Int32 → Int32 → Int32 → Int32 → Int32 → Int32 → k_Mem → Option (Int32 × k_Mem)
  | 0, _, _, _, _, _, _, _ => none
  | n + 1, x1, x2, x3, x4, x5, x6, σ =>
    if 3 ≤ x6 then (
      if x5 = 0 then (
        j_X7_pensFor_168  k15 x1 x3 x4 x2 0 σ
      ) else (
        j_X7_pensFor_168  k15 x1 x3 x4 x2 (k_shl 1 x4) σ
      )
    ) else (
      k_bd (f_X7_shows  x1 x6 σ) (fun r7 σ7 =>
        if k_in ((3 * x4) + x6) 24 then (
          l_X7_pensFor_123  k15 n x1 x2 x3 x4 x5 (x6 + 1) (k_mset σ7 78 (k_n ((3 * x4) + x6)) r7)
        ) else none
      )
    )
set_option maxRecDepth 100000 in
theorem gl_X7_pensFor_123 (E : k_EV)   (k15 : Int32 → Int32 → Int32 → Int32 → k_Mem → Option (Int32 × k_Mem)) (hk15 : ∀ (x1 : Int32) (x2 : Int32) (x3 : Int32) (x4 : Int32)  (σ : k_Mem), k_GO m_X7_pensFor E k_vi 15 [(0, k_rf E 67), (1, .int x1), (2, .int x2), (3, .int x3), (4, .int x4)] [] σ (k15 x1 x2 x3 x4 σ)) : ∀ (n : Nat) (x1 : Int32) (x2 : Int32) (x3 : Int32) (x4 : Int32) (x5 : Int32) (x6 : Int32)  (σ : k_Mem), k_GO m_X7_pensFor E k_vi 123 [(0, k_rf E 67), (1, .int x1), (2, .int x2), (3, .int x3), (4, .int x4), (5, .int x5), (6, .int x6)] [] σ (l_X7_pensFor_123  k15 n x1 x2 x3 x4 x5 x6 σ) := by
  intro n
  induction n with
  | zero => intro x1 x2 x3 x4 x5 x6  σ; exact r_none
  | succ n ih =>
    intro x1 x2 x3 x4 x5 x6  σ
    rw [l_X7_pensFor_123]
    refine r_iload 6 rfl 125 rfl dX7_pensFor_123 ?_
    refine r_iconst 3 (by decide) 126 rfl dX7_pensFor_125 ?_
    refine r_icmp_ge 154 129 rfl (by decide) dX7_pensFor_126 (fun c5 => ?_) (fun c5 => ?_)
    · refine r_iload_n 2 rfl rfl 155 rfl dX7_pensFor_154 ?_
      refine r_iload 5 rfl 157 rfl dX7_pensFor_155 ?_
      refine r_if_eq 167 160 rfl (by decide) dX7_pensFor_157 (fun c6 => ?_) (fun c6 => ?_)
      · refine r_iconst 0 (by decide) 168 rfl dX7_pensFor_167 ?_
        exact r_sub [0, 1, 3, 4] rfl (gj_X7_pensFor_168 E   _ hk15 _ _ _ _ _  _)
      · refine r_iconst 1 (by decide) 161 rfl dX7_pensFor_160 ?_
        refine r_iload 4 rfl 163 rfl dX7_pensFor_161 ?_
        refine r_ishl 164 rfl dX7_pensFor_163 ?_
        refine r_goto 168 (by decide) dX7_pensFor_164 ?_
        exact r_sub [0, 1, 3, 4] rfl (gj_X7_pensFor_168 E   _ hk15 _ _ _ _ _  _)
    · refine r_aload_n 0 rfl rfl 130 rfl dX7_pensFor_129 ?_
      refine r_getr fl_X7_40 sh_67 rfl 133 rfl dX7_pensFor_130 ?_
      refine r_iconst 3 (by decide) 134 rfl dX7_pensFor_133 ?_
      refine r_iload 4 rfl 136 rfl dX7_pensFor_134 ?_
      refine r_imul 137 rfl dX7_pensFor_136 ?_
      refine r_iload 6 rfl 139 rfl dX7_pensFor_137 ?_
      refine r_iadd 140 rfl dX7_pensFor_139 ?_
      refine r_aload_n 0 rfl rfl 141 rfl dX7_pensFor_140 ?_
      refine r_iload_n 1 rfl rfl 142 rfl dX7_pensFor_141 ?_
      refine r_iload 6 rfl 144 rfl dX7_pensFor_142 ?_
      refine r_calli (c_X7_shows E   _ _ _) rfl sh_67 rfl ml_X7_186 cw_X7_shows vw_X7_shows (by decide) (Nat.le_of_ble_eq_true rfl) 147 rfl dX7_pensFor_144 (fun r7 σ7 => ?_)
      refine r_iast sh_78 148 rfl dX7_pensFor_147 ?_
      refine r_iinc 1 (by decide) 6 rfl [(6, .int _), (0, k_rf E 67), (1, .int _), (2, .int _), (3, .int _), (4, .int _), (5, .int _)] rfl (by decide) 151 rfl dX7_pensFor_148 ?_
      refine r_goto 123 (by decide) dX7_pensFor_151 ?_
      exact r_sub [1, 2, 3, 4, 5, 6, 0] rfl (ih _ _ _ _ _ _  _)
def j_X7_pensFor_112  (k15 : Int32 → Int32 → Int32 → Int32 → k_Mem → Option (Int32 × k_Mem)) (k50 : Int32 → Int32 → Int32 → Int32 → Int32 → Int32 → k_Mem → Option (Int32 × k_Mem)) (x1 : Int32) (x2 : Int32) (x3 : Int32) (x4 : Int32) (x6 : Int32) (xs0 : Int32) (σ : k_Mem) : Option (Int32 × k_Mem) :=
  k50 x1 x2 x3 x4 xs0 (x6 + 1) σ
set_option maxRecDepth 100000 in
theorem gj_X7_pensFor_112 (E : k_EV)   (k15 : Int32 → Int32 → Int32 → Int32 → k_Mem → Option (Int32 × k_Mem)) (k50 : Int32 → Int32 → Int32 → Int32 → Int32 → Int32 → k_Mem → Option (Int32 × k_Mem)) (hk15 : ∀ (x1 : Int32) (x2 : Int32) (x3 : Int32) (x4 : Int32)  (σ : k_Mem), k_GO m_X7_pensFor E k_vi 15 [(0, k_rf E 67), (1, .int x1), (2, .int x2), (3, .int x3), (4, .int x4)] [] σ (k15 x1 x2 x3 x4 σ)) (hk50 : ∀ (x1 : Int32) (x2 : Int32) (x3 : Int32) (x4 : Int32) (x5 : Int32) (x6 : Int32)  (σ : k_Mem), k_GO m_X7_pensFor E k_vi 50 [(0, k_rf E 67), (1, .int x1), (2, .int x2), (3, .int x3), (4, .int x4), (5, .int x5), (6, .int x6)] [] σ (k50 x1 x2 x3 x4 x5 x6 σ)) (x1 : Int32) (x2 : Int32) (x3 : Int32) (x4 : Int32) (x6 : Int32) (xs0 : Int32)  (σ : k_Mem) : k_GO m_X7_pensFor E k_vi 112 [(0, k_rf E 67), (1, .int x1), (2, .int x2), (3, .int x3), (4, .int x4), (6, .int x6)] [.int xs0] σ (j_X7_pensFor_112  k15 k50 x1 x2 x3 x4 x6 xs0 σ) := by
  unfold j_X7_pensFor_112
  refine r_istore [(5, .int _), (0, k_rf E 67), (1, .int _), (2, .int _), (3, .int _), (4, .int _), (6, .int _)] rfl (by decide) 114 rfl dX7_pensFor_112 ?_
  refine r_iinc 1 (by decide) 6 rfl [(6, .int _), (5, .int _), (0, k_rf E 67), (1, .int _), (2, .int _), (3, .int _), (4, .int _)] rfl (by decide) 117 rfl dX7_pensFor_114 ?_
  refine r_goto 50 (by decide) dX7_pensFor_117 ?_
  exact r_sub [2, 3, 4, 5, 6, 1, 0] rfl (hk50 _ _ _ _ _ _  _)
def j_X7_pensFor_111  (k15 : Int32 → Int32 → Int32 → Int32 → k_Mem → Option (Int32 × k_Mem)) (k50 : Int32 → Int32 → Int32 → Int32 → Int32 → Int32 → k_Mem → Option (Int32 × k_Mem)) (x1 : Int32) (x2 : Int32) (x3 : Int32) (x4 : Int32) (x6 : Int32) (σ : k_Mem) : Option (Int32 × k_Mem) :=
  j_X7_pensFor_112  k15 k50 x1 x2 x3 x4 x6 0 σ
set_option maxRecDepth 100000 in
theorem gj_X7_pensFor_111 (E : k_EV)   (k15 : Int32 → Int32 → Int32 → Int32 → k_Mem → Option (Int32 × k_Mem)) (k50 : Int32 → Int32 → Int32 → Int32 → Int32 → Int32 → k_Mem → Option (Int32 × k_Mem)) (hk15 : ∀ (x1 : Int32) (x2 : Int32) (x3 : Int32) (x4 : Int32)  (σ : k_Mem), k_GO m_X7_pensFor E k_vi 15 [(0, k_rf E 67), (1, .int x1), (2, .int x2), (3, .int x3), (4, .int x4)] [] σ (k15 x1 x2 x3 x4 σ)) (hk50 : ∀ (x1 : Int32) (x2 : Int32) (x3 : Int32) (x4 : Int32) (x5 : Int32) (x6 : Int32)  (σ : k_Mem), k_GO m_X7_pensFor E k_vi 50 [(0, k_rf E 67), (1, .int x1), (2, .int x2), (3, .int x3), (4, .int x4), (5, .int x5), (6, .int x6)] [] σ (k50 x1 x2 x3 x4 x5 x6 σ)) (x1 : Int32) (x2 : Int32) (x3 : Int32) (x4 : Int32) (x6 : Int32)  (σ : k_Mem) : k_GO m_X7_pensFor E k_vi 111 [(0, k_rf E 67), (1, .int x1), (2, .int x2), (3, .int x3), (4, .int x4), (6, .int x6)] [] σ (j_X7_pensFor_111  k15 k50 x1 x2 x3 x4 x6 σ) := by
  unfold j_X7_pensFor_111
  refine r_iconst 0 (by decide) 112 rfl dX7_pensFor_111 ?_
  exact r_sub [0, 1, 2, 3, 4, 5] rfl (gj_X7_pensFor_112 E   _ _ hk15 hk50 _ _ _ _ _ _  _)
def j_X7_pensFor_107  (k15 : Int32 → Int32 → Int32 → Int32 → k_Mem → Option (Int32 × k_Mem)) (k50 : Int32 → Int32 → Int32 → Int32 → Int32 → Int32 → k_Mem → Option (Int32 × k_Mem)) (x1 : Int32) (x2 : Int32) (x3 : Int32) (x4 : Int32) (x6 : Int32) (σ : k_Mem) : Option (Int32 × k_Mem) :=
  j_X7_pensFor_112  k15 k50 x1 x2 x3 x4 x6 1 σ
set_option maxRecDepth 100000 in
theorem gj_X7_pensFor_107 (E : k_EV)   (k15 : Int32 → Int32 → Int32 → Int32 → k_Mem → Option (Int32 × k_Mem)) (k50 : Int32 → Int32 → Int32 → Int32 → Int32 → Int32 → k_Mem → Option (Int32 × k_Mem)) (hk15 : ∀ (x1 : Int32) (x2 : Int32) (x3 : Int32) (x4 : Int32)  (σ : k_Mem), k_GO m_X7_pensFor E k_vi 15 [(0, k_rf E 67), (1, .int x1), (2, .int x2), (3, .int x3), (4, .int x4)] [] σ (k15 x1 x2 x3 x4 σ)) (hk50 : ∀ (x1 : Int32) (x2 : Int32) (x3 : Int32) (x4 : Int32) (x5 : Int32) (x6 : Int32)  (σ : k_Mem), k_GO m_X7_pensFor E k_vi 50 [(0, k_rf E 67), (1, .int x1), (2, .int x2), (3, .int x3), (4, .int x4), (5, .int x5), (6, .int x6)] [] σ (k50 x1 x2 x3 x4 x5 x6 σ)) (x1 : Int32) (x2 : Int32) (x3 : Int32) (x4 : Int32) (x6 : Int32)  (σ : k_Mem) : k_GO m_X7_pensFor E k_vi 107 [(0, k_rf E 67), (1, .int x1), (2, .int x2), (3, .int x3), (4, .int x4), (6, .int x6)] [] σ (j_X7_pensFor_107  k15 k50 x1 x2 x3 x4 x6 σ) := by
  unfold j_X7_pensFor_107
  refine r_iconst 1 (by decide) 108 rfl dX7_pensFor_107 ?_
  refine r_goto 112 (by decide) dX7_pensFor_108 ?_
  exact r_sub [0, 1, 2, 3, 4, 5] rfl (gj_X7_pensFor_112 E   _ _ hk15 hk50 _ _ _ _ _ _  _)
def l_X7_pensFor_50  (k15 : Int32 → Int32 → Int32 → Int32 → k_Mem → Option (Int32 × k_Mem)) : Nat → Int32 → Int32 → Int32 → Int32 → Int32 → Int32 → k_Mem → Option (Int32 × k_Mem)
  | 0, _, _, _, _, _, _, _ => none
  | n + 1, x1, x2, x3, x4, x5, x6, σ =>
    if (σ 67 25) ≤ x6 then (
      l_X7_pensFor_123  k15 1000 x1 x2 x3 x4 x5 0 σ
    ) else (
      if x5 = 0 then (
        j_X7_pensFor_111  k15 (fun x1 x2 x3 x4 x5 x6 σ => l_X7_pensFor_50  k15 n x1 x2 x3 x4 x5 x6 σ) x1 x2 x3 x4 x6 σ
      ) else (
        if k_in (3 * x6) 18 then (
          if (σ 77 (k_n (3 * x6))) = x1 then (
            if k_in ((3 * x6) + 1) 18 then (
              k_bd (f_X7_shows  x1 (σ 77 (k_n ((3 * x6) + 1))) σ) (fun r10 σ10 =>
                if k_in ((3 * x6) + 2) 18 then (
                  if r10 = (σ10 77 (k_n ((3 * x6) + 2))) then (
                    j_X7_pensFor_107  k15 (fun x1 x2 x3 x4 x5 x6 σ => l_X7_pensFor_50  k15 n x1 x2 x3 x4 x5 x6 σ) x1 x2 x3 x4 x6 σ10
                  ) else (
                    j_X7_pensFor_111  k15 (fun x1 x2 x3 x4 x5 x6 σ => l_X7_pensFor_50  k15 n x1 x2 x3 x4 x5 x6 σ) x1 x2 x3 x4 x6 σ10
                  )
                ) else none
              )
            ) else none
          ) else (
            j_X7_pensFor_107  k15 (fun x1 x2 x3 x4 x5 x6 σ => l_X7_pensFor_50  k15 n x1 x2 x3 x4 x5 x6 σ) x1 x2 x3 x4 x6 σ
          )
        ) else none
      )
    )
set_option maxRecDepth 100000 in
theorem gl_X7_pensFor_50 (E : k_EV)   (k15 : Int32 → Int32 → Int32 → Int32 → k_Mem → Option (Int32 × k_Mem)) (hk15 : ∀ (x1 : Int32) (x2 : Int32) (x3 : Int32) (x4 : Int32)  (σ : k_Mem), k_GO m_X7_pensFor E k_vi 15 [(0, k_rf E 67), (1, .int x1), (2, .int x2), (3, .int x3), (4, .int x4)] [] σ (k15 x1 x2 x3 x4 σ)) : ∀ (n : Nat) (x1 : Int32) (x2 : Int32) (x3 : Int32) (x4 : Int32) (x5 : Int32) (x6 : Int32)  (σ : k_Mem), k_GO m_X7_pensFor E k_vi 50 [(0, k_rf E 67), (1, .int x1), (2, .int x2), (3, .int x3), (4, .int x4), (5, .int x5), (6, .int x6)] [] σ (l_X7_pensFor_50  k15 n x1 x2 x3 x4 x5 x6 σ) := by
  intro n
  induction n with
  | zero => intro x1 x2 x3 x4 x5 x6  σ; exact r_none
  | succ n ih =>
    intro x1 x2 x3 x4 x5 x6  σ
    rw [l_X7_pensFor_50]
    refine r_iload 6 rfl 52 rfl dX7_pensFor_50 ?_
    refine r_aload_n 0 rfl rfl 53 rfl dX7_pensFor_52 ?_
    refine r_geti fl_X7_153 sh_67 rfl 56 rfl dX7_pensFor_53 ?_
    refine r_icmp_ge 120 59 rfl (by decide) dX7_pensFor_56 (fun c4 => ?_) (fun c4 => ?_)
    · refine r_iconst 0 (by decide) 121 rfl dX7_pensFor_120 ?_
      refine r_istore [(6, .int _), (0, k_rf E 67), (1, .int _), (2, .int _), (3, .int _), (4, .int _), (5, .int _)] rfl (by decide) 123 rfl dX7_pensFor_121 ?_
      exact r_sub [1, 2, 3, 4, 5, 6, 0] rfl (gl_X7_pensFor_123 E   _ hk15 1000 _ _ _ _ _ _  _)
    · refine r_iload 5 rfl 61 rfl dX7_pensFor_59 ?_
      refine r_if_eq 111 64 rfl (by decide) dX7_pensFor_61 (fun c8 => ?_) (fun c8 => ?_)
      · exact r_sub [0, 1, 2, 3, 4, 6] rfl (gj_X7_pensFor_111 E   _ _ hk15 (fun x1 x2 x3 x4 x5 x6  σ => ih x1 x2 x3 x4 x5 x6  σ) _ _ _ _ _  _)
      · refine r_aload_n 0 rfl rfl 65 rfl dX7_pensFor_64 ?_
        refine r_getr fl_X7_37 sh_67 rfl 68 rfl dX7_pensFor_65 ?_
        refine r_iconst 3 (by decide) 69 rfl dX7_pensFor_68 ?_
        refine r_iload 6 rfl 71 rfl dX7_pensFor_69 ?_
        refine r_imul 72 rfl dX7_pensFor_71 ?_
        refine r_iald sh_77 73 rfl dX7_pensFor_72 ?_
        refine r_iload_n 1 rfl rfl 74 rfl dX7_pensFor_73 ?_
        refine r_icmp_ne 107 77 rfl (by decide) dX7_pensFor_74 (fun c9 => ?_) (fun c9 => ?_)
        · refine r_aload_n 0 rfl rfl 78 rfl dX7_pensFor_77 ?_
          refine r_iload_n 1 rfl rfl 79 rfl dX7_pensFor_78 ?_
          refine r_aload_n 0 rfl rfl 80 rfl dX7_pensFor_79 ?_
          refine r_getr fl_X7_37 sh_67 rfl 83 rfl dX7_pensFor_80 ?_
          refine r_iconst 3 (by decide) 84 rfl dX7_pensFor_83 ?_
          refine r_iload 6 rfl 86 rfl dX7_pensFor_84 ?_
          refine r_imul 87 rfl dX7_pensFor_86 ?_
          refine r_iconst 1 (by decide) 88 rfl dX7_pensFor_87 ?_
          refine r_iadd 89 rfl dX7_pensFor_88 ?_
          refine r_iald sh_77 90 rfl dX7_pensFor_89 ?_
          refine r_calli (c_X7_shows E   _ _ _) rfl sh_67 rfl ml_X7_186 cw_X7_shows vw_X7_shows (by decide) (Nat.le_of_ble_eq_true rfl) 93 rfl dX7_pensFor_90 (fun r10 σ10 => ?_)
          refine r_aload_n 0 rfl rfl 94 rfl dX7_pensFor_93 ?_
          refine r_getr fl_X7_37 sh_67 rfl 97 rfl dX7_pensFor_94 ?_
          refine r_iconst 3 (by decide) 98 rfl dX7_pensFor_97 ?_
          refine r_iload 6 rfl 100 rfl dX7_pensFor_98 ?_
          refine r_imul 101 rfl dX7_pensFor_100 ?_
          refine r_iconst 2 (by decide) 102 rfl dX7_pensFor_101 ?_
          refine r_iadd 103 rfl dX7_pensFor_102 ?_
          refine r_iald sh_77 104 rfl dX7_pensFor_103 ?_
          refine r_icmp_ne 111 107 rfl (by decide) dX7_pensFor_104 (fun c11 => ?_) (fun c11 => ?_)
          · exact r_sub [0, 1, 2, 3, 4, 6] rfl (gj_X7_pensFor_107 E   _ _ hk15 (fun x1 x2 x3 x4 x5 x6  σ => ih x1 x2 x3 x4 x5 x6  σ) _ _ _ _ _  _)
          · exact r_sub [0, 1, 2, 3, 4, 6] rfl (gj_X7_pensFor_111 E   _ _ hk15 (fun x1 x2 x3 x4 x5 x6  σ => ih x1 x2 x3 x4 x5 x6  σ) _ _ _ _ _  _)
        · exact r_sub [0, 1, 2, 3, 4, 6] rfl (gj_X7_pensFor_107 E   _ _ hk15 (fun x1 x2 x3 x4 x5 x6  σ => ih x1 x2 x3 x4 x5 x6  σ) _ _ _ _ _  _)
def l_X7_pensFor_15   : Nat → Int32 → Int32 → Int32 → Int32 → k_Mem → Option (Int32 × k_Mem)
  | 0, _, _, _, _, _ => none
  | n + 1, x1, x2, x3, x4, σ =>
    if 8 ≤ x4 then (
      if k_in (32 + x1) 250 then (
        some (x2, (k_mset σ 68 (k_n (32 + x1)) x3))
      ) else none
    ) else (
      k_bd (f_X7_isHand  x4 σ) (fun r2 σ2 =>
        if r2 = 0 then (
          j_X7_pensFor_170  (fun x1 x2 x3 x4 σ => l_X7_pensFor_15   n x1 x2 x3 x4 σ) x1 x2 x3 x4 σ2
        ) else (
          if k_in (32 + x1) 250 then (
            l_X7_pensFor_50  (fun x1 x2 x3 x4 σ => l_X7_pensFor_15   n x1 x2 x3 x4 σ) 1000 x1 x2 x3 x4 1 0 (k_mset σ2 68 (k_n (32 + x1)) (x4 - x1))
          ) else none
        )
      )
    )
set_option maxRecDepth 100000 in
theorem gl_X7_pensFor_15 (E : k_EV)     : ∀ (n : Nat) (x1 : Int32) (x2 : Int32) (x3 : Int32) (x4 : Int32)  (σ : k_Mem), k_GO m_X7_pensFor E k_vi 15 [(0, k_rf E 67), (1, .int x1), (2, .int x2), (3, .int x3), (4, .int x4)] [] σ (l_X7_pensFor_15   n x1 x2 x3 x4 σ) := by
  intro n
  induction n with
  | zero => intro x1 x2 x3 x4  σ; exact r_none
  | succ n ih =>
    intro x1 x2 x3 x4  σ
    rw [l_X7_pensFor_15]
    refine r_iload 4 rfl 17 rfl dX7_pensFor_15 ?_
    refine r_bipush 8 (by decide) 19 rfl dX7_pensFor_17 ?_
    refine r_icmp_ge 176 22 rfl (by decide) dX7_pensFor_19 (fun c1 => ?_) (fun c1 => ?_)
    · refine r_aload_n 0 rfl rfl 177 rfl dX7_pensFor_176 ?_
      refine r_getr fl_X7_7 sh_67 rfl 180 rfl dX7_pensFor_177 ?_
      refine r_bipush 32 (by decide) 182 rfl dX7_pensFor_180 ?_
      refine r_iload_n 1 rfl rfl 183 rfl dX7_pensFor_182 ?_
      refine r_iadd 184 rfl dX7_pensFor_183 ?_
      refine r_iload_n 3 rfl rfl 185 rfl dX7_pensFor_184 ?_
      refine r_iast sh_68 186 rfl dX7_pensFor_185 ?_
      refine r_iload_n 2 rfl rfl 187 rfl dX7_pensFor_186 ?_
      exact r_iret rfl dX7_pensFor_187
    · refine r_aload_n 0 rfl rfl 23 rfl dX7_pensFor_22 ?_
      refine r_iload 4 rfl 25 rfl dX7_pensFor_23 ?_
      refine r_calli (c_X7_isHand E   _ _) rfl sh_67 rfl ml_X7_158 cw_X7_isHand vw_X7_isHand (by decide) (Nat.le_of_ble_eq_true rfl) 28 rfl dX7_pensFor_25 (fun r2 σ2 => ?_)
      refine r_if_eq 170 31 rfl (by decide) dX7_pensFor_28 (fun c3 => ?_) (fun c3 => ?_)
      · exact r_sub [0, 1, 2, 3, 4] rfl (gj_X7_pensFor_170 E   _ (fun x1 x2 x3 x4  σ => ih x1 x2 x3 x4  σ) _ _ _ _  _)
      · refine r_aload_n 0 rfl rfl 32 rfl dX7_pensFor_31 ?_
        refine r_getr fl_X7_7 sh_67 rfl 35 rfl dX7_pensFor_32 ?_
        refine r_bipush 32 (by decide) 37 rfl dX7_pensFor_35 ?_
        refine r_iload_n 1 rfl rfl 38 rfl dX7_pensFor_37 ?_
        refine r_iadd 39 rfl dX7_pensFor_38 ?_
        refine r_iload 4 rfl 41 rfl dX7_pensFor_39 ?_
        refine r_iload_n 1 rfl rfl 42 rfl dX7_pensFor_41 ?_
        refine r_isub 43 rfl dX7_pensFor_42 ?_
        refine r_iast sh_68 44 rfl dX7_pensFor_43 ?_
        refine r_iconst 1 (by decide) 45 rfl dX7_pensFor_44 ?_
        refine r_istore [(5, .int _), (0, k_rf E 67), (1, .int _), (2, .int _), (3, .int _), (4, .int _)] rfl (by decide) 47 rfl dX7_pensFor_45 ?_
        refine r_iconst 0 (by decide) 48 rfl dX7_pensFor_47 ?_
        refine r_istore [(6, .int _), (5, .int _), (0, k_rf E 67), (1, .int _), (2, .int _), (3, .int _), (4, .int _)] rfl (by decide) 50 rfl dX7_pensFor_48 ?_
        exact r_sub [2, 3, 4, 5, 6, 1, 0] rfl (gl_X7_pensFor_50 E   _ (fun x1 x2 x3 x4  σ => ih x1 x2 x3 x4  σ) 1000 _ _ _ _ _ _  _)
def f_X7_pensFor  (x1 : Int32) (σ : k_Mem) : Option (Int32 × k_Mem) :=
  if k_in (32 + x1) 250 then (
    l_X7_pensFor_15   1000 x1 0 (σ 68 (k_n (32 + x1))) 0 σ
  ) else none
set_option maxRecDepth 100000 in
theorem c_X7_pensFor (E : k_EV)   (x1 : Int32) (σ : k_Mem) : k_MC m_X7_pensFor E k_vi [k_rf E 67, .int x1] σ (f_X7_pensFor x1 σ) := by
  refine k_MC_of ⟨by decide, by decide⟩ (Nat.le_of_ble_eq_true rfl) ?_
  show k_GO _ _ _ 0 [(0, k_rf E 67), (1, .int x1)] [] σ _
  unfold f_X7_pensFor
  refine r_iconst 0 (by decide) 1 rfl dX7_pensFor_0 ?_
  refine r_istore_n [(2, .int _), (0, k_rf E 67), (1, .int _)] rfl rfl (by decide) 2 rfl dX7_pensFor_1 ?_
  refine r_aload_n 1 rfl rfl 3 rfl dX7_pensFor_2 ?_
  refine r_getr fl_X7_7 sh_67 rfl 6 rfl dX7_pensFor_3 ?_
  refine r_bipush 32 (by decide) 8 rfl dX7_pensFor_6 ?_
  refine r_iload_n 2 rfl rfl 9 rfl dX7_pensFor_8 ?_
  refine r_iadd 10 rfl dX7_pensFor_9 ?_
  refine r_iald sh_68 11 rfl dX7_pensFor_10 ?_
  refine r_istore_n [(3, .int _), (2, .int _), (0, k_rf E 67), (1, .int _)] rfl rfl (by decide) 12 rfl dX7_pensFor_11 ?_
  refine r_iconst 0 (by decide) 13 rfl dX7_pensFor_12 ?_
  refine r_istore [(4, .int _), (3, .int _), (2, .int _), (0, k_rf E 67), (1, .int _)] rfl (by decide) 15 rfl dX7_pensFor_13 ?_
  exact r_sub [3, 4, 2, 1, 0] rfl (gl_X7_pensFor_15 E     1000 _ _ _ _  _)
/-! HandMarketModel.fits(I)I -/
def f_X7_fits  (x1 : Int32) (σ : k_Mem) : Option (Int32 × k_Mem) :=
  k_bd (f_X7_isHand  x1 σ) (fun r1 σ1 =>
    if r1 = 0 then (
      some ((-1), σ1)
    ) else (
      k_bd (f_X7_pensFor  x1 σ1) (fun r3 σ3 =>
        some (r3, σ3)
      )
    )
  )
set_option maxRecDepth 100000 in
theorem c_X7_fits (E : k_EV)   (x1 : Int32) (σ : k_Mem) : k_MC m_X7_fits E k_vi [k_rf E 67, .int x1] σ (f_X7_fits x1 σ) := by
  refine k_MC_of ⟨by decide, by decide⟩ (Nat.le_of_ble_eq_true rfl) ?_
  show k_GO _ _ _ 0 [(0, k_rf E 67), (1, .int x1)] [] σ _
  unfold f_X7_fits
  refine r_aload_n 0 rfl rfl 1 rfl dX7_fits_0 ?_
  refine r_iload_n 1 rfl rfl 2 rfl dX7_fits_1 ?_
  refine r_calli (c_X7_isHand E   _ _) rfl sh_67 rfl ml_X7_158 cw_X7_isHand vw_X7_isHand (by decide) (Nat.le_of_ble_eq_true rfl) 5 rfl dX7_fits_2 (fun r1 σ1 => ?_)
  refine r_if_eq 16 8 rfl (by decide) dX7_fits_5 (fun c2 => ?_) (fun c2 => ?_)
  · refine r_iconst (-1) (by decide) 17 rfl dX7_fits_16 ?_
    exact r_iret rfl dX7_fits_17
  · refine r_aload_n 0 rfl rfl 9 rfl dX7_fits_8 ?_
    refine r_iload_n 1 rfl rfl 10 rfl dX7_fits_9 ?_
    refine r_calli (c_X7_pensFor E   _ _) rfl sh_67 rfl ml_X7_272 cw_X7_pensFor vw_X7_pensFor (by decide) (Nat.le_of_ble_eq_true rfl) 13 rfl dX7_fits_10 (fun r3 σ3 => ?_)
    refine r_goto 17 (by decide) dX7_fits_13 ?_
    exact r_iret rfl dX7_fits_17
/-! HandMarketModel.look(II)I -/
def j_X7_look_186  (k39 : Int32 → Int32 → Int32 → Int32 → Int32 → k_Mem → Option (Int32 × k_Mem)) (x2 : Int32) (x3 : Int32) (x5 : Int32) (x6 : Int32) (xs0 : Int32) (σ : k_Mem) : Option (Int32 × k_Mem) :=
  k39 x2 x3 xs0 x5 (x6 + 1) σ
set_option maxRecDepth 100000 in
theorem gj_X7_look_186 (E : k_EV)   (k39 : Int32 → Int32 → Int32 → Int32 → Int32 → k_Mem → Option (Int32 × k_Mem)) (hk39 : ∀ (x2 : Int32) (x3 : Int32) (x4 : Int32) (x5 : Int32) (x6 : Int32)  (σ : k_Mem), k_GO m_X7_look E k_vi 39 [(0, k_rf E 67), (2, .int x2), (3, .int x3), (4, .int x4), (5, .int x5), (6, .int x6)] [] σ (k39 x2 x3 x4 x5 x6 σ)) (x2 : Int32) (x3 : Int32) (x5 : Int32) (x6 : Int32) (xs0 : Int32)  (σ : k_Mem) : k_GO m_X7_look E k_vi 186 [(0, k_rf E 67), (2, .int x2), (3, .int x3), (5, .int x5), (6, .int x6)] [.int xs0] σ (j_X7_look_186  k39 x2 x3 x5 x6 xs0 σ) := by
  unfold j_X7_look_186
  refine r_istore [(4, .int _), (0, k_rf E 67), (2, .int _), (3, .int _), (5, .int _), (6, .int _)] rfl (by decide) 188 rfl dX7_look_186 ?_
  refine r_iinc 1 (by decide) 5 rfl [(6, .int _), (4, .int _), (0, k_rf E 67), (2, .int _), (3, .int _), (5, .int _)] rfl (by decide) 191 rfl dX7_look_188 ?_
  refine r_goto 39 (by decide) dX7_look_191 ?_
  exact r_sub [2, 3, 4, 1, 5, 0] rfl (hk39 _ _ _ _ _  _)
def j_X7_look_170  (k39 : Int32 → Int32 → Int32 → Int32 → Int32 → k_Mem → Option (Int32 × k_Mem)) (x2 : Int32) (x3 : Int32) (x4 : Int32) (x6 : Int32) (x7 : Int32) (xs0 : Int32) (σ : k_Mem) : Option (Int32 × k_Mem) :=
  if x4 ≤ x7 then (
    j_X7_look_186  k39 x2 x3 xs0 x6 x4 σ
  ) else (
    j_X7_look_186  k39 x2 x3 xs0 x6 x7 σ
  )
set_option maxRecDepth 100000 in
theorem gj_X7_look_170 (E : k_EV)   (k39 : Int32 → Int32 → Int32 → Int32 → Int32 → k_Mem → Option (Int32 × k_Mem)) (hk39 : ∀ (x2 : Int32) (x3 : Int32) (x4 : Int32) (x5 : Int32) (x6 : Int32)  (σ : k_Mem), k_GO m_X7_look E k_vi 39 [(0, k_rf E 67), (2, .int x2), (3, .int x3), (4, .int x4), (5, .int x5), (6, .int x6)] [] σ (k39 x2 x3 x4 x5 x6 σ)) (x2 : Int32) (x3 : Int32) (x4 : Int32) (x6 : Int32) (x7 : Int32) (xs0 : Int32)  (σ : k_Mem) : k_GO m_X7_look E k_vi 170 [(0, k_rf E 67), (2, .int x2), (3, .int x3), (4, .int x4), (6, .int x6), (7, .int x7)] [.int xs0] σ (j_X7_look_170  k39 x2 x3 x4 x6 x7 xs0 σ) := by
  unfold j_X7_look_170
  refine r_istore [(5, .int _), (0, k_rf E 67), (2, .int _), (3, .int _), (4, .int _), (6, .int _), (7, .int _)] rfl (by decide) 172 rfl dX7_look_170 ?_
  refine r_iload 6 rfl 174 rfl dX7_look_172 ?_
  refine r_iload 4 rfl 176 rfl dX7_look_174 ?_
  refine r_icmp_ge 184 179 rfl (by decide) dX7_look_176 (fun c12 => ?_) (fun c12 => ?_)
  · refine r_iload 4 rfl 186 rfl dX7_look_184 ?_
    exact r_sub [1, 2, 3, 0, 5] rfl (gj_X7_look_186 E   _ hk39 _ _ _ _ _  _)
  · refine r_iload 6 rfl 181 rfl dX7_look_179 ?_
    refine r_goto 186 (by decide) dX7_look_181 ?_
    exact r_sub [1, 2, 3, 0, 5] rfl (gj_X7_look_186 E   _ hk39 _ _ _ _ _  _)
def j_X7_look_148  (k39 : Int32 → Int32 → Int32 → Int32 → Int32 → k_Mem → Option (Int32 × k_Mem)) (k51 : Int32 → Int32 → Int32 → Int32 → Int32 → Int32 → Int32 → k_Mem → Option (Int32 × k_Mem)) (x2 : Int32) (x3 : Int32) (x4 : Int32) (x5 : Int32) (x6 : Int32) (x8 : Int32) (xs0 : Int32) (σ : k_Mem) : Option (Int32 × k_Mem) :=
  k51 x2 x3 x4 x5 x6 xs0 (x8 + 1) σ
set_option maxRecDepth 100000 in
theorem gj_X7_look_148 (E : k_EV)   (k39 : Int32 → Int32 → Int32 → Int32 → Int32 → k_Mem → Option (Int32 × k_Mem)) (k51 : Int32 → Int32 → Int32 → Int32 → Int32 → Int32 → Int32 → k_Mem → Option (Int32 × k_Mem)) (hk39 : ∀ (x2 : Int32) (x3 : Int32) (x4 : Int32) (x5 : Int32) (x6 : Int32)  (σ : k_Mem), k_GO m_X7_look E k_vi 39 [(0, k_rf E 67), (2, .int x2), (3, .int x3), (4, .int x4), (5, .int x5), (6, .int x6)] [] σ (k39 x2 x3 x4 x5 x6 σ)) (hk51 : ∀ (x2 : Int32) (x3 : Int32) (x4 : Int32) (x5 : Int32) (x6 : Int32) (x7 : Int32) (x8 : Int32)  (σ : k_Mem), k_GO m_X7_look E k_vi 51 [(0, k_rf E 67), (2, .int x2), (3, .int x3), (4, .int x4), (5, .int x5), (6, .int x6), (7, .int x7), (8, .int x8)] [] σ (k51 x2 x3 x4 x5 x6 x7 x8 σ)) (x2 : Int32) (x3 : Int32) (x4 : Int32) (x5 : Int32) (x6 : Int32) (x8 : Int32) (xs0 : Int32)  (σ : k_Mem) : k_GO m_X7_look E k_vi 148 [(0, k_rf E 67), (2, .int x2), (3, .int x3), (4, .int x4), (5, .int x5), (6, .int x6), (8, .int x8)] [.int xs0] σ (j_X7_look_148  k39 k51 x2 x3 x4 x5 x6 x8 xs0 σ) := by
  unfold j_X7_look_148
  refine r_istore [(7, .int _), (0, k_rf E 67), (2, .int _), (3, .int _), (4, .int _), (5, .int _), (6, .int _), (8, .int _)] rfl (by decide) 150 rfl dX7_look_148 ?_
  refine r_iinc 1 (by decide) 7 rfl [(8, .int _), (7, .int _), (0, k_rf E 67), (2, .int _), (3, .int _), (4, .int _), (5, .int _), (6, .int _)] rfl (by decide) 153 rfl dX7_look_150 ?_
  refine r_goto 51 (by decide) dX7_look_153 ?_
  exact r_sub [2, 3, 4, 5, 6, 7, 1, 0] rfl (hk51 _ _ _ _ _ _ _  _)
def j_X7_look_134  (k39 : Int32 → Int32 → Int32 → Int32 → Int32 → k_Mem → Option (Int32 × k_Mem)) (k51 : Int32 → Int32 → Int32 → Int32 → Int32 → Int32 → Int32 → k_Mem → Option (Int32 × k_Mem)) (x2 : Int32) (x3 : Int32) (x4 : Int32) (x5 : Int32) (x6 : Int32) (x7 : Int32) (x8 : Int32) (x9 : Int32) (σ : k_Mem) : Option (Int32 × k_Mem) :=
  if x9 ≤ x7 then (
    j_X7_look_148  k39 k51 x2 x3 x4 x5 x6 x8 x7 σ
  ) else (
    j_X7_look_148  k39 k51 x2 x3 x4 x5 x6 x8 x9 σ
  )
set_option maxRecDepth 100000 in
theorem gj_X7_look_134 (E : k_EV)   (k39 : Int32 → Int32 → Int32 → Int32 → Int32 → k_Mem → Option (Int32 × k_Mem)) (k51 : Int32 → Int32 → Int32 → Int32 → Int32 → Int32 → Int32 → k_Mem → Option (Int32 × k_Mem)) (hk39 : ∀ (x2 : Int32) (x3 : Int32) (x4 : Int32) (x5 : Int32) (x6 : Int32)  (σ : k_Mem), k_GO m_X7_look E k_vi 39 [(0, k_rf E 67), (2, .int x2), (3, .int x3), (4, .int x4), (5, .int x5), (6, .int x6)] [] σ (k39 x2 x3 x4 x5 x6 σ)) (hk51 : ∀ (x2 : Int32) (x3 : Int32) (x4 : Int32) (x5 : Int32) (x6 : Int32) (x7 : Int32) (x8 : Int32)  (σ : k_Mem), k_GO m_X7_look E k_vi 51 [(0, k_rf E 67), (2, .int x2), (3, .int x3), (4, .int x4), (5, .int x5), (6, .int x6), (7, .int x7), (8, .int x8)] [] σ (k51 x2 x3 x4 x5 x6 x7 x8 σ)) (x2 : Int32) (x3 : Int32) (x4 : Int32) (x5 : Int32) (x6 : Int32) (x7 : Int32) (x8 : Int32) (x9 : Int32)  (σ : k_Mem) : k_GO m_X7_look E k_vi 134 [(0, k_rf E 67), (2, .int x2), (3, .int x3), (4, .int x4), (5, .int x5), (6, .int x6), (7, .int x7), (8, .int x8), (9, .int x9)] [] σ (j_X7_look_134  k39 k51 x2 x3 x4 x5 x6 x7 x8 x9 σ) := by
  unfold j_X7_look_134
  refine r_iload 8 rfl 136 rfl dX7_look_134 ?_
  refine r_iload 6 rfl 138 rfl dX7_look_136 ?_
  refine r_icmp_le 146 141 rfl (by decide) dX7_look_138 (fun c14 => ?_) (fun c14 => ?_)
  · refine r_iload 6 rfl 148 rfl dX7_look_146 ?_
    exact r_sub [0, 1, 2, 3, 4, 5, 7] rfl (gj_X7_look_148 E   _ _ hk39 hk51 _ _ _ _ _ _ _  _)
  · refine r_iload 8 rfl 143 rfl dX7_look_141 ?_
    refine r_goto 148 (by decide) dX7_look_143 ?_
    exact r_sub [0, 1, 2, 3, 4, 5, 7] rfl (gj_X7_look_148 E   _ _ hk39 hk51 _ _ _ _ _ _ _  _)
def j_X7_look_125  (k39 : Int32 → Int32 → Int32 → Int32 → Int32 → k_Mem → Option (Int32 × k_Mem)) (k51 : Int32 → Int32 → Int32 → Int32 → Int32 → Int32 → Int32 → k_Mem → Option (Int32 × k_Mem)) (k64 : Int32 → Int32 → Int32 → Int32 → Int32 → Int32 → Int32 → Int32 → Int32 → k_Mem → Option (Int32 × k_Mem)) (x2 : Int32) (x3 : Int32) (x4 : Int32) (x5 : Int32) (x6 : Int32) (x7 : Int32) (x8 : Int32) (x10 : Int32) (xs0 : Int32) (xs1 : Int32) (σ : k_Mem) : Option (Int32 × k_Mem) :=
  k64 x2 x3 x4 x5 x6 x7 x8 (xs0 + xs1) (x10 + 1) σ
set_option maxRecDepth 100000 in
theorem gj_X7_look_125 (E : k_EV)   (k39 : Int32 → Int32 → Int32 → Int32 → Int32 → k_Mem → Option (Int32 × k_Mem)) (k51 : Int32 → Int32 → Int32 → Int32 → Int32 → Int32 → Int32 → k_Mem → Option (Int32 × k_Mem)) (k64 : Int32 → Int32 → Int32 → Int32 → Int32 → Int32 → Int32 → Int32 → Int32 → k_Mem → Option (Int32 × k_Mem)) (hk39 : ∀ (x2 : Int32) (x3 : Int32) (x4 : Int32) (x5 : Int32) (x6 : Int32)  (σ : k_Mem), k_GO m_X7_look E k_vi 39 [(0, k_rf E 67), (2, .int x2), (3, .int x3), (4, .int x4), (5, .int x5), (6, .int x6)] [] σ (k39 x2 x3 x4 x5 x6 σ)) (hk51 : ∀ (x2 : Int32) (x3 : Int32) (x4 : Int32) (x5 : Int32) (x6 : Int32) (x7 : Int32) (x8 : Int32)  (σ : k_Mem), k_GO m_X7_look E k_vi 51 [(0, k_rf E 67), (2, .int x2), (3, .int x3), (4, .int x4), (5, .int x5), (6, .int x6), (7, .int x7), (8, .int x8)] [] σ (k51 x2 x3 x4 x5 x6 x7 x8 σ)) (hk64 : ∀ (x2 : Int32) (x3 : Int32) (x4 : Int32) (x5 : Int32) (x6 : Int32) (x7 : Int32) (x8 : Int32) (x9 : Int32) (x10 : Int32)  (σ : k_Mem), k_GO m_X7_look E k_vi 64 [(0, k_rf E 67), (2, .int x2), (3, .int x3), (4, .int x4), (5, .int x5), (6, .int x6), (7, .int x7), (8, .int x8), (9, .int x9), (10, .int x10)] [] σ (k64 x2 x3 x4 x5 x6 x7 x8 x9 x10 σ)) (x2 : Int32) (x3 : Int32) (x4 : Int32) (x5 : Int32) (x6 : Int32) (x7 : Int32) (x8 : Int32) (x10 : Int32) (xs0 : Int32) (xs1 : Int32)  (σ : k_Mem) : k_GO m_X7_look E k_vi 125 [(0, k_rf E 67), (2, .int x2), (3, .int x3), (4, .int x4), (5, .int x5), (6, .int x6), (7, .int x7), (8, .int x8), (10, .int x10)] [.int xs1, .int xs0] σ (j_X7_look_125  k39 k51 k64 x2 x3 x4 x5 x6 x7 x8 x10 xs0 xs1 σ) := by
  unfold j_X7_look_125
  refine r_iadd 126 rfl dX7_look_125 ?_
  refine r_istore [(9, .int _), (0, k_rf E 67), (2, .int _), (3, .int _), (4, .int _), (5, .int _), (6, .int _), (7, .int _), (8, .int _), (10, .int _)] rfl (by decide) 128 rfl dX7_look_126 ?_
  refine r_iinc 1 (by decide) 9 rfl [(10, .int _), (9, .int _), (0, k_rf E 67), (2, .int _), (3, .int _), (4, .int _), (5, .int _), (6, .int _), (7, .int _), (8, .int _)] rfl (by decide) 131 rfl dX7_look_128 ?_
  refine r_goto 64 (by decide) dX7_look_131 ?_
  exact r_sub [2, 3, 4, 5, 6, 7, 8, 9, 1, 0] rfl (hk64 _ _ _ _ _ _ _ _ _  _)
def j_X7_look_124  (k39 : Int32 → Int32 → Int32 → Int32 → Int32 → k_Mem → Option (Int32 × k_Mem)) (k51 : Int32 → Int32 → Int32 → Int32 → Int32 → Int32 → Int32 → k_Mem → Option (Int32 × k_Mem)) (k64 : Int32 → Int32 → Int32 → Int32 → Int32 → Int32 → Int32 → Int32 → Int32 → k_Mem → Option (Int32 × k_Mem)) (x2 : Int32) (x3 : Int32) (x4 : Int32) (x5 : Int32) (x6 : Int32) (x7 : Int32) (x8 : Int32) (x10 : Int32) (xs0 : Int32) (σ : k_Mem) : Option (Int32 × k_Mem) :=
  j_X7_look_125  k39 k51 k64 x2 x3 x4 x5 x6 x7 x8 x10 xs0 0 σ
set_option maxRecDepth 100000 in
theorem gj_X7_look_124 (E : k_EV)   (k39 : Int32 → Int32 → Int32 → Int32 → Int32 → k_Mem → Option (Int32 × k_Mem)) (k51 : Int32 → Int32 → Int32 → Int32 → Int32 → Int32 → Int32 → k_Mem → Option (Int32 × k_Mem)) (k64 : Int32 → Int32 → Int32 → Int32 → Int32 → Int32 → Int32 → Int32 → Int32 → k_Mem → Option (Int32 × k_Mem)) (hk39 : ∀ (x2 : Int32) (x3 : Int32) (x4 : Int32) (x5 : Int32) (x6 : Int32)  (σ : k_Mem), k_GO m_X7_look E k_vi 39 [(0, k_rf E 67), (2, .int x2), (3, .int x3), (4, .int x4), (5, .int x5), (6, .int x6)] [] σ (k39 x2 x3 x4 x5 x6 σ)) (hk51 : ∀ (x2 : Int32) (x3 : Int32) (x4 : Int32) (x5 : Int32) (x6 : Int32) (x7 : Int32) (x8 : Int32)  (σ : k_Mem), k_GO m_X7_look E k_vi 51 [(0, k_rf E 67), (2, .int x2), (3, .int x3), (4, .int x4), (5, .int x5), (6, .int x6), (7, .int x7), (8, .int x8)] [] σ (k51 x2 x3 x4 x5 x6 x7 x8 σ)) (hk64 : ∀ (x2 : Int32) (x3 : Int32) (x4 : Int32) (x5 : Int32) (x6 : Int32) (x7 : Int32) (x8 : Int32) (x9 : Int32) (x10 : Int32)  (σ : k_Mem), k_GO m_X7_look E k_vi 64 [(0, k_rf E 67), (2, .int x2), (3, .int x3), (4, .int x4), (5, .int x5), (6, .int x6), (7, .int x7), (8, .int x8), (9, .int x9), (10, .int x10)] [] σ (k64 x2 x3 x4 x5 x6 x7 x8 x9 x10 σ)) (x2 : Int32) (x3 : Int32) (x4 : Int32) (x5 : Int32) (x6 : Int32) (x7 : Int32) (x8 : Int32) (x10 : Int32) (xs0 : Int32)  (σ : k_Mem) : k_GO m_X7_look E k_vi 124 [(0, k_rf E 67), (2, .int x2), (3, .int x3), (4, .int x4), (5, .int x5), (6, .int x6), (7, .int x7), (8, .int x8), (10, .int x10)] [.int xs0] σ (j_X7_look_124  k39 k51 k64 x2 x3 x4 x5 x6 x7 x8 x10 xs0 σ) := by
  unfold j_X7_look_124
  refine r_iconst 0 (by decide) 125 rfl dX7_look_124 ?_
  exact r_sub [0, 1, 2, 3, 4, 5, 6, 7, 8] rfl (gj_X7_look_125 E   _ _ _ hk39 hk51 hk64 _ _ _ _ _ _ _ _ _ _  _)
def l_X7_look_64  (k39 : Int32 → Int32 → Int32 → Int32 → Int32 → k_Mem → Option (Int32 × k_Mem)) (k51 : Int32 → Int32 → Int32 → Int32 → Int32 → Int32 → Int32 → k_Mem → Option (Int32 × k_Mem)) : Nat → Int32 → Int32 → Int32 → Int32 → Int32 → Int32 → Int32 → Int32 → Int32 → k_Mem → Option (Int32 × k_Mem)
  | 0, _, _, _, _, _, _, _, _, _, _ => none
  | n + 1, x2, x3, x4, x5, x6, x7, x8, x9, x10, σ =>
    if 8 ≤ x10 then (
      j_X7_look_134  k39 k51 x2 x3 x4 x5 x6 x7 x8 x9 σ
    ) else (
      if ((k_shr x3 x8) &&& 1) = 1 then (
        if ((k_shr x3 x10) &&& 1) = 1 then (
          if k_in ((3 * x8) + x6) 24 then (
            if k_in ((3 * x10) + x6) 24 then (
              if (σ 78 (k_n ((3 * x8) + x6))) = (σ 78 (k_n ((3 * x10) + x6))) then (
                j_X7_look_125  k39 k51 (fun x2 x3 x4 x5 x6 x7 x8 x9 x10 σ => l_X7_look_64  k39 k51 n x2 x3 x4 x5 x6 x7 x8 x9 x10 σ) x2 x3 x4 x5 x6 x7 x8 x10 x9 1 σ
              ) else (
                j_X7_look_124  k39 k51 (fun x2 x3 x4 x5 x6 x7 x8 x9 x10 σ => l_X7_look_64  k39 k51 n x2 x3 x4 x5 x6 x7 x8 x9 x10 σ) x2 x3 x4 x5 x6 x7 x8 x10 x9 σ
              )
            ) else none
          ) else none
        ) else (
          j_X7_look_124  k39 k51 (fun x2 x3 x4 x5 x6 x7 x8 x9 x10 σ => l_X7_look_64  k39 k51 n x2 x3 x4 x5 x6 x7 x8 x9 x10 σ) x2 x3 x4 x5 x6 x7 x8 x10 x9 σ
        )
      ) else (
        j_X7_look_134  k39 k51 x2 x3 x4 x5 x6 x7 x8 x9 σ
      )
    )
set_option maxRecDepth 100000 in
theorem gl_X7_look_64 (E : k_EV)   (k39 : Int32 → Int32 → Int32 → Int32 → Int32 → k_Mem → Option (Int32 × k_Mem)) (k51 : Int32 → Int32 → Int32 → Int32 → Int32 → Int32 → Int32 → k_Mem → Option (Int32 × k_Mem)) (hk39 : ∀ (x2 : Int32) (x3 : Int32) (x4 : Int32) (x5 : Int32) (x6 : Int32)  (σ : k_Mem), k_GO m_X7_look E k_vi 39 [(0, k_rf E 67), (2, .int x2), (3, .int x3), (4, .int x4), (5, .int x5), (6, .int x6)] [] σ (k39 x2 x3 x4 x5 x6 σ)) (hk51 : ∀ (x2 : Int32) (x3 : Int32) (x4 : Int32) (x5 : Int32) (x6 : Int32) (x7 : Int32) (x8 : Int32)  (σ : k_Mem), k_GO m_X7_look E k_vi 51 [(0, k_rf E 67), (2, .int x2), (3, .int x3), (4, .int x4), (5, .int x5), (6, .int x6), (7, .int x7), (8, .int x8)] [] σ (k51 x2 x3 x4 x5 x6 x7 x8 σ)) : ∀ (n : Nat) (x2 : Int32) (x3 : Int32) (x4 : Int32) (x5 : Int32) (x6 : Int32) (x7 : Int32) (x8 : Int32) (x9 : Int32) (x10 : Int32)  (σ : k_Mem), k_GO m_X7_look E k_vi 64 [(0, k_rf E 67), (2, .int x2), (3, .int x3), (4, .int x4), (5, .int x5), (6, .int x6), (7, .int x7), (8, .int x8), (9, .int x9), (10, .int x10)] [] σ (l_X7_look_64  k39 k51 n x2 x3 x4 x5 x6 x7 x8 x9 x10 σ) := by
  intro n
  induction n with
  | zero => intro x2 x3 x4 x5 x6 x7 x8 x9 x10  σ; exact r_none
  | succ n ih =>
    intro x2 x3 x4 x5 x6 x7 x8 x9 x10  σ
    rw [l_X7_look_64]
    refine r_iload 9 rfl 66 rfl dX7_look_64 ?_
    refine r_bipush 8 (by decide) 68 rfl dX7_look_66 ?_
    refine r_icmp_ge 134 71 rfl (by decide) dX7_look_68 (fun c13 => ?_) (fun c13 => ?_)
    · exact r_sub [0, 1, 2, 3, 4, 5, 6, 7, 8] rfl (gj_X7_look_134 E   _ _ hk39 hk51 _ _ _ _ _ _ _ _  _)
    · refine r_iload_n 2 rfl rfl 72 rfl dX7_look_71 ?_
      refine r_iload 7 rfl 74 rfl dX7_look_72 ?_
      refine r_ishr 75 rfl dX7_look_74 ?_
      refine r_iconst 1 (by decide) 76 rfl dX7_look_75 ?_
      refine r_iand 77 rfl dX7_look_76 ?_
      refine r_iconst 1 (by decide) 78 rfl dX7_look_77 ?_
      refine r_icmp_ne 134 81 rfl (by decide) dX7_look_78 (fun c15 => ?_) (fun c15 => ?_)
      · refine r_iload 8 rfl 83 rfl dX7_look_81 ?_
        refine r_iload_n 2 rfl rfl 84 rfl dX7_look_83 ?_
        refine r_iload 9 rfl 86 rfl dX7_look_84 ?_
        refine r_ishr 87 rfl dX7_look_86 ?_
        refine r_iconst 1 (by decide) 88 rfl dX7_look_87 ?_
        refine r_iand 89 rfl dX7_look_88 ?_
        refine r_iconst 1 (by decide) 90 rfl dX7_look_89 ?_
        refine r_icmp_ne 124 93 rfl (by decide) dX7_look_90 (fun c16 => ?_) (fun c16 => ?_)
        · refine r_aload_n 0 rfl rfl 94 rfl dX7_look_93 ?_
          refine r_getr fl_X7_40 sh_67 rfl 97 rfl dX7_look_94 ?_
          refine r_iconst 3 (by decide) 98 rfl dX7_look_97 ?_
          refine r_iload 7 rfl 100 rfl dX7_look_98 ?_
          refine r_imul 101 rfl dX7_look_100 ?_
          refine r_iload 5 rfl 103 rfl dX7_look_101 ?_
          refine r_iadd 104 rfl dX7_look_103 ?_
          refine r_iald sh_78 105 rfl dX7_look_104 ?_
          refine r_aload_n 0 rfl rfl 106 rfl dX7_look_105 ?_
          refine r_getr fl_X7_40 sh_67 rfl 109 rfl dX7_look_106 ?_
          refine r_iconst 3 (by decide) 110 rfl dX7_look_109 ?_
          refine r_iload 9 rfl 112 rfl dX7_look_110 ?_
          refine r_imul 113 rfl dX7_look_112 ?_
          refine r_iload 5 rfl 115 rfl dX7_look_113 ?_
          refine r_iadd 116 rfl dX7_look_115 ?_
          refine r_iald sh_78 117 rfl dX7_look_116 ?_
          refine r_icmp_ne 124 120 rfl (by decide) dX7_look_117 (fun c17 => ?_) (fun c17 => ?_)
          · refine r_iconst 1 (by decide) 121 rfl dX7_look_120 ?_
            refine r_goto 125 (by decide) dX7_look_121 ?_
            exact r_sub [0, 1, 2, 3, 4, 5, 6, 7, 9] rfl (gj_X7_look_125 E   _ _ _ hk39 hk51 (fun x2 x3 x4 x5 x6 x7 x8 x9 x10  σ => ih x2 x3 x4 x5 x6 x7 x8 x9 x10  σ) _ _ _ _ _ _ _ _ _ _  _)
          · exact r_sub [0, 1, 2, 3, 4, 5, 6, 7, 9] rfl (gj_X7_look_124 E   _ _ _ hk39 hk51 (fun x2 x3 x4 x5 x6 x7 x8 x9 x10  σ => ih x2 x3 x4 x5 x6 x7 x8 x9 x10  σ) _ _ _ _ _ _ _ _ _  _)
        · exact r_sub [0, 1, 2, 3, 4, 5, 6, 7, 9] rfl (gj_X7_look_124 E   _ _ _ hk39 hk51 (fun x2 x3 x4 x5 x6 x7 x8 x9 x10  σ => ih x2 x3 x4 x5 x6 x7 x8 x9 x10  σ) _ _ _ _ _ _ _ _ _  _)
      · exact r_sub [0, 1, 2, 3, 4, 5, 6, 7, 8] rfl (gj_X7_look_134 E   _ _ hk39 hk51 _ _ _ _ _ _ _ _  _)
def l_X7_look_51  (k39 : Int32 → Int32 → Int32 → Int32 → Int32 → k_Mem → Option (Int32 × k_Mem)) : Nat → Int32 → Int32 → Int32 → Int32 → Int32 → Int32 → Int32 → k_Mem → Option (Int32 × k_Mem)
  | 0, _, _, _, _, _, _, _, _ => none
  | n + 1, x2, x3, x4, x5, x6, x7, x8, σ =>
    if 8 ≤ x8 then (
      if x4 ≤ x7 then (
        j_X7_look_170  k39 x2 x3 x4 x6 x7 x5 σ
      ) else (
        j_X7_look_170  k39 x2 x3 x4 x6 x7 x6 σ
      )
    ) else (
      l_X7_look_64  k39 (fun x2 x3 x4 x5 x6 x7 x8 σ => l_X7_look_51  k39 n x2 x3 x4 x5 x6 x7 x8 σ) 1000 x2 x3 x4 x5 x6 x7 x8 0 0 σ
    )
set_option maxRecDepth 100000 in
theorem gl_X7_look_51 (E : k_EV)   (k39 : Int32 → Int32 → Int32 → Int32 → Int32 → k_Mem → Option (Int32 × k_Mem)) (hk39 : ∀ (x2 : Int32) (x3 : Int32) (x4 : Int32) (x5 : Int32) (x6 : Int32)  (σ : k_Mem), k_GO m_X7_look E k_vi 39 [(0, k_rf E 67), (2, .int x2), (3, .int x3), (4, .int x4), (5, .int x5), (6, .int x6)] [] σ (k39 x2 x3 x4 x5 x6 σ)) : ∀ (n : Nat) (x2 : Int32) (x3 : Int32) (x4 : Int32) (x5 : Int32) (x6 : Int32) (x7 : Int32) (x8 : Int32)  (σ : k_Mem), k_GO m_X7_look E k_vi 51 [(0, k_rf E 67), (2, .int x2), (3, .int x3), (4, .int x4), (5, .int x5), (6, .int x6), (7, .int x7), (8, .int x8)] [] σ (l_X7_look_51  k39 n x2 x3 x4 x5 x6 x7 x8 σ) := by
  intro n
  induction n with
  | zero => intro x2 x3 x4 x5 x6 x7 x8  σ; exact r_none
  | succ n ih =>
    intro x2 x3 x4 x5 x6 x7 x8  σ
    rw [l_X7_look_51]
    refine r_iload 7 rfl 53 rfl dX7_look_51 ?_
    refine r_bipush 8 (by decide) 55 rfl dX7_look_53 ?_
    refine r_icmp_ge 156 58 rfl (by decide) dX7_look_55 (fun c10 => ?_) (fun c10 => ?_)
    · refine r_iload 6 rfl 158 rfl dX7_look_156 ?_
      refine r_iload 3 rfl 160 rfl dX7_look_158 ?_
      refine r_icmp_ge 168 163 rfl (by decide) dX7_look_160 (fun c11 => ?_) (fun c11 => ?_)
      · refine r_iload 4 rfl 170 rfl dX7_look_168 ?_
        exact r_sub [0, 1, 2, 3, 5, 6] rfl (gj_X7_look_170 E   _ hk39 _ _ _ _ _ _  _)
      · refine r_iload 5 rfl 165 rfl dX7_look_163 ?_
        refine r_goto 170 (by decide) dX7_look_165 ?_
        exact r_sub [0, 1, 2, 3, 5, 6] rfl (gj_X7_look_170 E   _ hk39 _ _ _ _ _ _  _)
    · refine r_iconst 0 (by decide) 59 rfl dX7_look_58 ?_
      refine r_istore [(9, .int _), (0, k_rf E 67), (2, .int _), (3, .int _), (4, .int _), (5, .int _), (6, .int _), (7, .int _), (8, .int _)] rfl (by decide) 61 rfl dX7_look_59 ?_
      refine r_iconst 0 (by decide) 62 rfl dX7_look_61 ?_
      refine r_istore [(10, .int _), (9, .int _), (0, k_rf E 67), (2, .int _), (3, .int _), (4, .int _), (5, .int _), (6, .int _), (7, .int _), (8, .int _)] rfl (by decide) 64 rfl dX7_look_62 ?_
      exact r_sub [2, 3, 4, 5, 6, 7, 8, 9, 1, 0] rfl (gl_X7_look_64 E   _ _ hk39 (fun x2 x3 x4 x5 x6 x7 x8  σ => ih x2 x3 x4 x5 x6 x7 x8  σ) 1000 _ _ _ _ _ _ _ _ _  _)
def l_X7_look_39   : Nat → Int32 → Int32 → Int32 → Int32 → Int32 → k_Mem → Option (Int32 × k_Mem)
  | 0, _, _, _, _, _, _ => none
  | n + 1, x2, x3, x4, x5, x6, σ =>
    if 3 ≤ x6 then (
      if x5 = (-4) then (
        some (x5, σ)
      ) else (
        if x2 = 0 then (
          some (x5, σ)
        ) else (
          some (x4, σ)
        )
      )
    ) else (
      l_X7_look_51  (fun x2 x3 x4 x5 x6 σ => l_X7_look_39   n x2 x3 x4 x5 x6 σ) 1000 x2 x3 x4 x5 x6 0 0 σ
    )
set_option maxRecDepth 100000 in
theorem gl_X7_look_39 (E : k_EV)     : ∀ (n : Nat) (x2 : Int32) (x3 : Int32) (x4 : Int32) (x5 : Int32) (x6 : Int32)  (σ : k_Mem), k_GO m_X7_look E k_vi 39 [(0, k_rf E 67), (2, .int x2), (3, .int x3), (4, .int x4), (5, .int x5), (6, .int x6)] [] σ (l_X7_look_39   n x2 x3 x4 x5 x6 σ) := by
  intro n
  induction n with
  | zero => intro x2 x3 x4 x5 x6  σ; exact r_none
  | succ n ih =>
    intro x2 x3 x4 x5 x6  σ
    rw [l_X7_look_39]
    refine r_iload 5 rfl 41 rfl dX7_look_39 ?_
    refine r_iconst 3 (by decide) 42 rfl dX7_look_41 ?_
    refine r_icmp_ge 194 45 rfl (by decide) dX7_look_42 (fun c7 => ?_) (fun c7 => ?_)
    · refine r_iload 4 rfl 196 rfl dX7_look_194 ?_
      refine r_bipush (-4) (by decide) 198 rfl dX7_look_196 ?_
      refine r_icmp_eq 205 201 rfl (by decide) dX7_look_198 (fun c8 => ?_) (fun c8 => ?_)
      · refine r_iload 4 rfl 207 rfl dX7_look_205 ?_
        refine r_goto 212 (by decide) dX7_look_207 ?_
        exact r_iret rfl dX7_look_212
      · refine r_iload_n 1 rfl rfl 202 rfl dX7_look_201 ?_
        refine r_if_ne 210 205 rfl (by decide) dX7_look_202 (fun c9 => ?_) (fun c9 => ?_)
        · refine r_iload 4 rfl 207 rfl dX7_look_205 ?_
          refine r_goto 212 (by decide) dX7_look_207 ?_
          exact r_iret rfl dX7_look_212
        · refine r_iload 3 rfl 212 rfl dX7_look_210 ?_
          exact r_iret rfl dX7_look_212
    · refine r_iconst 0 (by decide) 46 rfl dX7_look_45 ?_
      refine r_istore [(7, .int _), (0, k_rf E 67), (2, .int _), (3, .int _), (4, .int _), (5, .int _), (6, .int _)] rfl (by decide) 48 rfl dX7_look_46 ?_
      refine r_iconst 0 (by decide) 49 rfl dX7_look_48 ?_
      refine r_istore [(8, .int _), (7, .int _), (0, k_rf E 67), (2, .int _), (3, .int _), (4, .int _), (5, .int _), (6, .int _)] rfl (by decide) 51 rfl dX7_look_49 ?_
      exact r_sub [2, 3, 4, 5, 6, 7, 1, 0] rfl (gl_X7_look_51 E   _ (fun x2 x3 x4 x5 x6  σ => ih x2 x3 x4 x5 x6  σ) 1000 _ _ _ _ _ _ _  _)
def f_X7_look  (x1 : Int32) (x2 : Int32) (σ : k_Mem) : Option (Int32 × k_Mem) :=
  k_bd (f_X7_isHand  x1 σ) (fun r1 σ1 =>
    if r1 = 0 then (
      some ((-1), σ1)
    ) else (
      k_bd (f_X7_in  (Int32.toInt64 x2) 0 1 σ1) (fun r3 σ3 =>
        if r3 = 0 then (
          some ((-1), σ3)
        ) else (
          k_bd (f_X7_pensFor  x1 σ3) (fun r5 σ5 =>
            k_bd (f_X7_bitsOf  r5 σ5) (fun r6 σ6 =>
              l_X7_look_39   1000 x2 r5 r6 (-4) 0 σ6
            )
          )
        )
      )
    )
  )
set_option maxRecDepth 100000 in
theorem c_X7_look (E : k_EV)   (x1 : Int32) (x2 : Int32) (σ : k_Mem) : k_MC m_X7_look E k_vi [k_rf E 67, .int x1, .int x2] σ (f_X7_look x1 x2 σ) := by
  refine k_MC_of ⟨by decide, by decide⟩ (Nat.le_of_ble_eq_true rfl) ?_
  show k_GO _ _ _ 0 [(0, k_rf E 67), (1, .int x1), (2, .int x2)] [] σ _
  unfold f_X7_look
  refine r_aload_n 0 rfl rfl 1 rfl dX7_look_0 ?_
  refine r_iload_n 1 rfl rfl 2 rfl dX7_look_1 ?_
  refine r_calli (c_X7_isHand E   _ _) rfl sh_67 rfl ml_X7_158 cw_X7_isHand vw_X7_isHand (by decide) (Nat.le_of_ble_eq_true rfl) 5 rfl dX7_look_2 (fun r1 σ1 => ?_)
  refine r_if_eq 18 8 rfl (by decide) dX7_look_5 (fun c2 => ?_) (fun c2 => ?_)
  · refine r_iconst (-1) (by decide) 19 rfl dX7_look_18 ?_
    exact r_iret rfl dX7_look_19
  · refine r_iload_n 2 rfl rfl 9 rfl dX7_look_8 ?_
    refine r_i2l 10 rfl dX7_look_9 ?_
    refine r_lconst 0 (by decide) 11 rfl dX7_look_10 ?_
    refine r_lconst 1 (by decide) 12 rfl dX7_look_11 ?_
    refine r_callsi (c_X7_in E   _ _ _ _) rfl ml_X7_58 cw_X7_in sw_X7_in (by decide) (Nat.le_of_ble_eq_true rfl) 15 rfl dX7_look_12 (fun r3 σ3 => ?_)
    refine r_if_ne 20 18 rfl (by decide) dX7_look_15 (fun c4 => ?_) (fun c4 => ?_)
    · refine r_iconst (-1) (by decide) 19 rfl dX7_look_18 ?_
      exact r_iret rfl dX7_look_19
    · refine r_aload_n 0 rfl rfl 21 rfl dX7_look_20 ?_
      refine r_iload_n 1 rfl rfl 22 rfl dX7_look_21 ?_
      refine r_calli (c_X7_pensFor E   _ _) rfl sh_67 rfl ml_X7_272 cw_X7_pensFor vw_X7_pensFor (by decide) (Nat.le_of_ble_eq_true rfl) 25 rfl dX7_look_22 (fun r5 σ5 => ?_)
      refine r_istore_n [(3, .int _), (0, k_rf E 67), (1, .int _), (2, .int _)] rfl rfl (by decide) 26 rfl dX7_look_25 ?_
      refine r_iload_n 0 rfl rfl 27 rfl dX7_look_26 ?_
      refine r_callsi (c_X7_bitsOf E   _ _) rfl ml_X7_216 cw_X7_bitsOf sw_X7_bitsOf (by decide) (Nat.le_of_ble_eq_true rfl) 30 rfl dX7_look_27 (fun r6 σ6 => ?_)
      refine r_istore [(4, .int _), (3, .int _), (0, k_rf E 67), (1, .int _), (2, .int _)] rfl (by decide) 32 rfl dX7_look_30 ?_
      refine r_bipush (-4) (by decide) 34 rfl dX7_look_32 ?_
      refine r_istore [(5, .int _), (4, .int _), (3, .int _), (0, k_rf E 67), (1, .int _), (2, .int _)] rfl (by decide) 36 rfl dX7_look_34 ?_
      refine r_iconst 0 (by decide) 37 rfl dX7_look_36 ?_
      refine r_istore [(6, .int _), (5, .int _), (4, .int _), (3, .int _), (0, k_rf E 67), (1, .int _), (2, .int _)] rfl (by decide) 39 rfl dX7_look_37 ?_
      exact r_sub [4, 6, 3, 2, 1, 0] rfl (gl_X7_look_39 E     1000 _ _ _ _ _  _)
/-! HandMarketModel.drawsHand()I -/
def f_X7_drawsHand   (σ : k_Mem) : Option (Int32 × k_Mem) :=
  if (((k_mset σ 67 27 (((σ 67 27) * 1103515245) + 12345)) 67 1) + ((k_mset σ 67 27 (((σ 67 27) * 1103515245) + 12345)) 67 2)) = 0 then none else (
    k_lt ((k_rem ((k_shr ((k_mset σ 67 27 (((σ 67 27) * 1103515245) + 12345)) 67 27) 16) &&& 32767) (((k_mset σ 67 27 (((σ 67 27) * 1103515245) + 12345)) 67 1) + ((k_mset σ 67 27 (((σ 67 27) * 1103515245) + 12345)) 67 2)))) (fun z2 =>
      if ((k_mset σ 67 27 (((σ 67 27) * 1103515245) + 12345)) 67 1) ≤ z2 then (
        some (((4 + z2) - ((k_mset σ 67 27 (((σ 67 27) * 1103515245) + 12345)) 67 1)), (k_mset σ 67 27 (((σ 67 27) * 1103515245) + 12345)))
      ) else (
        some (z2, (k_mset σ 67 27 (((σ 67 27) * 1103515245) + 12345)))
      )
    )
  )
set_option maxRecDepth 100000 in
theorem c_X7_drawsHand (E : k_EV)    (σ : k_Mem) : k_MC m_X7_drawsHand E k_vi [k_rf E 67] σ (f_X7_drawsHand  σ) := by
  refine k_MC_of ⟨by decide, by decide⟩ (Nat.le_of_ble_eq_true rfl) ?_
  show k_GO _ _ _ 0 [(0, k_rf E 67)] [] σ _
  unfold f_X7_drawsHand
  refine r_aload_n 0 rfl rfl 1 rfl dX7_drawsHand_0 ?_
  refine r_aload_n 0 rfl rfl 2 rfl dX7_drawsHand_1 ?_
  refine r_geti fl_X7_275 sh_67 rfl 5 rfl dX7_drawsHand_2 ?_
  refine r_ldcw cs_X7_278 8 rfl dX7_drawsHand_5 ?_
  refine r_imul 9 rfl dX7_drawsHand_8 ?_
  refine r_sipush 12345 (by decide) 12 rfl dX7_drawsHand_9 ?_
  refine r_iadd 13 rfl dX7_drawsHand_12 ?_
  refine r_puti fp_X7_275 sh_67 rfl 16 rfl dX7_drawsHand_13 ?_
  refine r_aload_n 0 rfl rfl 17 rfl dX7_drawsHand_16 ?_
  refine r_geti fl_X7_275 sh_67 rfl 20 rfl dX7_drawsHand_17 ?_
  refine r_bipush 16 (by decide) 22 rfl dX7_drawsHand_20 ?_
  refine r_ishr 23 rfl dX7_drawsHand_22 ?_
  refine r_sipush 32767 (by decide) 26 rfl dX7_drawsHand_23 ?_
  refine r_iand 27 rfl dX7_drawsHand_26 ?_
  refine r_aload_n 0 rfl rfl 28 rfl dX7_drawsHand_27 ?_
  refine r_geti fl_X7_147 sh_67 rfl 31 rfl dX7_drawsHand_28 ?_
  refine r_aload_n 0 rfl rfl 32 rfl dX7_drawsHand_31 ?_
  refine r_geti fl_X7_150 sh_67 rfl 35 rfl dX7_drawsHand_32 ?_
  refine r_iadd 36 rfl dX7_drawsHand_35 ?_
  refine r_nz (fun c1 => ?_)
  refine r_irem c1 37 rfl dX7_drawsHand_36 ?_
  refine r_lt ?_
  refine r_istore_n [(1, .int _), (0, k_rf E 67)] rfl rfl (by decide) 38 rfl dX7_drawsHand_37 ?_
  refine r_iload_n 0 rfl rfl 39 rfl dX7_drawsHand_38 ?_
  refine r_aload_n 1 rfl rfl 40 rfl dX7_drawsHand_39 ?_
  refine r_geti fl_X7_147 sh_67 rfl 43 rfl dX7_drawsHand_40 ?_
  refine r_icmp_ge 50 46 rfl (by decide) dX7_drawsHand_43 (fun c3 => ?_) (fun c3 => ?_)
  · refine r_iconst 4 (by decide) 51 rfl dX7_drawsHand_50 ?_
    refine r_iload_n 0 rfl rfl 52 rfl dX7_drawsHand_51 ?_
    refine r_iadd 53 rfl dX7_drawsHand_52 ?_
    refine r_aload_n 1 rfl rfl 54 rfl dX7_drawsHand_53 ?_
    refine r_geti fl_X7_147 sh_67 rfl 57 rfl dX7_drawsHand_54 ?_
    refine r_isub 58 rfl dX7_drawsHand_57 ?_
    exact r_iret rfl dX7_drawsHand_58
  · refine r_iload_n 0 rfl rfl 47 rfl dX7_drawsHand_46 ?_
    refine r_goto 58 (by decide) dX7_drawsHand_47 ?_
    exact r_iret rfl dX7_drawsHand_58
/-! HandMarketModel.drift(III)I -/
def l_X7_drift_58   : Nat → Int32 → Int32 → Int32 → Int32 → k_Mem → Option (Int32 × k_Mem)
  | 0, _, _, _, _, _ => none
  | n + 1, x2, x3, x4, x5, σ =>
    if x2 ≤ x5 then (
      k_bd (f_X7_copies  200 0 σ) (fun _ σ8 =>
        if x3 = 0 then (
          k_bd (f_X7_pairMany   σ8) (fun r10 σ10 =>
            some (r10, σ10)
          )
        ) else (
          some (x4, σ8)
        )
      )
    ) else (
      k_bd (f_X7_drawsHand   σ) (fun r11 σ11 =>
        k_bd (f_X7_drawsHand   σ11) (fun r12 σ12 =>
          k_bd (f_X7_pens  r11 r12 σ12) (fun r13 σ13 =>
            k_bd (f_X7_askingNow  0 σ13) (fun _ σ14 =>
              k_bd (f_X7_likesInAll   σ14) (fun r15 σ15 =>
                l_X7_drift_58   n x2 x3 (x4 + r15) (x5 + 1) σ15
              )
            )
          )
        )
      )
    )
set_option maxRecDepth 100000 in
theorem gl_X7_drift_58 (E : k_EV)     : ∀ (n : Nat) (x2 : Int32) (x3 : Int32) (x4 : Int32) (x5 : Int32)  (σ : k_Mem), k_GO m_X7_drift E k_vi 58 [(0, k_rf E 67), (2, .int x2), (3, .int x3), (4, .int x4), (5, .int x5)] [] σ (l_X7_drift_58   n x2 x3 x4 x5 σ) := by
  intro n
  induction n with
  | zero => intro x2 x3 x4 x5  σ; exact r_none
  | succ n ih =>
    intro x2 x3 x4 x5  σ
    rw [l_X7_drift_58]
    refine r_iload 4 rfl 60 rfl dX7_drift_58 ?_
    refine r_iload_n 1 rfl rfl 61 rfl dX7_drift_60 ?_
    refine r_icmp_ge 101 64 rfl (by decide) dX7_drift_61 (fun c7 => ?_) (fun c7 => ?_)
    · refine r_aload_n 0 rfl rfl 102 rfl dX7_drift_101 ?_
      refine r_sipush 200 (by decide) 105 rfl dX7_drift_102 ?_
      refine r_iconst 0 (by decide) 106 rfl dX7_drift_105 ?_
      refine r_callv (c_X7_copies E   _ _ _) rfl sh_67 rfl ml_X7_254 cw_X7_copies vw_X7_copies (by decide) (Nat.le_of_ble_eq_true rfl) 109 rfl dX7_drift_106 (fun _ σ8 => ?_)
      refine r_iload_n 2 rfl rfl 110 rfl dX7_drift_109 ?_
      refine r_if_ne 120 113 rfl (by decide) dX7_drift_110 (fun c9 => ?_) (fun c9 => ?_)
      · refine r_aload_n 0 rfl rfl 114 rfl dX7_drift_113 ?_
        refine r_calli (c_X7_pairMany E    _) rfl sh_67 rfl ml_X7_228 cw_X7_pairMany vw_X7_pairMany (by decide) (Nat.le_of_ble_eq_true rfl) 117 rfl dX7_drift_114 (fun r10 σ10 => ?_)
        refine r_goto 122 (by decide) dX7_drift_117 ?_
        exact r_iret rfl dX7_drift_122
      · refine r_iload 3 rfl 122 rfl dX7_drift_120 ?_
        exact r_iret rfl dX7_drift_122
    · refine r_aload_n 0 rfl rfl 65 rfl dX7_drift_64 ?_
      refine r_calli (c_X7_drawsHand E    _) rfl sh_67 rfl ml_X7_281 cw_X7_drawsHand vw_X7_drawsHand (by decide) (Nat.le_of_ble_eq_true rfl) 68 rfl dX7_drift_65 (fun r11 σ11 => ?_)
      refine r_istore [(6, .int _), (0, k_rf E 67), (2, .int _), (3, .int _), (4, .int _), (5, .int _)] rfl (by decide) 70 rfl dX7_drift_68 ?_
      refine r_aload_n 1 rfl rfl 71 rfl dX7_drift_70 ?_
      refine r_iload 0 rfl 73 rfl dX7_drift_71 ?_
      refine r_aload_n 1 rfl rfl 74 rfl dX7_drift_73 ?_
      refine r_calli (c_X7_drawsHand E    _) rfl sh_67 rfl ml_X7_281 cw_X7_drawsHand vw_X7_drawsHand (by decide) (Nat.le_of_ble_eq_true rfl) 77 rfl dX7_drift_74 (fun r12 σ12 => ?_)
      refine r_calli (c_X7_pens E   _ _ _) rfl sh_67 rfl ml_X7_206 cw_X7_pens vw_X7_pens (by decide) (Nat.le_of_ble_eq_true rfl) 80 rfl dX7_drift_77 (fun r13 σ13 => ?_)
      refine r_pop 81 rfl dX7_drift_80 rfl ?_
      refine r_aload_n 1 rfl rfl 82 rfl dX7_drift_81 ?_
      refine r_iconst 0 (by decide) 83 rfl dX7_drift_82 ?_
      refine r_callv (c_X7_askingNow E   _ _) rfl sh_67 rfl ml_X7_225 cw_X7_askingNow vw_X7_askingNow (by decide) (Nat.le_of_ble_eq_true rfl) 86 rfl dX7_drift_83 (fun _ σ14 => ?_)
      refine r_iload 4 rfl 88 rfl dX7_drift_86 ?_
      refine r_aload_n 1 rfl rfl 89 rfl dX7_drift_88 ?_
      refine r_calli (c_X7_likesInAll E    _) rfl sh_67 rfl ml_X7_231 cw_X7_likesInAll vw_X7_likesInAll (by decide) (Nat.le_of_ble_eq_true rfl) 92 rfl dX7_drift_89 (fun r15 σ15 => ?_)
      refine r_iadd 93 rfl dX7_drift_92 ?_
      refine r_istore [(4, .int _), (6, .int _), (0, k_rf E 67), (2, .int _), (3, .int _), (5, .int _)] rfl (by decide) 95 rfl dX7_drift_93 ?_
      refine r_iinc 1 (by decide) 5 rfl [(5, .int _), (4, .int _), (6, .int _), (0, k_rf E 67), (2, .int _), (3, .int _)] rfl (by decide) 98 rfl dX7_drift_95 ?_
      refine r_goto 58 (by decide) dX7_drift_98 ?_
      exact r_sub [3, 4, 5, 1, 0] rfl (ih _ _ _ _  _)
def f_X7_drift  (x1 : Int32) (x2 : Int32) (x3 : Int32) (σ : k_Mem) : Option (Int32 × k_Mem) :=
  k_bd (f_X7_in  (Int32.toInt64 x2) 1 60 σ) (fun r1 σ1 =>
    if r1 = 0 then (
      some ((-1), σ1)
    ) else (
      k_bd (f_X7_in  (Int32.toInt64 x3) 0 1 σ1) (fun r3 σ3 =>
        if r3 = 0 then (
          some ((-1), σ3)
        ) else (
          if ((σ3 67 1) + (σ3 67 2)) = 0 then (
            some ((-2), σ3)
          ) else (
            k_bd (f_X7_copies  0 200 σ3) (fun _ σ6 =>
              l_X7_drift_58   1000 x2 x3 0 0 (k_mset σ6 67 27 x1)
            )
          )
        )
      )
    )
  )
set_option maxRecDepth 100000 in
theorem c_X7_drift (E : k_EV)   (x1 : Int32) (x2 : Int32) (x3 : Int32) (σ : k_Mem) : k_MC m_X7_drift E k_vi [k_rf E 67, .int x1, .int x2, .int x3] σ (f_X7_drift x1 x2 x3 σ) := by
  refine k_MC_of ⟨by decide, by decide⟩ (Nat.le_of_ble_eq_true rfl) ?_
  show k_GO _ _ _ 0 [(0, k_rf E 67), (1, .int x1), (2, .int x2), (3, .int x3)] [] σ _
  unfold f_X7_drift
  refine r_iload_n 2 rfl rfl 1 rfl dX7_drift_0 ?_
  refine r_i2l 2 rfl dX7_drift_1 ?_
  refine r_lconst 1 (by decide) 3 rfl dX7_drift_2 ?_
  refine r_ldc2 cs_X7_279 6 rfl dX7_drift_3 ?_
  refine r_callsi (c_X7_in E   _ _ _ _) rfl ml_X7_58 cw_X7_in sw_X7_in (by decide) (Nat.le_of_ble_eq_true rfl) 9 rfl dX7_drift_6 (fun r1 σ1 => ?_)
  refine r_if_eq 22 12 rfl (by decide) dX7_drift_9 (fun c2 => ?_) (fun c2 => ?_)
  · refine r_iconst (-1) (by decide) 23 rfl dX7_drift_22 ?_
    exact r_iret rfl dX7_drift_23
  · refine r_iload_n 3 rfl rfl 13 rfl dX7_drift_12 ?_
    refine r_i2l 14 rfl dX7_drift_13 ?_
    refine r_lconst 0 (by decide) 15 rfl dX7_drift_14 ?_
    refine r_lconst 1 (by decide) 16 rfl dX7_drift_15 ?_
    refine r_callsi (c_X7_in E   _ _ _ _) rfl ml_X7_58 cw_X7_in sw_X7_in (by decide) (Nat.le_of_ble_eq_true rfl) 19 rfl dX7_drift_16 (fun r3 σ3 => ?_)
    refine r_if_ne 24 22 rfl (by decide) dX7_drift_19 (fun c4 => ?_) (fun c4 => ?_)
    · refine r_iconst (-1) (by decide) 23 rfl dX7_drift_22 ?_
      exact r_iret rfl dX7_drift_23
    · refine r_aload_n 0 rfl rfl 25 rfl dX7_drift_24 ?_
      refine r_geti fl_X7_147 sh_67 rfl 28 rfl dX7_drift_25 ?_
      refine r_aload_n 0 rfl rfl 29 rfl dX7_drift_28 ?_
      refine r_geti fl_X7_150 sh_67 rfl 32 rfl dX7_drift_29 ?_
      refine r_iadd 33 rfl dX7_drift_32 ?_
      refine r_if_ne 39 36 rfl (by decide) dX7_drift_33 (fun c5 => ?_) (fun c5 => ?_)
      · refine r_bipush (-2) (by decide) 38 rfl dX7_drift_36 ?_
        exact r_iret rfl dX7_drift_38
      · refine r_aload_n 0 rfl rfl 40 rfl dX7_drift_39 ?_
        refine r_iconst 0 (by decide) 41 rfl dX7_drift_40 ?_
        refine r_sipush 200 (by decide) 44 rfl dX7_drift_41 ?_
        refine r_callv (c_X7_copies E   _ _ _) rfl sh_67 rfl ml_X7_254 cw_X7_copies vw_X7_copies (by decide) (Nat.le_of_ble_eq_true rfl) 47 rfl dX7_drift_44 (fun _ σ6 => ?_)
        refine r_aload_n 0 rfl rfl 48 rfl dX7_drift_47 ?_
        refine r_iload_n 1 rfl rfl 49 rfl dX7_drift_48 ?_
        refine r_puti fp_X7_275 sh_67 rfl 52 rfl dX7_drift_49 ?_
        refine r_iconst 0 (by decide) 53 rfl dX7_drift_52 ?_
        refine r_istore [(4, .int _), (0, k_rf E 67), (1, .int _), (2, .int _), (3, .int _)] rfl (by decide) 55 rfl dX7_drift_53 ?_
        refine r_iconst 0 (by decide) 56 rfl dX7_drift_55 ?_
        refine r_istore [(5, .int _), (4, .int _), (0, k_rf E 67), (1, .int _), (2, .int _), (3, .int _)] rfl (by decide) 58 rfl dX7_drift_56 ?_
        exact r_sub [2, 4, 5, 1, 0] rfl (gl_X7_drift_58 E     1000 _ _ _ _  _)
/-! HandMarketModel.keep(I)I -/
def j_X7_keep_37   (x1 : Int32) (xs0 : Int32) (σ : k_Mem) : Option (Int32 × k_Mem) :=
  if k_in x1 2 then (
    some (xs0, (k_mset σ 79 (k_n x1) (vp_nar .boolean 1)))
  ) else none
set_option maxRecDepth 100000 in
theorem gj_X7_keep_37 (E : k_EV)     (x1 : Int32) (xs0 : Int32)  (σ : k_Mem) : k_GO m_X7_keep E k_vi 37 [(0, k_rf E 67), (1, .int x1)] [.int xs0] σ (j_X7_keep_37   x1 xs0 σ) := by
  unfold j_X7_keep_37
  refine r_istore_n [(2, .int _), (0, k_rf E 67), (1, .int _)] rfl rfl (by decide) 38 rfl dX7_keep_37 ?_
  refine r_aload_n 1 rfl rfl 39 rfl dX7_keep_38 ?_
  refine r_getr fl_X7_43 sh_67 rfl 42 rfl dX7_keep_39 ?_
  refine r_iload_n 2 rfl rfl 43 rfl dX7_keep_42 ?_
  refine r_iconst 1 (by decide) 44 rfl dX7_keep_43 ?_
  refine r_zast sh_79 45 rfl dX7_keep_44 ?_
  refine r_iload_n 0 rfl rfl 46 rfl dX7_keep_45 ?_
  exact r_iret rfl dX7_keep_46
def f_X7_keep  (x1 : Int32) (σ : k_Mem) : Option (Int32 × k_Mem) :=
  k_bd (f_X7_in  (Int32.toInt64 x1) 0 1 σ) (fun r1 σ1 =>
    if r1 = 0 then (
      some ((-1), σ1)
    ) else (
      k_bd (f_X7_copies  0 (50 * (x1 + 1)) σ1) (fun _ σ3 =>
        if k_in x1 2 then (
          if (σ3 79 (k_n x1)) = 0 then (
            j_X7_keep_37   x1 0 σ3
          ) else (
            j_X7_keep_37   x1 1 σ3
          )
        ) else none
      )
    )
  )
set_option maxRecDepth 100000 in
theorem c_X7_keep (E : k_EV)   (x1 : Int32) (σ : k_Mem) : k_MC m_X7_keep E k_vi [k_rf E 67, .int x1] σ (f_X7_keep x1 σ) := by
  refine k_MC_of ⟨by decide, by decide⟩ (Nat.le_of_ble_eq_true rfl) ?_
  show k_GO _ _ _ 0 [(0, k_rf E 67), (1, .int x1)] [] σ _
  unfold f_X7_keep
  refine r_iload_n 1 rfl rfl 1 rfl dX7_keep_0 ?_
  refine r_i2l 2 rfl dX7_keep_1 ?_
  refine r_lconst 0 (by decide) 3 rfl dX7_keep_2 ?_
  refine r_lconst 1 (by decide) 4 rfl dX7_keep_3 ?_
  refine r_callsi (c_X7_in E   _ _ _ _) rfl ml_X7_58 cw_X7_in sw_X7_in (by decide) (Nat.le_of_ble_eq_true rfl) 7 rfl dX7_keep_4 (fun r1 σ1 => ?_)
  refine r_if_ne 12 10 rfl (by decide) dX7_keep_7 (fun c2 => ?_) (fun c2 => ?_)
  · refine r_iconst (-1) (by decide) 11 rfl dX7_keep_10 ?_
    exact r_iret rfl dX7_keep_11
  · refine r_aload_n 0 rfl rfl 13 rfl dX7_keep_12 ?_
    refine r_iconst 0 (by decide) 14 rfl dX7_keep_13 ?_
    refine r_bipush 50 (by decide) 16 rfl dX7_keep_14 ?_
    refine r_iload_n 1 rfl rfl 17 rfl dX7_keep_16 ?_
    refine r_iconst 1 (by decide) 18 rfl dX7_keep_17 ?_
    refine r_iadd 19 rfl dX7_keep_18 ?_
    refine r_imul 20 rfl dX7_keep_19 ?_
    refine r_callv (c_X7_copies E   _ _ _) rfl sh_67 rfl ml_X7_254 cw_X7_copies vw_X7_copies (by decide) (Nat.le_of_ble_eq_true rfl) 23 rfl dX7_keep_20 (fun _ σ3 => ?_)
    refine r_aload_n 0 rfl rfl 24 rfl dX7_keep_23 ?_
    refine r_getr fl_X7_43 sh_67 rfl 27 rfl dX7_keep_24 ?_
    refine r_iload_n 1 rfl rfl 28 rfl dX7_keep_27 ?_
    refine r_zald sh_79 29 rfl dX7_keep_28 ?_
    refine r_if_eq 36 32 rfl (by decide) dX7_keep_29 (fun c4 => ?_) (fun c4 => ?_)
    · refine r_iconst 0 (by decide) 37 rfl dX7_keep_36 ?_
      exact r_sub [0, 1] rfl (gj_X7_keep_37 E     _ _  _)
    · refine r_iconst 1 (by decide) 33 rfl dX7_keep_32 ?_
      refine r_goto 37 (by decide) dX7_keep_33 ?_
      exact r_sub [0, 1] rfl (gj_X7_keep_37 E     _ _  _)
/-! HandMarketModel.back(I)I -/
def f_X7_back  (x1 : Int32) (σ : k_Mem) : Option (Int32 × k_Mem) :=
  k_bd (f_X7_in  (Int32.toInt64 x1) 0 1 σ) (fun r1 σ1 =>
    if r1 = 0 then (
      some ((-1), σ1)
    ) else (
      if k_in x1 2 then (
        if (σ1 79 (k_n x1)) = 0 then (
          some ((-2), σ1)
        ) else (
          k_bd (f_X7_copies  (50 * (x1 + 1)) 0 σ1) (fun _ σ4 =>
            if k_in 49 250 then (
              some ((σ4 68 (k_n 49)), σ4)
            ) else none
          )
        )
      ) else none
    )
  )
set_option maxRecDepth 100000 in
theorem c_X7_back (E : k_EV)   (x1 : Int32) (σ : k_Mem) : k_MC m_X7_back E k_vi [k_rf E 67, .int x1] σ (f_X7_back x1 σ) := by
  refine k_MC_of ⟨by decide, by decide⟩ (Nat.le_of_ble_eq_true rfl) ?_
  show k_GO _ _ _ 0 [(0, k_rf E 67), (1, .int x1)] [] σ _
  unfold f_X7_back
  refine r_iload_n 1 rfl rfl 1 rfl dX7_back_0 ?_
  refine r_i2l 2 rfl dX7_back_1 ?_
  refine r_lconst 0 (by decide) 3 rfl dX7_back_2 ?_
  refine r_lconst 1 (by decide) 4 rfl dX7_back_3 ?_
  refine r_callsi (c_X7_in E   _ _ _ _) rfl ml_X7_58 cw_X7_in sw_X7_in (by decide) (Nat.le_of_ble_eq_true rfl) 7 rfl dX7_back_4 (fun r1 σ1 => ?_)
  refine r_if_ne 12 10 rfl (by decide) dX7_back_7 (fun c2 => ?_) (fun c2 => ?_)
  · refine r_iconst (-1) (by decide) 11 rfl dX7_back_10 ?_
    exact r_iret rfl dX7_back_11
  · refine r_aload_n 0 rfl rfl 13 rfl dX7_back_12 ?_
    refine r_getr fl_X7_43 sh_67 rfl 16 rfl dX7_back_13 ?_
    refine r_iload_n 1 rfl rfl 17 rfl dX7_back_16 ?_
    refine r_zald sh_79 18 rfl dX7_back_17 ?_
    refine r_if_ne 24 21 rfl (by decide) dX7_back_18 (fun c3 => ?_) (fun c3 => ?_)
    · refine r_bipush (-2) (by decide) 23 rfl dX7_back_21 ?_
      exact r_iret rfl dX7_back_23
    · refine r_aload_n 0 rfl rfl 25 rfl dX7_back_24 ?_
      refine r_bipush 50 (by decide) 27 rfl dX7_back_25 ?_
      refine r_iload_n 1 rfl rfl 28 rfl dX7_back_27 ?_
      refine r_iconst 1 (by decide) 29 rfl dX7_back_28 ?_
      refine r_iadd 30 rfl dX7_back_29 ?_
      refine r_imul 31 rfl dX7_back_30 ?_
      refine r_iconst 0 (by decide) 32 rfl dX7_back_31 ?_
      refine r_callv (c_X7_copies E   _ _ _) rfl sh_67 rfl ml_X7_254 cw_X7_copies vw_X7_copies (by decide) (Nat.le_of_ble_eq_true rfl) 35 rfl dX7_back_32 (fun _ σ4 => ?_)
      refine r_aload_n 0 rfl rfl 36 rfl dX7_back_35 ?_
      refine r_getr fl_X7_7 sh_67 rfl 39 rfl dX7_back_36 ?_
      refine r_bipush 49 (by decide) 41 rfl dX7_back_39 ?_
      refine r_iald sh_68 42 rfl dX7_back_41 ?_
      exact r_iret rfl dX7_back_42
/-! HandMarketModel.sheet(III)I -/
def l_X7_sheet_56   : Nat → Int32 → Int32 → k_Mem → Option (Int32 × k_Mem)
  | 0, _, _, _ => none
  | n + 1, x1, x4, σ =>
    if 40 ≤ x4 then (
      some (1, σ)
    ) else (
      if k_in ((40 * x1) + x4) 160 then (
        l_X7_sheet_56   n x1 (x4 + 1) (k_mset σ 82 (k_n ((40 * x1) + x4)) 0)
      ) else none
    )
set_option maxRecDepth 100000 in
theorem gl_X7_sheet_56 (E : k_EV)     : ∀ (n : Nat) (x1 : Int32) (x4 : Int32)  (σ : k_Mem), k_GO m_X7_sheet E k_vi 56 [(0, k_rf E 67), (1, .int x1), (4, .int x4)] [] σ (l_X7_sheet_56   n x1 x4 σ) := by
  intro n
  induction n with
  | zero => intro x1 x4  σ; exact r_none
  | succ n ih =>
    intro x1 x4  σ
    rw [l_X7_sheet_56]
    refine r_iload 2 rfl 58 rfl dX7_sheet_56 ?_
    refine r_bipush 40 (by decide) 60 rfl dX7_sheet_58 ?_
    refine r_icmp_ge 82 63 rfl (by decide) dX7_sheet_60 (fun c7 => ?_) (fun c7 => ?_)
    · refine r_iconst 1 (by decide) 83 rfl dX7_sheet_82 ?_
      exact r_iret rfl dX7_sheet_83
    · refine r_aload_n 0 rfl rfl 64 rfl dX7_sheet_63 ?_
      refine r_getr fl_X7_53 sh_67 rfl 67 rfl dX7_sheet_64 ?_
      refine r_bipush 40 (by decide) 69 rfl dX7_sheet_67 ?_
      refine r_iload_n 1 rfl rfl 70 rfl dX7_sheet_69 ?_
      refine r_imul 71 rfl dX7_sheet_70 ?_
      refine r_iload 2 rfl 73 rfl dX7_sheet_71 ?_
      refine r_iadd 74 rfl dX7_sheet_73 ?_
      refine r_iconst 0 (by decide) 75 rfl dX7_sheet_74 ?_
      refine r_iast sh_82 76 rfl dX7_sheet_75 ?_
      refine r_iinc 1 (by decide) 2 rfl [(4, .int _), (0, k_rf E 67), (1, .int _)] rfl (by decide) 79 rfl dX7_sheet_76 ?_
      refine r_goto 56 (by decide) dX7_sheet_79 ?_
      exact r_sub [1, 2, 0] rfl (ih _ _  _)
def f_X7_sheet  (x1 : Int32) (x2 : Int32) (x3 : Int32) (σ : k_Mem) : Option (Int32 × k_Mem) :=
  k_bd (f_X7_in  (Int32.toInt64 x1) 0 3 σ) (fun r1 σ1 =>
    if r1 = 0 then (
      some ((-1), σ1)
    ) else (
      k_bd (f_X7_in  (Int32.toInt64 x2) 0 2 σ1) (fun r3 σ3 =>
        if r3 = 0 then (
          some ((-1), σ3)
        ) else (
          if x3 ≤ 40 then (
            if 0 ≤ x3 then (
              if k_in x1 4 then (
                if k_in x1 4 then (
                  l_X7_sheet_56   1000 x1 0 (k_mset (k_mset σ3 80 (k_n x1) x2) 81 (k_n x1) x3)
                ) else none
              ) else none
            ) else (
              some ((-14), σ3)
            )
          ) else (
            some ((-1), σ3)
          )
        )
      )
    )
  )
set_option maxRecDepth 100000 in
theorem c_X7_sheet (E : k_EV)   (x1 : Int32) (x2 : Int32) (x3 : Int32) (σ : k_Mem) : k_MC m_X7_sheet E k_vi [k_rf E 67, .int x1, .int x2, .int x3] σ (f_X7_sheet x1 x2 x3 σ) := by
  refine k_MC_of ⟨by decide, by decide⟩ (Nat.le_of_ble_eq_true rfl) ?_
  show k_GO _ _ _ 0 [(0, k_rf E 67), (1, .int x1), (2, .int x2), (3, .int x3)] [] σ _
  unfold f_X7_sheet
  refine r_iload_n 1 rfl rfl 1 rfl dX7_sheet_0 ?_
  refine r_i2l 2 rfl dX7_sheet_1 ?_
  refine r_lconst 0 (by decide) 3 rfl dX7_sheet_2 ?_
  refine r_ldc2 cs_X7_209 6 rfl dX7_sheet_3 ?_
  refine r_callsi (c_X7_in E   _ _ _ _) rfl ml_X7_58 cw_X7_in sw_X7_in (by decide) (Nat.le_of_ble_eq_true rfl) 9 rfl dX7_sheet_6 (fun r1 σ1 => ?_)
  refine r_if_eq 30 12 rfl (by decide) dX7_sheet_9 (fun c2 => ?_) (fun c2 => ?_)
  · refine r_iconst (-1) (by decide) 31 rfl dX7_sheet_30 ?_
    exact r_iret rfl dX7_sheet_31
  · refine r_iload_n 2 rfl rfl 13 rfl dX7_sheet_12 ?_
    refine r_i2l 14 rfl dX7_sheet_13 ?_
    refine r_lconst 0 (by decide) 15 rfl dX7_sheet_14 ?_
    refine r_ldc2 cs_X7_184 18 rfl dX7_sheet_15 ?_
    refine r_callsi (c_X7_in E   _ _ _ _) rfl ml_X7_58 cw_X7_in sw_X7_in (by decide) (Nat.le_of_ble_eq_true rfl) 21 rfl dX7_sheet_18 (fun r3 σ3 => ?_)
    refine r_if_eq 30 24 rfl (by decide) dX7_sheet_21 (fun c4 => ?_) (fun c4 => ?_)
    · refine r_iconst (-1) (by decide) 31 rfl dX7_sheet_30 ?_
      exact r_iret rfl dX7_sheet_31
    · refine r_iload_n 3 rfl rfl 25 rfl dX7_sheet_24 ?_
      refine r_bipush 40 (by decide) 27 rfl dX7_sheet_25 ?_
      refine r_icmp_le 32 30 rfl (by decide) dX7_sheet_27 (fun c5 => ?_) (fun c5 => ?_)
      · refine r_iload_n 3 rfl rfl 33 rfl dX7_sheet_32 ?_
        refine r_if_ge 39 36 rfl (by decide) dX7_sheet_33 (fun c6 => ?_) (fun c6 => ?_)
        · refine r_aload_n 0 rfl rfl 40 rfl dX7_sheet_39 ?_
          refine r_getr fl_X7_47 sh_67 rfl 43 rfl dX7_sheet_40 ?_
          refine r_iload_n 1 rfl rfl 44 rfl dX7_sheet_43 ?_
          refine r_iload_n 2 rfl rfl 45 rfl dX7_sheet_44 ?_
          refine r_iast sh_80 46 rfl dX7_sheet_45 ?_
          refine r_aload_n 0 rfl rfl 47 rfl dX7_sheet_46 ?_
          refine r_getr fl_X7_50 sh_67 rfl 50 rfl dX7_sheet_47 ?_
          refine r_iload_n 1 rfl rfl 51 rfl dX7_sheet_50 ?_
          refine r_iload_n 3 rfl rfl 52 rfl dX7_sheet_51 ?_
          refine r_iast sh_81 53 rfl dX7_sheet_52 ?_
          refine r_iconst 0 (by decide) 54 rfl dX7_sheet_53 ?_
          refine r_istore [(4, .int _), (0, k_rf E 67), (1, .int _), (2, .int _), (3, .int _)] rfl (by decide) 56 rfl dX7_sheet_54 ?_
          exact r_sub [1, 2, 0] rfl (gl_X7_sheet_56 E     1000 _ _  _)
        · refine r_bipush (-14) (by decide) 38 rfl dX7_sheet_36 ?_
          exact r_iret rfl dX7_sheet_38
      · refine r_iconst (-1) (by decide) 31 rfl dX7_sheet_30 ?_
        exact r_iret rfl dX7_sheet_31
/-! HandMarketModel.lay(III)I -/
def j_X7_lay_99   (xs1 : Int32) (xs2 : Int32) (σ : k_Mem) : Option (Int32 × k_Mem) :=
  if k_in xs1 160 then (
    some (1, (k_mset σ 82 (k_n xs1) xs2))
  ) else none
set_option maxRecDepth 100000 in
theorem gj_X7_lay_99 (E : k_EV)     (xs1 : Int32) (xs2 : Int32)  (σ : k_Mem) : k_GO m_X7_lay E k_vi 99 [] [.int xs2, .int xs1, k_rf E 82] σ (j_X7_lay_99   xs1 xs2 σ) := by
  unfold j_X7_lay_99
  refine r_iast sh_82 100 rfl dX7_lay_99 ?_
  refine r_iconst 1 (by decide) 101 rfl dX7_lay_100 ?_
  exact r_iret rfl dX7_lay_101
def f_X7_lay  (x1 : Int32) (x2 : Int32) (x3 : Int32) (σ : k_Mem) : Option (Int32 × k_Mem) :=
  k_bd (f_X7_in  (Int32.toInt64 x1) 0 3 σ) (fun r1 σ1 =>
    if r1 = 0 then (
      some ((-1), σ1)
    ) else (
      if k_in x1 4 then (
        if (σ1 80 (k_n x1)) = (-4) then (
          some ((-11), σ1)
        ) else (
          if k_in x1 4 then (
            k_bd (f_X7_in  (Int32.toInt64 x2) 0 (Int32.toInt64 ((σ1 81 (k_n x1)) - 1)) σ1) (fun r4 σ4 =>
              if r4 = 0 then (
                some ((-12), σ4)
              ) else (
                if k_in x1 4 then (
                  if (σ4 80 (k_n x1)) = 0 then (
                    j_X7_lay_99   ((40 * x1) + x2) (k_shr (k_shl x3 24) 24) σ4
                  ) else (
                    if k_in x1 4 then (
                      if (σ4 80 (k_n x1)) = 1 then (
                        j_X7_lay_99   ((40 * x1) + x2) (k_shr (k_shl x3 16) 16) σ4
                      ) else (
                        j_X7_lay_99   ((40 * x1) + x2) x3 σ4
                      )
                    ) else none
                  )
                ) else none
              )
            )
          ) else none
        )
      ) else none
    )
  )
set_option maxRecDepth 100000 in
theorem c_X7_lay (E : k_EV)   (x1 : Int32) (x2 : Int32) (x3 : Int32) (σ : k_Mem) : k_MC m_X7_lay E k_vi [k_rf E 67, .int x1, .int x2, .int x3] σ (f_X7_lay x1 x2 x3 σ) := by
  refine k_MC_of ⟨by decide, by decide⟩ (Nat.le_of_ble_eq_true rfl) ?_
  show k_GO _ _ _ 0 [(0, k_rf E 67), (1, .int x1), (2, .int x2), (3, .int x3)] [] σ _
  unfold f_X7_lay
  refine r_iload_n 1 rfl rfl 1 rfl dX7_lay_0 ?_
  refine r_i2l 2 rfl dX7_lay_1 ?_
  refine r_lconst 0 (by decide) 3 rfl dX7_lay_2 ?_
  refine r_ldc2 cs_X7_209 6 rfl dX7_lay_3 ?_
  refine r_callsi (c_X7_in E   _ _ _ _) rfl ml_X7_58 cw_X7_in sw_X7_in (by decide) (Nat.le_of_ble_eq_true rfl) 9 rfl dX7_lay_6 (fun r1 σ1 => ?_)
  refine r_if_ne 14 12 rfl (by decide) dX7_lay_9 (fun c2 => ?_) (fun c2 => ?_)
  · refine r_iconst (-1) (by decide) 13 rfl dX7_lay_12 ?_
    exact r_iret rfl dX7_lay_13
  · refine r_aload_n 0 rfl rfl 15 rfl dX7_lay_14 ?_
    refine r_getr fl_X7_47 sh_67 rfl 18 rfl dX7_lay_15 ?_
    refine r_iload_n 1 rfl rfl 19 rfl dX7_lay_18 ?_
    refine r_iald sh_80 20 rfl dX7_lay_19 ?_
    refine r_bipush (-4) (by decide) 22 rfl dX7_lay_20 ?_
    refine r_icmp_ne 28 25 rfl (by decide) dX7_lay_22 (fun c3 => ?_) (fun c3 => ?_)
    · refine r_bipush (-11) (by decide) 27 rfl dX7_lay_25 ?_
      exact r_iret rfl dX7_lay_27
    · refine r_iload_n 2 rfl rfl 29 rfl dX7_lay_28 ?_
      refine r_i2l 30 rfl dX7_lay_29 ?_
      refine r_lconst 0 (by decide) 31 rfl dX7_lay_30 ?_
      refine r_aload_n 0 rfl rfl 32 rfl dX7_lay_31 ?_
      refine r_getr fl_X7_50 sh_67 rfl 35 rfl dX7_lay_32 ?_
      refine r_iload_n 1 rfl rfl 36 rfl dX7_lay_35 ?_
      refine r_iald sh_81 37 rfl dX7_lay_36 ?_
      refine r_iconst 1 (by decide) 38 rfl dX7_lay_37 ?_
      refine r_isub 39 rfl dX7_lay_38 ?_
      refine r_i2l 40 rfl dX7_lay_39 ?_
      refine r_callsi (c_X7_in E   _ _ _ _) rfl ml_X7_58 cw_X7_in sw_X7_in (by decide) (Nat.le_of_ble_eq_true rfl) 43 rfl dX7_lay_40 (fun r4 σ4 => ?_)
      refine r_if_ne 49 46 rfl (by decide) dX7_lay_43 (fun c5 => ?_) (fun c5 => ?_)
      · refine r_bipush (-12) (by decide) 48 rfl dX7_lay_46 ?_
        exact r_iret rfl dX7_lay_48
      · refine r_aload_n 0 rfl rfl 50 rfl dX7_lay_49 ?_
        refine r_getr fl_X7_53 sh_67 rfl 53 rfl dX7_lay_50 ?_
        refine r_bipush 40 (by decide) 55 rfl dX7_lay_53 ?_
        refine r_iload_n 1 rfl rfl 56 rfl dX7_lay_55 ?_
        refine r_imul 57 rfl dX7_lay_56 ?_
        refine r_iload_n 2 rfl rfl 58 rfl dX7_lay_57 ?_
        refine r_iadd 59 rfl dX7_lay_58 ?_
        refine r_aload_n 0 rfl rfl 60 rfl dX7_lay_59 ?_
        refine r_getr fl_X7_47 sh_67 rfl 63 rfl dX7_lay_60 ?_
        refine r_iload_n 1 rfl rfl 64 rfl dX7_lay_63 ?_
        refine r_iald sh_80 65 rfl dX7_lay_64 ?_
        refine r_if_ne 78 68 rfl (by decide) dX7_lay_65 (fun c6 => ?_) (fun c6 => ?_)
        · refine r_iload_n 3 rfl rfl 69 rfl dX7_lay_68 ?_
          refine r_bipush 24 (by decide) 71 rfl dX7_lay_69 ?_
          refine r_ishl 72 rfl dX7_lay_71 ?_
          refine r_bipush 24 (by decide) 74 rfl dX7_lay_72 ?_
          refine r_ishr 75 rfl dX7_lay_74 ?_
          refine r_goto 99 (by decide) dX7_lay_75 ?_
          exact r_sub [] rfl (gj_X7_lay_99 E     _ _  _)
        · refine r_aload_n 0 rfl rfl 79 rfl dX7_lay_78 ?_
          refine r_getr fl_X7_47 sh_67 rfl 82 rfl dX7_lay_79 ?_
          refine r_iload_n 1 rfl rfl 83 rfl dX7_lay_82 ?_
          refine r_iald sh_80 84 rfl dX7_lay_83 ?_
          refine r_iconst 1 (by decide) 85 rfl dX7_lay_84 ?_
          refine r_icmp_ne 98 88 rfl (by decide) dX7_lay_85 (fun c7 => ?_) (fun c7 => ?_)
          · refine r_iload_n 3 rfl rfl 89 rfl dX7_lay_88 ?_
            refine r_bipush 16 (by decide) 91 rfl dX7_lay_89 ?_
            refine r_ishl 92 rfl dX7_lay_91 ?_
            refine r_bipush 16 (by decide) 94 rfl dX7_lay_92 ?_
            refine r_ishr 95 rfl dX7_lay_94 ?_
            refine r_goto 99 (by decide) dX7_lay_95 ?_
            exact r_sub [] rfl (gj_X7_lay_99 E     _ _  _)
          · refine r_iload_n 3 rfl rfl 99 rfl dX7_lay_98 ?_
            exact r_sub [] rfl (gj_X7_lay_99 E     _ _  _)
/-! HandMarketModel.read(IIII)I -/
def j_X7_read_198   (x5 : Int32) (x6 : Int32) (σ : k_Mem) : Option (Int32 × k_Mem) :=
  some (x6, (k_mset σ 67 32 x5))
set_option maxRecDepth 100000 in
theorem gj_X7_read_198 (E : k_EV)     (x5 : Int32) (x6 : Int32)  (σ : k_Mem) : k_GO m_X7_read E k_vi 198 [(0, k_rf E 67), (5, .int x5), (6, .int x6)] [] σ (j_X7_read_198   x5 x6 σ) := by
  unfold j_X7_read_198
  refine r_aload_n 0 rfl rfl 199 rfl dX7_read_198 ?_
  refine r_iload 1 rfl 201 rfl dX7_read_199 ?_
  refine r_puti fp_X7_284 sh_67 rfl 204 rfl dX7_read_201 ?_
  refine r_iload 2 rfl 206 rfl dX7_read_204 ?_
  exact r_iret rfl dX7_read_206
def j_X7_read_192  (k56 : Int32 → Int32 → Int32 → Int32 → Int32 → Int32 → Int32 → k_Mem → Option (Int32 × k_Mem)) (x1 : Int32) (x2 : Int32) (x3 : Int32) (x4 : Int32) (x5 : Int32) (x6 : Int32) (x7 : Int32) (σ : k_Mem) : Option (Int32 × k_Mem) :=
  k56 x1 x2 x3 x4 x5 x6 (x7 + 1) σ
set_option maxRecDepth 100000 in
theorem gj_X7_read_192 (E : k_EV)   (k56 : Int32 → Int32 → Int32 → Int32 → Int32 → Int32 → Int32 → k_Mem → Option (Int32 × k_Mem)) (hk56 : ∀ (x1 : Int32) (x2 : Int32) (x3 : Int32) (x4 : Int32) (x5 : Int32) (x6 : Int32) (x7 : Int32)  (σ : k_Mem), k_GO m_X7_read E k_vi 56 [(0, k_rf E 67), (1, .int x1), (2, .int x2), (3, .int x3), (4, .int x4), (5, .int x5), (6, .int x6), (7, .int x7)] [] σ (k56 x1 x2 x3 x4 x5 x6 x7 σ)) (x1 : Int32) (x2 : Int32) (x3 : Int32) (x4 : Int32) (x5 : Int32) (x6 : Int32) (x7 : Int32)  (σ : k_Mem) : k_GO m_X7_read E k_vi 192 [(0, k_rf E 67), (1, .int x1), (2, .int x2), (3, .int x3), (4, .int x4), (5, .int x5), (6, .int x6), (7, .int x7)] [] σ (j_X7_read_192  k56 x1 x2 x3 x4 x5 x6 x7 σ) := by
  unfold j_X7_read_192
  refine r_iinc 1 (by decide) 7 rfl [(7, .int _), (0, k_rf E 67), (1, .int _), (2, .int _), (3, .int _), (4, .int _), (5, .int _), (6, .int _)] rfl (by decide) 195 rfl dX7_read_192 ?_
  refine r_goto 56 (by decide) dX7_read_195 ?_
  exact r_sub [1, 2, 3, 4, 5, 6, 7, 0] rfl (hk56 _ _ _ _ _ _ _  _)
def j_X7_read_126  (k56 : Int32 → Int32 → Int32 → Int32 → Int32 → Int32 → Int32 → k_Mem → Option (Int32 × k_Mem)) (x1 : Int32) (x2 : Int32) (x3 : Int32) (x4 : Int32) (x6 : Int32) (x7 : Int32) (xs0 : Int32) (σ : k_Mem) : Option (Int32 × k_Mem) :=
  if xs0 = 0 then (
    if (k_rem x7 2) = 1 then (
      if k_in ((((40 * x1) + x3) + x7) - 1) 160 then (
        if k_in (((40 * x1) + x3) + x7) 160 then (
          k_bd (f_X7_pens  (σ 82 (k_n ((((40 * x1) + x3) + x7) - 1))) (σ 82 (k_n (((40 * x1) + x3) + x7))) σ) (fun r13 σ13 =>
            if 0 ≤ r13 then (
              j_X7_read_192  k56 x1 x2 x3 x4 xs0 (x6 + 1) x7 σ13
            ) else (
              k_bd (f_X7_copies  150 0 σ13) (fun _ σ15 =>
                some (((-20) - x6), σ15)
              )
            )
          )
        ) else none
      ) else none
    ) else (
      j_X7_read_192  k56 x1 x2 x3 x4 xs0 x6 x7 σ
    )
  ) else (
    j_X7_read_192  k56 x1 x2 x3 x4 xs0 x6 x7 σ
  )
set_option maxRecDepth 100000 in
theorem gj_X7_read_126 (E : k_EV)   (k56 : Int32 → Int32 → Int32 → Int32 → Int32 → Int32 → Int32 → k_Mem → Option (Int32 × k_Mem)) (hk56 : ∀ (x1 : Int32) (x2 : Int32) (x3 : Int32) (x4 : Int32) (x5 : Int32) (x6 : Int32) (x7 : Int32)  (σ : k_Mem), k_GO m_X7_read E k_vi 56 [(0, k_rf E 67), (1, .int x1), (2, .int x2), (3, .int x3), (4, .int x4), (5, .int x5), (6, .int x6), (7, .int x7)] [] σ (k56 x1 x2 x3 x4 x5 x6 x7 σ)) (x1 : Int32) (x2 : Int32) (x3 : Int32) (x4 : Int32) (x6 : Int32) (x7 : Int32) (xs0 : Int32)  (σ : k_Mem) : k_GO m_X7_read E k_vi 126 [(0, k_rf E 67), (1, .int x1), (2, .int x2), (3, .int x3), (4, .int x4), (6, .int x6), (7, .int x7)] [.int xs0] σ (j_X7_read_126  k56 x1 x2 x3 x4 x6 x7 xs0 σ) := by
  unfold j_X7_read_126
  refine r_istore [(5, .int _), (0, k_rf E 67), (1, .int _), (2, .int _), (3, .int _), (4, .int _), (6, .int _), (7, .int _)] rfl (by decide) 128 rfl dX7_read_126 ?_
  refine r_iload 0 rfl 130 rfl dX7_read_128 ?_
  refine r_if_ne 192 133 rfl (by decide) dX7_read_130 (fun c11 => ?_) (fun c11 => ?_)
  · refine r_iload 7 rfl 135 rfl dX7_read_133 ?_
    refine r_iconst 2 (by decide) 136 rfl dX7_read_135 ?_
    refine r_irem (by decide) 137 rfl dX7_read_136 ?_
    refine r_iconst 1 (by decide) 138 rfl dX7_read_137 ?_
    refine r_icmp_ne 192 141 rfl (by decide) dX7_read_138 (fun c12 => ?_) (fun c12 => ?_)
    · refine r_bipush 40 (by decide) 143 rfl dX7_read_141 ?_
      refine r_iload_n 2 rfl rfl 144 rfl dX7_read_143 ?_
      refine r_imul 145 rfl dX7_read_144 ?_
      refine r_iload_n 4 rfl rfl 146 rfl dX7_read_145 ?_
      refine r_iadd 147 rfl dX7_read_146 ?_
      refine r_iload 7 rfl 149 rfl dX7_read_147 ?_
      refine r_iadd 150 rfl dX7_read_149 ?_
      refine r_istore [(8, .int _), (5, .int _), (0, k_rf E 67), (1, .int _), (2, .int _), (3, .int _), (4, .int _), (6, .int _), (7, .int _)] rfl (by decide) 152 rfl dX7_read_150 ?_
      refine r_aload_n 2 rfl rfl 153 rfl dX7_read_152 ?_
      refine r_aload_n 2 rfl rfl 154 rfl dX7_read_153 ?_
      refine r_getr fl_X7_53 sh_67 rfl 157 rfl dX7_read_154 ?_
      refine r_iload 0 rfl 159 rfl dX7_read_157 ?_
      refine r_iconst 1 (by decide) 160 rfl dX7_read_159 ?_
      refine r_isub 161 rfl dX7_read_160 ?_
      refine r_iald sh_82 162 rfl dX7_read_161 ?_
      refine r_aload_n 2 rfl rfl 163 rfl dX7_read_162 ?_
      refine r_getr fl_X7_53 sh_67 rfl 166 rfl dX7_read_163 ?_
      refine r_iload 0 rfl 168 rfl dX7_read_166 ?_
      refine r_iald sh_82 169 rfl dX7_read_168 ?_
      refine r_calli (c_X7_pens E   _ _ _) rfl sh_67 rfl ml_X7_206 cw_X7_pens vw_X7_pens (by decide) (Nat.le_of_ble_eq_true rfl) 172 rfl dX7_read_169 (fun r13 σ13 => ?_)
      refine r_if_ge 189 175 rfl (by decide) dX7_read_172 (fun c14 => ?_) (fun c14 => ?_)
      · refine r_iinc 1 (by decide) 7 rfl [(6, .int _), (8, .int _), (5, .int _), (0, k_rf E 67), (1, .int _), (2, .int _), (3, .int _), (4, .int _), (7, .int _)] rfl (by decide) 192 rfl dX7_read_189 ?_
        exact r_sub [3, 4, 5, 6, 7, 2, 0, 8] rfl (gj_X7_read_192 E   _ hk56 _ _ _ _ _ _ _  _)
      · refine r_aload_n 2 rfl rfl 176 rfl dX7_read_175 ?_
        refine r_sipush 150 (by decide) 179 rfl dX7_read_176 ?_
        refine r_iconst 0 (by decide) 180 rfl dX7_read_179 ?_
        refine r_callv (c_X7_copies E   _ _ _) rfl sh_67 rfl ml_X7_254 cw_X7_copies vw_X7_copies (by decide) (Nat.le_of_ble_eq_true rfl) 183 rfl dX7_read_180 (fun _ σ15 => ?_)
        refine r_bipush (-20) (by decide) 185 rfl dX7_read_183 ?_
        refine r_iload 7 rfl 187 rfl dX7_read_185 ?_
        refine r_isub 188 rfl dX7_read_187 ?_
        exact r_iret rfl dX7_read_188
    · exact r_sub [1, 2, 3, 4, 5, 0, 6, 7] rfl (gj_X7_read_192 E   _ hk56 _ _ _ _ _ _ _  _)
  · exact r_sub [1, 2, 3, 4, 5, 0, 6, 7] rfl (gj_X7_read_192 E   _ hk56 _ _ _ _ _ _ _  _)
def l_X7_read_56   : Nat → Int32 → Int32 → Int32 → Int32 → Int32 → Int32 → Int32 → k_Mem → Option (Int32 × k_Mem)
  | 0, _, _, _, _, _, _, _, _ => none
  | n + 1, x1, x2, x3, x4, x5, x6, x7, σ =>
    if (2 * x4) ≤ x7 then (
      j_X7_read_198   x5 x6 σ
    ) else (
      if x5 = 0 then (
        if k_in x1 4 then (
          if (σ 80 (k_n x1)) = (-4) then (
            j_X7_read_126  (fun x1 x2 x3 x4 x5 x6 x7 σ => l_X7_read_56   n x1 x2 x3 x4 x5 x6 x7 σ) x1 x2 x3 x4 x6 x7 1 σ
          ) else (
            if k_in x1 4 then (
              if (σ 80 (k_n x1)) = x2 then (
                if k_in x1 4 then (
                  k_bd (f_X7_in  ((Int32.toInt64 x3) + (Int32.toInt64 x7)) 0 (Int32.toInt64 ((σ 81 (k_n x1)) - 1)) σ) (fun r17 σ17 =>
                    if r17 = 0 then (
                      j_X7_read_126  (fun x1 x2 x3 x4 x5 x6 x7 σ => l_X7_read_56   n x1 x2 x3 x4 x5 x6 x7 σ) x1 x2 x3 x4 x6 x7 2 σ17
                    ) else (
                      j_X7_read_126  (fun x1 x2 x3 x4 x5 x6 x7 σ => l_X7_read_56   n x1 x2 x3 x4 x5 x6 x7 σ) x1 x2 x3 x4 x6 x7 0 σ17
                    )
                  )
                ) else none
              ) else (
                j_X7_read_126  (fun x1 x2 x3 x4 x5 x6 x7 σ => l_X7_read_56   n x1 x2 x3 x4 x5 x6 x7 σ) x1 x2 x3 x4 x6 x7 3 σ
              )
            ) else none
          )
        ) else none
      ) else (
        j_X7_read_198   x5 x6 σ
      )
    )
set_option maxRecDepth 100000 in
theorem gl_X7_read_56 (E : k_EV)     : ∀ (n : Nat) (x1 : Int32) (x2 : Int32) (x3 : Int32) (x4 : Int32) (x5 : Int32) (x6 : Int32) (x7 : Int32)  (σ : k_Mem), k_GO m_X7_read E k_vi 56 [(0, k_rf E 67), (1, .int x1), (2, .int x2), (3, .int x3), (4, .int x4), (5, .int x5), (6, .int x6), (7, .int x7)] [] σ (l_X7_read_56   n x1 x2 x3 x4 x5 x6 x7 σ) := by
  intro n
  induction n with
  | zero => intro x1 x2 x3 x4 x5 x6 x7  σ; exact r_none
  | succ n ih =>
    intro x1 x2 x3 x4 x5 x6 x7  σ
    rw [l_X7_read_56]
    refine r_iload 7 rfl 58 rfl dX7_read_56 ?_
    refine r_iconst 2 (by decide) 59 rfl dX7_read_58 ?_
    refine r_iload 4 rfl 61 rfl dX7_read_59 ?_
    refine r_imul 62 rfl dX7_read_61 ?_
    refine r_icmp_ge 198 65 rfl (by decide) dX7_read_62 (fun c8 => ?_) (fun c8 => ?_)
    · exact r_sub [0, 5, 6] rfl (gj_X7_read_198 E     _ _  _)
    · refine r_iload 5 rfl 67 rfl dX7_read_65 ?_
      refine r_if_ne 198 70 rfl (by decide) dX7_read_67 (fun c9 => ?_) (fun c9 => ?_)
      · refine r_aload_n 0 rfl rfl 71 rfl dX7_read_70 ?_
        refine r_getr fl_X7_47 sh_67 rfl 74 rfl dX7_read_71 ?_
        refine r_iload_n 1 rfl rfl 75 rfl dX7_read_74 ?_
        refine r_iald sh_80 76 rfl dX7_read_75 ?_
        refine r_bipush (-4) (by decide) 78 rfl dX7_read_76 ?_
        refine r_icmp_ne 85 81 rfl (by decide) dX7_read_78 (fun c10 => ?_) (fun c10 => ?_)
        · refine r_iconst 1 (by decide) 82 rfl dX7_read_81 ?_
          refine r_goto 126 (by decide) dX7_read_82 ?_
          exact r_sub [0, 1, 2, 3, 4, 6, 7] rfl (gj_X7_read_126 E   _ (fun x1 x2 x3 x4 x5 x6 x7  σ => ih x1 x2 x3 x4 x5 x6 x7  σ) _ _ _ _ _ _ _  _)
        · refine r_aload_n 0 rfl rfl 86 rfl dX7_read_85 ?_
          refine r_getr fl_X7_47 sh_67 rfl 89 rfl dX7_read_86 ?_
          refine r_iload_n 1 rfl rfl 90 rfl dX7_read_89 ?_
          refine r_iald sh_80 91 rfl dX7_read_90 ?_
          refine r_iload_n 2 rfl rfl 92 rfl dX7_read_91 ?_
          refine r_icmp_eq 99 95 rfl (by decide) dX7_read_92 (fun c16 => ?_) (fun c16 => ?_)
          · refine r_iload_n 3 rfl rfl 100 rfl dX7_read_99 ?_
            refine r_i2l 101 rfl dX7_read_100 ?_
            refine r_iload 7 rfl 103 rfl dX7_read_101 ?_
            refine r_i2l 104 rfl dX7_read_103 ?_
            refine r_ladd 105 rfl dX7_read_104 ?_
            refine r_lconst 0 (by decide) 106 rfl dX7_read_105 ?_
            refine r_aload_n 0 rfl rfl 107 rfl dX7_read_106 ?_
            refine r_getr fl_X7_50 sh_67 rfl 110 rfl dX7_read_107 ?_
            refine r_iload_n 1 rfl rfl 111 rfl dX7_read_110 ?_
            refine r_iald sh_81 112 rfl dX7_read_111 ?_
            refine r_iconst 1 (by decide) 113 rfl dX7_read_112 ?_
            refine r_isub 114 rfl dX7_read_113 ?_
            refine r_i2l 115 rfl dX7_read_114 ?_
            refine r_callsi (c_X7_in E   _ _ _ _) rfl ml_X7_58 cw_X7_in sw_X7_in (by decide) (Nat.le_of_ble_eq_true rfl) 118 rfl dX7_read_115 (fun r17 σ17 => ?_)
            refine r_if_ne 125 121 rfl (by decide) dX7_read_118 (fun c18 => ?_) (fun c18 => ?_)
            · refine r_iconst 2 (by decide) 122 rfl dX7_read_121 ?_
              refine r_goto 126 (by decide) dX7_read_122 ?_
              exact r_sub [0, 1, 2, 3, 4, 6, 7] rfl (gj_X7_read_126 E   _ (fun x1 x2 x3 x4 x5 x6 x7  σ => ih x1 x2 x3 x4 x5 x6 x7  σ) _ _ _ _ _ _ _  _)
            · refine r_iconst 0 (by decide) 126 rfl dX7_read_125 ?_
              exact r_sub [0, 1, 2, 3, 4, 6, 7] rfl (gj_X7_read_126 E   _ (fun x1 x2 x3 x4 x5 x6 x7  σ => ih x1 x2 x3 x4 x5 x6 x7  σ) _ _ _ _ _ _ _  _)
          · refine r_iconst 3 (by decide) 96 rfl dX7_read_95 ?_
            refine r_goto 126 (by decide) dX7_read_96 ?_
            exact r_sub [0, 1, 2, 3, 4, 6, 7] rfl (gj_X7_read_126 E   _ (fun x1 x2 x3 x4 x5 x6 x7  σ => ih x1 x2 x3 x4 x5 x6 x7  σ) _ _ _ _ _ _ _  _)
      · exact r_sub [0, 5, 6] rfl (gj_X7_read_198 E     _ _  _)
def f_X7_read  (x1 : Int32) (x2 : Int32) (x3 : Int32) (x4 : Int32) (σ : k_Mem) : Option (Int32 × k_Mem) :=
  k_bd (f_X7_in  (Int32.toInt64 x1) 0 3 σ) (fun r1 σ1 =>
    if r1 = 0 then (
      some ((-1), σ1)
    ) else (
      k_bd (f_X7_in  (Int32.toInt64 x2) 0 2 σ1) (fun r3 σ3 =>
        if r3 = 0 then (
          some ((-1), σ3)
        ) else (
          k_bd (f_X7_in  (Int32.toInt64 x4) 0 20 σ3) (fun r5 σ5 =>
            if r5 = 0 then (
              some ((-1), σ5)
            ) else (
              k_bd (f_X7_copies  0 150 σ5) (fun _ σ7 =>
                l_X7_read_56   1000 x1 x2 x3 x4 0 0 0 σ7
              )
            )
          )
        )
      )
    )
  )
set_option maxRecDepth 100000 in
theorem c_X7_read (E : k_EV)   (x1 : Int32) (x2 : Int32) (x3 : Int32) (x4 : Int32) (σ : k_Mem) : k_MC m_X7_read E k_vi [k_rf E 67, .int x1, .int x2, .int x3, .int x4] σ (f_X7_read x1 x2 x3 x4 σ) := by
  refine k_MC_of ⟨by decide, by decide⟩ (Nat.le_of_ble_eq_true rfl) ?_
  show k_GO _ _ _ 0 [(0, k_rf E 67), (1, .int x1), (2, .int x2), (3, .int x3), (4, .int x4)] [] σ _
  unfold f_X7_read
  refine r_iload_n 1 rfl rfl 1 rfl dX7_read_0 ?_
  refine r_i2l 2 rfl dX7_read_1 ?_
  refine r_lconst 0 (by decide) 3 rfl dX7_read_2 ?_
  refine r_ldc2 cs_X7_209 6 rfl dX7_read_3 ?_
  refine r_callsi (c_X7_in E   _ _ _ _) rfl ml_X7_58 cw_X7_in sw_X7_in (by decide) (Nat.le_of_ble_eq_true rfl) 9 rfl dX7_read_6 (fun r1 σ1 => ?_)
  refine r_if_eq 37 12 rfl (by decide) dX7_read_9 (fun c2 => ?_) (fun c2 => ?_)
  · refine r_iconst (-1) (by decide) 38 rfl dX7_read_37 ?_
    exact r_iret rfl dX7_read_38
  · refine r_iload_n 2 rfl rfl 13 rfl dX7_read_12 ?_
    refine r_i2l 14 rfl dX7_read_13 ?_
    refine r_lconst 0 (by decide) 15 rfl dX7_read_14 ?_
    refine r_ldc2 cs_X7_184 18 rfl dX7_read_15 ?_
    refine r_callsi (c_X7_in E   _ _ _ _) rfl ml_X7_58 cw_X7_in sw_X7_in (by decide) (Nat.le_of_ble_eq_true rfl) 21 rfl dX7_read_18 (fun r3 σ3 => ?_)
    refine r_if_eq 37 24 rfl (by decide) dX7_read_21 (fun c4 => ?_) (fun c4 => ?_)
    · refine r_iconst (-1) (by decide) 38 rfl dX7_read_37 ?_
      exact r_iret rfl dX7_read_38
    · refine r_iload 4 rfl 26 rfl dX7_read_24 ?_
      refine r_i2l 27 rfl dX7_read_26 ?_
      refine r_lconst 0 (by decide) 28 rfl dX7_read_27 ?_
      refine r_ldc2 cs_X7_249 31 rfl dX7_read_28 ?_
      refine r_callsi (c_X7_in E   _ _ _ _) rfl ml_X7_58 cw_X7_in sw_X7_in (by decide) (Nat.le_of_ble_eq_true rfl) 34 rfl dX7_read_31 (fun r5 σ5 => ?_)
      refine r_if_ne 39 37 rfl (by decide) dX7_read_34 (fun c6 => ?_) (fun c6 => ?_)
      · refine r_iconst (-1) (by decide) 38 rfl dX7_read_37 ?_
        exact r_iret rfl dX7_read_38
      · refine r_aload_n 0 rfl rfl 40 rfl dX7_read_39 ?_
        refine r_iconst 0 (by decide) 41 rfl dX7_read_40 ?_
        refine r_sipush 150 (by decide) 44 rfl dX7_read_41 ?_
        refine r_callv (c_X7_copies E   _ _ _) rfl sh_67 rfl ml_X7_254 cw_X7_copies vw_X7_copies (by decide) (Nat.le_of_ble_eq_true rfl) 47 rfl dX7_read_44 (fun _ σ7 => ?_)
        refine r_iconst 0 (by decide) 48 rfl dX7_read_47 ?_
        refine r_istore [(5, .int _), (0, k_rf E 67), (1, .int _), (2, .int _), (3, .int _), (4, .int _)] rfl (by decide) 50 rfl dX7_read_48 ?_
        refine r_iconst 0 (by decide) 51 rfl dX7_read_50 ?_
        refine r_istore [(6, .int _), (5, .int _), (0, k_rf E 67), (1, .int _), (2, .int _), (3, .int _), (4, .int _)] rfl (by decide) 53 rfl dX7_read_51 ?_
        refine r_iconst 0 (by decide) 54 rfl dX7_read_53 ?_
        refine r_istore [(7, .int _), (6, .int _), (5, .int _), (0, k_rf E 67), (1, .int _), (2, .int _), (3, .int _), (4, .int _)] rfl (by decide) 56 rfl dX7_read_54 ?_
        exact r_sub [3, 4, 5, 6, 7, 2, 1, 0] rfl (gl_X7_read_56 E     1000 _ _ _ _ _ _ _  _)
/-! HandMarketModel.torn()I -/
def f_X7_torn   (σ : k_Mem) : Option (Int32 × k_Mem) :=
  some ((σ 67 32), σ)
set_option maxRecDepth 100000 in
theorem c_X7_torn (E : k_EV)    (σ : k_Mem) : k_MC m_X7_torn E k_vi [k_rf E 67] σ (f_X7_torn  σ) := by
  refine k_MC_of ⟨by decide, by decide⟩ (Nat.le_of_ble_eq_true rfl) ?_
  show k_GO _ _ _ 0 [(0, k_rf E 67)] [] σ _
  unfold f_X7_torn
  refine r_aload_n 0 rfl rfl 1 rfl dX7_torn_0 ?_
  refine r_geti fl_X7_284 sh_67 rfl 4 rfl dX7_torn_1 ?_
  exact r_iret rfl dX7_torn_4
/-! HandMarketModel.count(I)I -/
def j_X7_count_87   (xs0 : Int32) (σ : k_Mem) : Option (Int32 × k_Mem) :=
  if k_in 1 2 then (
    if (σ 79 (k_n 1)) = 0 then (
      some ((xs0 + 0), σ)
    ) else (
      some ((xs0 + 1), σ)
    )
  ) else none
set_option maxRecDepth 100000 in
theorem gj_X7_count_87 (E : k_EV)     (xs0 : Int32)  (σ : k_Mem) : k_GO m_X7_count E k_vi 87 [(0, k_rf E 67)] [.int xs0] σ (j_X7_count_87   xs0 σ) := by
  unfold j_X7_count_87
  refine r_aload_n 0 rfl rfl 88 rfl dX7_count_87 ?_
  refine r_getr fl_X7_43 sh_67 rfl 91 rfl dX7_count_88 ?_
  refine r_iconst 1 (by decide) 92 rfl dX7_count_91 ?_
  refine r_zald sh_79 93 rfl dX7_count_92 ?_
  refine r_if_eq 100 96 rfl (by decide) dX7_count_93 (fun c5 => ?_) (fun c5 => ?_)
  · refine r_iconst 0 (by decide) 101 rfl dX7_count_100 ?_
    refine r_iadd 102 rfl dX7_count_101 ?_
    exact r_iret rfl dX7_count_102
  · refine r_iconst 1 (by decide) 97 rfl dX7_count_96 ?_
    refine r_goto 101 (by decide) dX7_count_97 ?_
    refine r_iadd 102 rfl dX7_count_101 ?_
    exact r_iret rfl dX7_count_102
def l_X7_count_4   : Nat → Int32 → Int32 → Int32 → k_Mem → Option (Int32 × k_Mem)
  | 0, _, _, _, _ => none
  | n + 1, x1, x2, x3, σ =>
    if 4 ≤ x3 then (
      if x1 = 0 then (
        some ((σ 67 25), σ)
      ) else (
      if x1 = 1 then (
        if k_in 0 2 then (
          if (σ 79 (k_n 0)) = 0 then (
            j_X7_count_87   0 σ
          ) else (
            j_X7_count_87   1 σ
          )
        ) else none
      ) else (
      if x1 = 2 then (
        some ((σ 67 10), σ)
      ) else (
      if x1 = 3 then (
        if k_in 0 4 then (
          if (σ 80 (k_n 0)) = (-4) then (
            some ((-4), σ)
          ) else (
            if k_in 0 4 then (
              some ((σ 81 (k_n 0)), σ)
            ) else none
          )
        ) else none
      ) else (
      if x1 = 4 then (
        k_bd (f_X7_wedOnes   σ) (fun r10 σ10 =>
          k_bd (f_X7_bitsOf  r10 σ10) (fun r11 σ11 =>
            some ((r11 / 2), σ11)
          )
        )
      ) else (
      if x1 = 5 then (
        some (x2, σ)
      ) else (
        some ((-1), σ)
      ))))))
    ) else (
      if k_in (40 + x3) 250 then (
        k_bd (f_X7_bitsOf  (σ 68 (k_n (40 + x3))) σ) (fun r13 σ13 =>
          l_X7_count_4   n x1 (x2 + r13) (x3 + 1) σ13
        )
      ) else none
    )
set_option maxRecDepth 100000 in
theorem gl_X7_count_4 (E : k_EV)     : ∀ (n : Nat) (x1 : Int32) (x2 : Int32) (x3 : Int32)  (σ : k_Mem), k_GO m_X7_count E k_vi 4 [(0, k_rf E 67), (1, .int x1), (2, .int x2), (3, .int x3)] [] σ (l_X7_count_4   n x1 x2 x3 σ) := by
  intro n
  induction n with
  | zero => intro x1 x2 x3  σ; exact r_none
  | succ n ih =>
    intro x1 x2 x3  σ
    rw [l_X7_count_4]
    refine r_iload_n 3 rfl rfl 5 rfl dX7_count_4 ?_
    refine r_iconst 4 (by decide) 6 rfl dX7_count_5 ?_
    refine r_icmp_ge 30 9 rfl (by decide) dX7_count_6 (fun c1 => ?_) (fun c1 => ?_)
    · refine r_iload_n 1 rfl rfl 31 rfl dX7_count_30 ?_
      refine r_split (fun c2 => ?_) (fun c2 => ?_)
      · refine r_tin 0 c2 37 68 (by decide) (by decide) (by decide) (by decide) dX7_count_31 ?_
        refine r_aload_n 0 rfl rfl 69 rfl dX7_count_68 ?_
        refine r_geti fl_X7_153 sh_67 rfl 72 rfl dX7_count_69 ?_
        exact r_iret rfl dX7_count_72
      refine r_split (fun c3 => ?_) (fun c3 => ?_)
      · refine r_tin 1 c3 42 73 (by decide) (by decide) (by decide) (by decide) dX7_count_31 ?_
        refine r_aload_n 0 rfl rfl 74 rfl dX7_count_73 ?_
        refine r_getr fl_X7_43 sh_67 rfl 77 rfl dX7_count_74 ?_
        refine r_iconst 0 (by decide) 78 rfl dX7_count_77 ?_
        refine r_zald sh_79 79 rfl dX7_count_78 ?_
        refine r_if_eq 86 82 rfl (by decide) dX7_count_79 (fun c4 => ?_) (fun c4 => ?_)
        · refine r_iconst 0 (by decide) 87 rfl dX7_count_86 ?_
          exact r_sub [0] rfl (gj_X7_count_87 E     _  _)
        · refine r_iconst 1 (by decide) 83 rfl dX7_count_82 ?_
          refine r_goto 87 (by decide) dX7_count_83 ?_
          exact r_sub [0] rfl (gj_X7_count_87 E     _  _)
      refine r_split (fun c6 => ?_) (fun c6 => ?_)
      · refine r_tin 2 c6 72 103 (by decide) (by decide) (by decide) (by decide) dX7_count_31 ?_
        refine r_aload_n 0 rfl rfl 104 rfl dX7_count_103 ?_
        refine r_geti fl_X7_62 sh_67 rfl 107 rfl dX7_count_104 ?_
        exact r_iret rfl dX7_count_107
      refine r_split (fun c7 => ?_) (fun c7 => ?_)
      · refine r_tin 3 c7 77 108 (by decide) (by decide) (by decide) (by decide) dX7_count_31 ?_
        refine r_aload_n 0 rfl rfl 109 rfl dX7_count_108 ?_
        refine r_getr fl_X7_47 sh_67 rfl 112 rfl dX7_count_109 ?_
        refine r_iconst 0 (by decide) 113 rfl dX7_count_112 ?_
        refine r_iald sh_80 114 rfl dX7_count_113 ?_
        refine r_bipush (-4) (by decide) 116 rfl dX7_count_114 ?_
        refine r_icmp_ne 124 119 rfl (by decide) dX7_count_116 (fun c8 => ?_) (fun c8 => ?_)
        · refine r_bipush (-4) (by decide) 121 rfl dX7_count_119 ?_
          refine r_goto 130 (by decide) dX7_count_121 ?_
          exact r_iret rfl dX7_count_130
        · refine r_aload_n 0 rfl rfl 125 rfl dX7_count_124 ?_
          refine r_getr fl_X7_50 sh_67 rfl 128 rfl dX7_count_125 ?_
          refine r_iconst 0 (by decide) 129 rfl dX7_count_128 ?_
          refine r_iald sh_81 130 rfl dX7_count_129 ?_
          exact r_iret rfl dX7_count_130
      refine r_split (fun c9 => ?_) (fun c9 => ?_)
      · refine r_tin 4 c9 100 131 (by decide) (by decide) (by decide) (by decide) dX7_count_31 ?_
        refine r_aload_n 0 rfl rfl 132 rfl dX7_count_131 ?_
        refine r_calli (c_X7_wedOnes E    _) rfl sh_67 rfl ml_X7_165 cw_X7_wedOnes vw_X7_wedOnes (by decide) (Nat.le_of_ble_eq_true rfl) 135 rfl dX7_count_132 (fun r10 σ10 => ?_)
        refine r_callsi (c_X7_bitsOf E   _ _) rfl ml_X7_216 cw_X7_bitsOf sw_X7_bitsOf (by decide) (Nat.le_of_ble_eq_true rfl) 138 rfl dX7_count_135 (fun r11 σ11 => ?_)
        refine r_iconst 2 (by decide) 139 rfl dX7_count_138 ?_
        refine r_idiv (by decide) 140 rfl dX7_count_139 ?_
        exact r_iret rfl dX7_count_140
      refine r_split (fun c12 => ?_) (fun c12 => ?_)
      · refine r_tin 5 c12 110 141 (by decide) (by decide) (by decide) (by decide) dX7_count_31 ?_
        refine r_iload_n 2 rfl rfl 142 rfl dX7_count_141 ?_
        exact r_iret rfl dX7_count_142
      refine r_tout 143 (by have hc2 := lv_neT c2 (k := 0) (a := 0) (by decide); have hc3 := lv_neT c3 (k := 1) (a := 1) (by decide); have hc6 := lv_neT c6 (k := 2) (a := 2) (by decide); have hc7 := lv_neT c7 (k := 3) (a := 3) (by decide); have hc9 := lv_neT c9 (k := 4) (a := 4) (by decide); have hc12 := lv_neT c12 (k := 5) (a := 5) (by decide); omega) (by decide) dX7_count_31 ?_
      refine r_iconst (-1) (by decide) 144 rfl dX7_count_143 ?_
      exact r_iret rfl dX7_count_144
    · refine r_iload_n 2 rfl rfl 10 rfl dX7_count_9 ?_
      refine r_aload_n 0 rfl rfl 11 rfl dX7_count_10 ?_
      refine r_getr fl_X7_7 sh_67 rfl 14 rfl dX7_count_11 ?_
      refine r_bipush 40 (by decide) 16 rfl dX7_count_14 ?_
      refine r_iload_n 3 rfl rfl 17 rfl dX7_count_16 ?_
      refine r_iadd 18 rfl dX7_count_17 ?_
      refine r_iald sh_68 19 rfl dX7_count_18 ?_
      refine r_callsi (c_X7_bitsOf E   _ _) rfl ml_X7_216 cw_X7_bitsOf sw_X7_bitsOf (by decide) (Nat.le_of_ble_eq_true rfl) 22 rfl dX7_count_19 (fun r13 σ13 => ?_)
      refine r_iadd 23 rfl dX7_count_22 ?_
      refine r_istore_n [(2, .int _), (0, k_rf E 67), (1, .int _), (3, .int _)] rfl rfl (by decide) 24 rfl dX7_count_23 ?_
      refine r_iinc 1 (by decide) 3 rfl [(3, .int _), (2, .int _), (0, k_rf E 67), (1, .int _)] rfl (by decide) 27 rfl dX7_count_24 ?_
      refine r_goto 4 (by decide) dX7_count_27 ?_
      exact r_sub [2, 3, 1, 0] rfl (ih _ _ _  _)
def f_X7_count  (x1 : Int32) (σ : k_Mem) : Option (Int32 × k_Mem) :=
  l_X7_count_4   1000 x1 0 0 σ
set_option maxRecDepth 100000 in
theorem c_X7_count (E : k_EV)   (x1 : Int32) (σ : k_Mem) : k_MC m_X7_count E k_vi [k_rf E 67, .int x1] σ (f_X7_count x1 σ) := by
  refine k_MC_of ⟨by decide, by decide⟩ (Nat.le_of_ble_eq_true rfl) ?_
  show k_GO _ _ _ 0 [(0, k_rf E 67), (1, .int x1)] [] σ _
  unfold f_X7_count
  refine r_iconst 0 (by decide) 1 rfl dX7_count_0 ?_
  refine r_istore_n [(2, .int _), (0, k_rf E 67), (1, .int _)] rfl rfl (by decide) 2 rfl dX7_count_1 ?_
  refine r_iconst 0 (by decide) 3 rfl dX7_count_2 ?_
  refine r_istore_n [(3, .int _), (2, .int _), (0, k_rf E 67), (1, .int _)] rfl rfl (by decide) 4 rfl dX7_count_3 ?_
  exact r_sub [2, 3, 1, 0] rfl (gl_X7_count_4 E     1000 _ _ _  _)
