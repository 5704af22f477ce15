section
-- ===== PART A: goes FIRST, ahead of the names: the tables' words, and 'selects' of the private methods out of them =====
/-- a private method of a class that the tables say can be made, by its rows of tables_1 -/
def lw_okq (q : MethodName × Nat) : Prop := (q.1.cls ≠ "java/lang/invoke/MethodHandle" ∧ q.1.cls ≠ "java/lang/invoke/VarHandle") ∧ Cond.instantiable q.1.cls q.2 ∈ tables_1 ∧ Cond.privateMethod q.1 ∈ tables_1 ∧ Cond.instanceMethod q.1 ∈ tables_1
theorem lw_p0 : lw_okq (⟨"HandMarket$Tape", "runEnd", "(III)I"⟩, 6) := ⟨⟨by decide +kernel, by decide +kernel⟩, List.mem_of_getElem? (i := 91) (by decide +kernel), List.mem_of_getElem? (i := 296) (by decide +kernel), List.mem_of_getElem? (i := 297) (by decide +kernel)⟩
theorem lw_p1 : lw_okq (⟨"HandMarket$Tape", "takeNumber", "()V"⟩, 6) := ⟨⟨by decide +kernel, by decide +kernel⟩, List.mem_of_getElem? (i := 91) (by decide +kernel), List.mem_of_getElem? (i := 300) (by decide +kernel), List.mem_of_getElem? (i := 301) (by decide +kernel)⟩
theorem lw_p2 : lw_okq (⟨"HandMarket$Scribe", "line", "()Z"⟩, 6) := ⟨⟨by decide +kernel, by decide +kernel⟩, List.mem_of_getElem? (i := 122) (by decide +kernel), List.mem_of_getElem? (i := 304) (by decide +kernel), List.mem_of_getElem? (i := 305) (by decide +kernel)⟩
theorem lw_p3 : lw_okq (⟨"HandMarket$Scribe", "stands", "(I)Z"⟩, 6) := ⟨⟨by decide +kernel, by decide +kernel⟩, List.mem_of_getElem? (i := 122) (by decide +kernel), List.mem_of_getElem? (i := 308) (by decide +kernel), List.mem_of_getElem? (i := 309) (by decide +kernel)⟩
theorem lw_p4 : lw_okq (⟨"HandMarket$Scribe", "refuse", "(I)Z"⟩, 6) := ⟨⟨by decide +kernel, by decide +kernel⟩, List.mem_of_getElem? (i := 122) (by decide +kernel), List.mem_of_getElem? (i := 312) (by decide +kernel), List.mem_of_getElem? (i := 313) (by decide +kernel)⟩
theorem lw_p5 : lw_okq (⟨"HandMarket$Scribe", "kindNamed", "()I"⟩, 6) := ⟨⟨by decide +kernel, by decide +kernel⟩, List.mem_of_getElem? (i := 122) (by decide +kernel), List.mem_of_getElem? (i := 316) (by decide +kernel), List.mem_of_getElem? (i := 317) (by decide +kernel)⟩
theorem lw_p6 : lw_okq (⟨"HandMarket$Scribe", "handLine", "(I)Z"⟩, 6) := ⟨⟨by decide +kernel, by decide +kernel⟩, List.mem_of_getElem? (i := 122) (by decide +kernel), List.mem_of_getElem? (i := 376) (by decide +kernel), List.mem_of_getElem? (i := 377) (by decide +kernel)⟩
theorem lw_p7 : lw_okq (⟨"HandMarket$Scribe", "follows", "(I)Z"⟩, 6) := ⟨⟨by decide +kernel, by decide +kernel⟩, List.mem_of_getElem? (i := 122) (by decide +kernel), List.mem_of_getElem? (i := 380) (by decide +kernel), List.mem_of_getElem? (i := 381) (by decide +kernel)⟩
theorem lw_p8 : lw_okq (⟨"HandMarket$Scribe", "number", "(II)I"⟩, 6) := ⟨⟨by decide +kernel, by decide +kernel⟩, List.mem_of_getElem? (i := 122) (by decide +kernel), List.mem_of_getElem? (i := 390) (by decide +kernel), List.mem_of_getElem? (i := 391) (by decide +kernel)⟩
theorem lw_p9 : lw_okq (⟨"HandMarket$Scribe", "penLine", "()Z"⟩, 6) := ⟨⟨by decide +kernel, by decide +kernel⟩, List.mem_of_getElem? (i := 122) (by decide +kernel), List.mem_of_getElem? (i := 400) (by decide +kernel), List.mem_of_getElem? (i := 401) (by decide +kernel)⟩
theorem lw_p10 : lw_okq (⟨"HandMarket$Scribe", "runLine", "()Z"⟩, 6) := ⟨⟨by decide +kernel, by decide +kernel⟩, List.mem_of_getElem? (i := 122) (by decide +kernel), List.mem_of_getElem? (i := 405) (by decide +kernel), List.mem_of_getElem? (i := 406) (by decide +kernel)⟩
theorem lw_p11 : lw_okq (⟨"HandMarket$Scribe", "foldLine", "()Z"⟩, 6) := ⟨⟨by decide +kernel, by decide +kernel⟩, List.mem_of_getElem? (i := 122) (by decide +kernel), List.mem_of_getElem? (i := 421) (by decide +kernel), List.mem_of_getElem? (i := 422) (by decide +kernel)⟩
theorem lw_p12 : lw_okq (⟨"HandMarket$Scribe", "wedLine", "()Z"⟩, 6) := ⟨⟨by decide +kernel, by decide +kernel⟩, List.mem_of_getElem? (i := 122) (by decide +kernel), List.mem_of_getElem? (i := 434) (by decide +kernel), List.mem_of_getElem? (i := 435) (by decide +kernel)⟩
theorem lw_p13 : lw_okq (⟨"HandMarket$Scribe", "namedBits", "()I"⟩, 6) := ⟨⟨by decide +kernel, by decide +kernel⟩, List.mem_of_getElem? (i := 122) (by decide +kernel), List.mem_of_getElem? (i := 446) (by decide +kernel), List.mem_of_getElem? (i := 447) (by decide +kernel)⟩
theorem lw_p14 : lw_okq (⟨"HandMarket$Town", "runsWith", "(I)I"⟩, 11) := ⟨⟨by decide +kernel, by decide +kernel⟩, List.mem_of_getElem? (i := 26) (by decide +kernel), List.mem_of_getElem? (i := 497) (by decide +kernel), List.mem_of_getElem? (i := 498) (by decide +kernel)⟩
theorem lw_p15 : lw_okq (⟨"HandMarket$Courtship", "weighOne", "(LHandMarket$Town;II)V"⟩, 9) := ⟨⟨by decide +kernel, by decide +kernel⟩, List.mem_of_getElem? (i := 153) (by decide +kernel), List.mem_of_getElem? (i := 521) (by decide +kernel), List.mem_of_getElem? (i := 522) (by decide +kernel)⟩
def lw_privs_1 : List (MethodName × Nat) := [(⟨"HandMarket$Tape", "runEnd", "(III)I"⟩, 6), (⟨"HandMarket$Tape", "takeNumber", "()V"⟩, 6), (⟨"HandMarket$Scribe", "line", "()Z"⟩, 6), (⟨"HandMarket$Scribe", "stands", "(I)Z"⟩, 6), (⟨"HandMarket$Scribe", "refuse", "(I)Z"⟩, 6), (⟨"HandMarket$Scribe", "kindNamed", "()I"⟩, 6), (⟨"HandMarket$Scribe", "handLine", "(I)Z"⟩, 6), (⟨"HandMarket$Scribe", "follows", "(I)Z"⟩, 6), (⟨"HandMarket$Scribe", "number", "(II)I"⟩, 6), (⟨"HandMarket$Scribe", "penLine", "()Z"⟩, 6), (⟨"HandMarket$Scribe", "runLine", "()Z"⟩, 6), (⟨"HandMarket$Scribe", "foldLine", "()Z"⟩, 6), (⟨"HandMarket$Scribe", "wedLine", "()Z"⟩, 6), (⟨"HandMarket$Scribe", "namedBits", "()I"⟩, 6), (⟨"HandMarket$Town", "runsWith", "(I)I"⟩, 11), (⟨"HandMarket$Courtship", "weighOne", "(LHandMarket$Town;II)V"⟩, 9)]
theorem lw_r1 : ∀ q ∈ lw_privs_1, lw_okq q := List.forall_mem_cons.mpr ⟨lw_p0, List.forall_mem_cons.mpr ⟨lw_p1, List.forall_mem_cons.mpr ⟨lw_p2, List.forall_mem_cons.mpr ⟨lw_p3, List.forall_mem_cons.mpr ⟨lw_p4, List.forall_mem_cons.mpr ⟨lw_p5, List.forall_mem_cons.mpr ⟨lw_p6, List.forall_mem_cons.mpr ⟨lw_p7, List.forall_mem_cons.mpr ⟨lw_p8, List.forall_mem_cons.mpr ⟨lw_p9, List.forall_mem_cons.mpr ⟨lw_p10, List.forall_mem_cons.mpr ⟨lw_p11, List.forall_mem_cons.mpr ⟨lw_p12, List.forall_mem_cons.mpr ⟨lw_p13, List.forall_mem_cons.mpr ⟨lw_p14, List.forall_mem_cons.mpr ⟨lw_p15, fun _ h => absurd h List.not_mem_nil⟩⟩⟩⟩⟩⟩⟩⟩⟩⟩⟩⟩⟩⟩⟩⟩
theorem lw_p16 : lw_okq (⟨"HandMarket$Courtship", "likingIn", "(LHandMarket$Town;II)I"⟩, 9) := ⟨⟨by decide +kernel, by decide +kernel⟩, List.mem_of_getElem? (i := 153) (by decide +kernel), List.mem_of_getElem? (i := 525) (by decide +kernel), List.mem_of_getElem? (i := 526) (by decide +kernel)⟩
theorem lw_p17 : lw_okq (⟨"HandMarket$Courtship", "wishFor", "(II)I"⟩, 9) := ⟨⟨by decide +kernel, by decide +kernel⟩, List.mem_of_getElem? (i := 153) (by decide +kernel), List.mem_of_getElem? (i := 545) (by decide +kernel), List.mem_of_getElem? (i := 546) (by decide +kernel)⟩
theorem lw_p18 : lw_okq (⟨"HandMarket$Courtship", "countAbove", "(II)I"⟩, 9) := ⟨⟨by decide +kernel, by decide +kernel⟩, List.mem_of_getElem? (i := 153) (by decide +kernel), List.mem_of_getElem? (i := 549) (by decide +kernel), List.mem_of_getElem? (i := 550) (by decide +kernel)⟩
theorem lw_p19 : lw_okq (⟨"HandMarket$Courtship", "firstAsks", "(I)Z"⟩, 9) := ⟨⟨by decide +kernel, by decide +kernel⟩, List.mem_of_getElem? (i := 153) (by decide +kernel), List.mem_of_getElem? (i := 621) (by decide +kernel), List.mem_of_getElem? (i := 622) (by decide +kernel)⟩
theorem lw_p20 : lw_okq (⟨"HandMarket$Courtship", "dearest", "(II)I"⟩, 9) := ⟨⟨by decide +kernel, by decide +kernel⟩, List.mem_of_getElem? (i := 153) (by decide +kernel), List.mem_of_getElem? (i := 625) (by decide +kernel), List.mem_of_getElem? (i := 626) (by decide +kernel)⟩
theorem lw_p21 : lw_okq (⟨"HandMarket$Courtship", "answer", "(II)V"⟩, 9) := ⟨⟨by decide +kernel, by decide +kernel⟩, List.mem_of_getElem? (i := 153) (by decide +kernel), List.mem_of_getElem? (i := 629) (by decide +kernel), List.mem_of_getElem? (i := 630) (by decide +kernel)⟩
theorem lw_p22 : lw_okq (⟨"HandMarket$Courtship", "quarrelOver", "(II)Z"⟩, 9) := ⟨⟨by decide +kernel, by decide +kernel⟩, List.mem_of_getElem? (i := 153) (by decide +kernel), List.mem_of_getElem? (i := 667) (by decide +kernel), List.mem_of_getElem? (i := 668) (by decide +kernel)⟩
theorem lw_p23 : lw_okq (⟨"HandMarket$Courtship", "toNextPairs", "()Z"⟩, 9) := ⟨⟨by decide +kernel, by decide +kernel⟩, List.mem_of_getElem? (i := 153) (by decide +kernel), List.mem_of_getElem? (i := 671) (by decide +kernel), List.mem_of_getElem? (i := 672) (by decide +kernel)⟩
theorem lw_p24 : lw_okq (⟨"HandMarket", "likesIfSwapped", "(II)I"⟩, 12) := ⟨⟨by decide +kernel, by decide +kernel⟩, List.mem_of_getElem? (i := 18) (by decide +kernel), List.mem_of_getElem? (i := 744) (by decide +kernel), List.mem_of_getElem? (i := 745) (by decide +kernel)⟩
theorem lw_p25 : lw_okq (⟨"HandMarket", "stolenSum", "(II)J"⟩, 12) := ⟨⟨by decide +kernel, by decide +kernel⟩, List.mem_of_getElem? (i := 18) (by decide +kernel), List.mem_of_getElem? (i := 757) (by decide +kernel), List.mem_of_getElem? (i := 758) (by decide +kernel)⟩
theorem lw_p26 : lw_okq (⟨"HandMarket", "fittingPens", "(I)I"⟩, 12) := ⟨⟨by decide +kernel, by decide +kernel⟩, List.mem_of_getElem? (i := 18) (by decide +kernel), List.mem_of_getElem? (i := 796) (by decide +kernel), List.mem_of_getElem? (i := 797) (by decide +kernel)⟩
theorem lw_p27 : lw_okq (⟨"HandMarket", "leftAtWorst", "(III)I"⟩, 12) := ⟨⟨by decide +kernel, by decide +kernel⟩, List.mem_of_getElem? (i := 18) (by decide +kernel), List.mem_of_getElem? (i := 809) (by decide +kernel), List.mem_of_getElem? (i := 810) (by decide +kernel)⟩
theorem lw_p28 : lw_okq (⟨"HandMarket", "hasImage", "(I)Z"⟩, 12) := ⟨⟨by decide +kernel, by decide +kernel⟩, List.mem_of_getElem? (i := 18) (by decide +kernel), List.mem_of_getElem? (i := 836) (by decide +kernel), List.mem_of_getElem? (i := 837) (by decide +kernel)⟩
theorem lw_p29 : lw_okq (⟨"HandMarket", "imageOf", "(I)LHandMarket$Town;"⟩, 12) := ⟨⟨by decide +kernel, by decide +kernel⟩, List.mem_of_getElem? (i := 18) (by decide +kernel), List.mem_of_getElem? (i := 840) (by decide +kernel), List.mem_of_getElem? (i := 841) (by decide +kernel)⟩
theorem lw_p30 : lw_okq (⟨"HandMarketModel", "step", "()V"⟩, 33) := ⟨⟨by decide +kernel, by decide +kernel⟩, List.mem_of_getElem? (i := 901) (by decide +kernel), List.mem_of_getElem? (i := 1024) (by decide +kernel), List.mem_of_getElem? (i := 1025) (by decide +kernel)⟩
theorem lw_p31 : lw_okq (⟨"HandMarketModel", "byteAt", "(I)I"⟩, 33) := ⟨⟨by decide +kernel, by decide +kernel⟩, List.mem_of_getElem? (i := 901) (by decide +kernel), List.mem_of_getElem? (i := 1028) (by decide +kernel), List.mem_of_getElem? (i := 1029) (by decide +kernel)⟩
def lw_privs_2 : List (MethodName × Nat) := [(⟨"HandMarket$Courtship", "likingIn", "(LHandMarket$Town;II)I"⟩, 9), (⟨"HandMarket$Courtship", "wishFor", "(II)I"⟩, 9), (⟨"HandMarket$Courtship", "countAbove", "(II)I"⟩, 9), (⟨"HandMarket$Courtship", "firstAsks", "(I)Z"⟩, 9), (⟨"HandMarket$Courtship", "dearest", "(II)I"⟩, 9), (⟨"HandMarket$Courtship", "answer", "(II)V"⟩, 9), (⟨"HandMarket$Courtship", "quarrelOver", "(II)Z"⟩, 9), (⟨"HandMarket$Courtship", "toNextPairs", "()Z"⟩, 9), (⟨"HandMarket", "likesIfSwapped", "(II)I"⟩, 12), (⟨"HandMarket", "stolenSum", "(II)J"⟩, 12), (⟨"HandMarket", "fittingPens", "(I)I"⟩, 12), (⟨"HandMarket", "leftAtWorst", "(III)I"⟩, 12), (⟨"HandMarket", "hasImage", "(I)Z"⟩, 12), (⟨"HandMarket", "imageOf", "(I)LHandMarket$Town;"⟩, 12), (⟨"HandMarketModel", "step", "()V"⟩, 33), (⟨"HandMarketModel", "byteAt", "(I)I"⟩, 33)]
theorem lw_r2 : ∀ q ∈ lw_privs_2, lw_okq q := List.forall_mem_cons.mpr ⟨lw_p16, List.forall_mem_cons.mpr ⟨lw_p17, List.forall_mem_cons.mpr ⟨lw_p18, List.forall_mem_cons.mpr ⟨lw_p19, List.forall_mem_cons.mpr ⟨lw_p20, List.forall_mem_cons.mpr ⟨lw_p21, List.forall_mem_cons.mpr ⟨lw_p22, List.forall_mem_cons.mpr ⟨lw_p23, List.forall_mem_cons.mpr ⟨lw_p24, List.forall_mem_cons.mpr ⟨lw_p25, List.forall_mem_cons.mpr ⟨lw_p26, List.forall_mem_cons.mpr ⟨lw_p27, List.forall_mem_cons.mpr ⟨lw_p28, List.forall_mem_cons.mpr ⟨lw_p29, List.forall_mem_cons.mpr ⟨lw_p30, List.forall_mem_cons.mpr ⟨lw_p31, fun _ h => absurd h List.not_mem_nil⟩⟩⟩⟩⟩⟩⟩⟩⟩⟩⟩⟩⟩⟩⟩⟩
theorem lw_p32 : lw_okq (⟨"HandMarketModel", "fails", "(I)V"⟩, 33) := ⟨⟨by decide +kernel, by decide +kernel⟩, List.mem_of_getElem? (i := 901) (by decide +kernel), List.mem_of_getElem? (i := 1036) (by decide +kernel), List.mem_of_getElem? (i := 1037) (by decide +kernel)⟩
theorem lw_p33 : lw_okq (⟨"HandMarketModel", "readLine", "()V"⟩, 33) := ⟨⟨by decide +kernel, by decide +kernel⟩, List.mem_of_getElem? (i := 901) (by decide +kernel), List.mem_of_getElem? (i := 1040) (by decide +kernel), List.mem_of_getElem? (i := 1041) (by decide +kernel)⟩
theorem lw_p34 : lw_okq (⟨"HandMarketModel", "nameHere", "()I"⟩, 33) := ⟨⟨by decide +kernel, by decide +kernel⟩, List.mem_of_getElem? (i := 901) (by decide +kernel), List.mem_of_getElem? (i := 1044) (by decide +kernel), List.mem_of_getElem? (i := 1045) (by decide +kernel)⟩
theorem lw_p35 : lw_okq (⟨"HandMarketModel", "readMore", "(I)V"⟩, 33) := ⟨⟨by decide +kernel, by decide +kernel⟩, List.mem_of_getElem? (i := 901) (by decide +kernel), List.mem_of_getElem? (i := 1049) (by decide +kernel), List.mem_of_getElem? (i := 1050) (by decide +kernel)⟩
theorem lw_p36 : lw_okq (⟨"HandMarketModel", "readHand", "(I)V"⟩, 33) := ⟨⟨by decide +kernel, by decide +kernel⟩, List.mem_of_getElem? (i := 901) (by decide +kernel), List.mem_of_getElem? (i := 1053) (by decide +kernel), List.mem_of_getElem? (i := 1054) (by decide +kernel)⟩
theorem lw_p37 : lw_okq (⟨"HandMarketModel", "other", "(III)I"⟩, 33) := ⟨⟨by decide +kernel, by decide +kernel⟩, List.mem_of_getElem? (i := 901) (by decide +kernel), List.mem_of_getElem? (i := 1057) (by decide +kernel), List.mem_of_getElem? (i := 1058) (by decide +kernel)⟩
theorem lw_p38 : lw_okq (⟨"HandMarketModel", "handHere", "(III)I"⟩, 33) := ⟨⟨by decide +kernel, by decide +kernel⟩, List.mem_of_getElem? (i := 901) (by decide +kernel), List.mem_of_getElem? (i := 1061) (by decide +kernel), List.mem_of_getElem? (i := 1062) (by decide +kernel)⟩
theorem lw_p39 : lw_okq (⟨"HandMarketModel", "wedOnes", "()I"⟩, 33) := ⟨⟨by decide +kernel, by decide +kernel⟩, List.mem_of_getElem? (i := 901) (by decide +kernel), List.mem_of_getElem? (i := 1076) (by decide +kernel), List.mem_of_getElem? (i := 1077) (by decide +kernel)⟩
theorem lw_p40 : lw_okq (⟨"HandMarketModel", "wedTo", "(I)I"⟩, 33) := ⟨⟨by decide +kernel, by decide +kernel⟩, List.mem_of_getElem? (i := 901) (by decide +kernel), List.mem_of_getElem? (i := 1080) (by decide +kernel), List.mem_of_getElem? (i := 1081) (by decide +kernel)⟩
theorem lw_p41 : lw_okq (⟨"HandMarketModel", "isHand", "(I)Z"⟩, 33) := ⟨⟨by decide +kernel, by decide +kernel⟩, List.mem_of_getElem? (i := 901) (by decide +kernel), List.mem_of_getElem? (i := 1088) (by decide +kernel), List.mem_of_getElem? (i := 1089) (by decide +kernel)⟩
theorem lw_p42 : lw_okq (⟨"HandMarketModel", "penOf", "(I)I"⟩, 33) := ⟨⟨by decide +kernel, by decide +kernel⟩, List.mem_of_getElem? (i := 901) (by decide +kernel), List.mem_of_getElem? (i := 1093) (by decide +kernel), List.mem_of_getElem? (i := 1094) (by decide +kernel)⟩
theorem lw_p43 : lw_okq (⟨"HandMarketModel", "foldedWith", "(I)I"⟩, 33) := ⟨⟨by decide +kernel, by decide +kernel⟩, List.mem_of_getElem? (i := 901) (by decide +kernel), List.mem_of_getElem? (i := 1097) (by decide +kernel), List.mem_of_getElem? (i := 1098) (by decide +kernel)⟩
theorem lw_p44 : lw_okq (⟨"HandMarketModel", "areFolded", "(II)Z"⟩, 33) := ⟨⟨by decide +kernel, by decide +kernel⟩, List.mem_of_getElem? (i := 901) (by decide +kernel), List.mem_of_getElem? (i := 1101) (by decide +kernel), List.mem_of_getElem? (i := 1102) (by decide +kernel)⟩
theorem lw_p45 : lw_okq (⟨"HandMarketModel", "shows", "(II)I"⟩, 33) := ⟨⟨by decide +kernel, by decide +kernel⟩, List.mem_of_getElem? (i := 901) (by decide +kernel), List.mem_of_getElem? (i := 1110) (by decide +kernel), List.mem_of_getElem? (i := 1111) (by decide +kernel)⟩
theorem lw_p46 : lw_okq (⟨"HandMarketModel", "runsWith", "(I)I"⟩, 33) := ⟨⟨by decide +kernel, by decide +kernel⟩, List.mem_of_getElem? (i := 901) (by decide +kernel), List.mem_of_getElem? (i := 1114) (by decide +kernel), List.mem_of_getElem? (i := 1115) (by decide +kernel)⟩
theorem lw_p47 : lw_okq (⟨"HandMarketModel", "isRun", "(I)Z"⟩, 33) := ⟨⟨by decide +kernel, by decide +kernel⟩, List.mem_of_getElem? (i := 901) (by decide +kernel), List.mem_of_getElem? (i := 1118) (by decide +kernel), List.mem_of_getElem? (i := 1119) (by decide +kernel)⟩
def lw_privs_3 : List (MethodName × Nat) := [(⟨"HandMarketModel", "fails", "(I)V"⟩, 33), (⟨"HandMarketModel", "readLine", "()V"⟩, 33), (⟨"HandMarketModel", "nameHere", "()I"⟩, 33), (⟨"HandMarketModel", "readMore", "(I)V"⟩, 33), (⟨"HandMarketModel", "readHand", "(I)V"⟩, 33), (⟨"HandMarketModel", "other", "(III)I"⟩, 33), (⟨"HandMarketModel", "handHere", "(III)I"⟩, 33), (⟨"HandMarketModel", "wedOnes", "()I"⟩, 33), (⟨"HandMarketModel", "wedTo", "(I)I"⟩, 33), (⟨"HandMarketModel", "isHand", "(I)Z"⟩, 33), (⟨"HandMarketModel", "penOf", "(I)I"⟩, 33), (⟨"HandMarketModel", "foldedWith", "(I)I"⟩, 33), (⟨"HandMarketModel", "areFolded", "(II)Z"⟩, 33), (⟨"HandMarketModel", "shows", "(II)I"⟩, 33), (⟨"HandMarketModel", "runsWith", "(I)I"⟩, 33), (⟨"HandMarketModel", "isRun", "(I)Z"⟩, 33)]
theorem lw_r3 : ∀ q ∈ lw_privs_3, lw_okq q := List.forall_mem_cons.mpr ⟨lw_p32, List.forall_mem_cons.mpr ⟨lw_p33, List.forall_mem_cons.mpr ⟨lw_p34, List.forall_mem_cons.mpr ⟨lw_p35, List.forall_mem_cons.mpr ⟨lw_p36, List.forall_mem_cons.mpr ⟨lw_p37, List.forall_mem_cons.mpr ⟨lw_p38, List.forall_mem_cons.mpr ⟨lw_p39, List.forall_mem_cons.mpr ⟨lw_p40, List.forall_mem_cons.mpr ⟨lw_p41, List.forall_mem_cons.mpr ⟨lw_p42, List.forall_mem_cons.mpr ⟨lw_p43, List.forall_mem_cons.mpr ⟨lw_p44, List.forall_mem_cons.mpr ⟨lw_p45, List.forall_mem_cons.mpr ⟨lw_p46, List.forall_mem_cons.mpr ⟨lw_p47, fun _ h => absurd h List.not_mem_nil⟩⟩⟩⟩⟩⟩⟩⟩⟩⟩⟩⟩⟩⟩⟩⟩
theorem lw_p48 : lw_okq (⟨"HandMarketModel", "likesOf", "(II)I"⟩, 33) := ⟨⟨by decide +kernel, by decide +kernel⟩, List.mem_of_getElem? (i := 901) (by decide +kernel), List.mem_of_getElem? (i := 1126) (by decide +kernel), List.mem_of_getElem? (i := 1127) (by decide +kernel)⟩
theorem lw_p49 : lw_okq (⟨"HandMarketModel", "laysTable", "(I)V"⟩, 33) := ⟨⟨by decide +kernel, by decide +kernel⟩, List.mem_of_getElem? (i := 901) (by decide +kernel), List.mem_of_getElem? (i := 1137) (by decide +kernel), List.mem_of_getElem? (i := 1138) (by decide +kernel)⟩
theorem lw_p50 : lw_okq (⟨"HandMarketModel", "isRather", "(III)Z"⟩, 33) := ⟨⟨by decide +kernel, by decide +kernel⟩, List.mem_of_getElem? (i := 901) (by decide +kernel), List.mem_of_getElem? (i := 1141) (by decide +kernel), List.mem_of_getElem? (i := 1142) (by decide +kernel)⟩
theorem lw_p51 : lw_okq (⟨"HandMarketModel", "pens", "(II)I"⟩, 33) := ⟨⟨by decide +kernel, by decide +kernel⟩, List.mem_of_getElem? (i := 901) (by decide +kernel), List.mem_of_getElem? (i := 1149) (by decide +kernel), List.mem_of_getElem? (i := 1150) (by decide +kernel)⟩
theorem lw_p52 : lw_okq (⟨"HandMarketModel", "puts", "(ZIII)I"⟩, 33) := ⟨⟨by decide +kernel, by decide +kernel⟩, List.mem_of_getElem? (i := 901) (by decide +kernel), List.mem_of_getElem? (i := 1153) (by decide +kernel), List.mem_of_getElem? (i := 1154) (by decide +kernel)⟩
theorem lw_p53 : lw_okq (⟨"HandMarketModel", "areTwo", "(II)Z"⟩, 33) := ⟨⟨by decide +kernel, by decide +kernel⟩, List.mem_of_getElem? (i := 901) (by decide +kernel), List.mem_of_getElem? (i := 1167) (by decide +kernel), List.mem_of_getElem? (i := 1168) (by decide +kernel)⟩
theorem lw_p54 : lw_okq (⟨"HandMarketModel", "askingNow", "(I)V"⟩, 33) := ⟨⟨by decide +kernel, by decide +kernel⟩, List.mem_of_getElem? (i := 901) (by decide +kernel), List.mem_of_getElem? (i := 1186) (by decide +kernel), List.mem_of_getElem? (i := 1187) (by decide +kernel)⟩
theorem lw_p55 : lw_okq (⟨"HandMarketModel", "asking", "(I)V"⟩, 33) := ⟨⟨by decide +kernel, by decide +kernel⟩, List.mem_of_getElem? (i := 901) (by decide +kernel), List.mem_of_getElem? (i := 1190) (by decide +kernel), List.mem_of_getElem? (i := 1191) (by decide +kernel)⟩
theorem lw_p56 : lw_okq (⟨"HandMarketModel", "nextAsked", "(I)I"⟩, 33) := ⟨⟨by decide +kernel, by decide +kernel⟩, List.mem_of_getElem? (i := 901) (by decide +kernel), List.mem_of_getElem? (i := 1194) (by decide +kernel), List.mem_of_getElem? (i := 1195) (by decide +kernel)⟩
theorem lw_p57 : lw_okq (⟨"HandMarketModel", "pairMany", "()I"⟩, 33) := ⟨⟨by decide +kernel, by decide +kernel⟩, List.mem_of_getElem? (i := 901) (by decide +kernel), List.mem_of_getElem? (i := 1202) (by decide +kernel), List.mem_of_getElem? (i := 1203) (by decide +kernel)⟩
theorem lw_p58 : lw_okq (⟨"HandMarketModel", "likesInAll", "()I"⟩, 33) := ⟨⟨by decide +kernel, by decide +kernel⟩, List.mem_of_getElem? (i := 901) (by decide +kernel), List.mem_of_getElem? (i := 1206) (by decide +kernel), List.mem_of_getElem? (i := 1207) (by decide +kernel)⟩
theorem lw_p59 : lw_okq (⟨"HandMarketModel", "laysPairs", "(I)Z"⟩, 33) := ⟨⟨by decide +kernel, by decide +kernel⟩, List.mem_of_getElem? (i := 901) (by decide +kernel), List.mem_of_getElem? (i := 1214) (by decide +kernel), List.mem_of_getElem? (i := 1215) (by decide +kernel)⟩
theorem lw_p60 : lw_okq (⟨"HandMarketModel", "quarrels", "()I"⟩, 33) := ⟨⟨by decide +kernel, by decide +kernel⟩, List.mem_of_getElem? (i := 901) (by decide +kernel), List.mem_of_getElem? (i := 1218) (by decide +kernel), List.mem_of_getElem? (i := 1219) (by decide +kernel)⟩
theorem lw_p61 : lw_okq (⟨"HandMarketModel", "doQuarrel", "(II)Z"⟩, 33) := ⟨⟨by decide +kernel, by decide +kernel⟩, List.mem_of_getElem? (i := 901) (by decide +kernel), List.mem_of_getElem? (i := 1222) (by decide +kernel), List.mem_of_getElem? (i := 1223) (by decide +kernel)⟩
theorem lw_p62 : lw_okq (⟨"HandMarketModel", "yearGoes", "()V"⟩, 33) := ⟨⟨by decide +kernel, by decide +kernel⟩, List.mem_of_getElem? (i := 901) (by decide +kernel), List.mem_of_getElem? (i := 1244) (by decide +kernel), List.mem_of_getElem? (i := 1245) (by decide +kernel)⟩
theorem lw_p63 : lw_okq (⟨"HandMarketModel", "nears", "(III)V"⟩, 33) := ⟨⟨by decide +kernel, by decide +kernel⟩, List.mem_of_getElem? (i := 901) (by decide +kernel), List.mem_of_getElem? (i := 1248) (by decide +kernel), List.mem_of_getElem? (i := 1249) (by decide +kernel)⟩
def lw_privs_4 : List (MethodName × Nat) := [(⟨"HandMarketModel", "likesOf", "(II)I"⟩, 33), (⟨"HandMarketModel", "laysTable", "(I)V"⟩, 33), (⟨"HandMarketModel", "isRather", "(III)Z"⟩, 33), (⟨"HandMarketModel", "pens", "(II)I"⟩, 33), (⟨"HandMarketModel", "puts", "(ZIII)I"⟩, 33), (⟨"HandMarketModel", "areTwo", "(II)Z"⟩, 33), (⟨"HandMarketModel", "askingNow", "(I)V"⟩, 33), (⟨"HandMarketModel", "asking", "(I)V"⟩, 33), (⟨"HandMarketModel", "nextAsked", "(I)I"⟩, 33), (⟨"HandMarketModel", "pairMany", "()I"⟩, 33), (⟨"HandMarketModel", "likesInAll", "()I"⟩, 33), (⟨"HandMarketModel", "laysPairs", "(I)Z"⟩, 33), (⟨"HandMarketModel", "quarrels", "()I"⟩, 33), (⟨"HandMarketModel", "doQuarrel", "(II)Z"⟩, 33), (⟨"HandMarketModel", "yearGoes", "()V"⟩, 33), (⟨"HandMarketModel", "nears", "(III)V"⟩, 33)]
theorem lw_r4 : ∀ q ∈ lw_privs_4, lw_okq q := List.forall_mem_cons.mpr ⟨lw_p48, List.forall_mem_cons.mpr ⟨lw_p49, List.forall_mem_cons.mpr ⟨lw_p50, List.forall_mem_cons.mpr ⟨lw_p51, List.forall_mem_cons.mpr ⟨lw_p52, List.forall_mem_cons.mpr ⟨lw_p53, List.forall_mem_cons.mpr ⟨lw_p54, List.forall_mem_cons.mpr ⟨lw_p55, List.forall_mem_cons.mpr ⟨lw_p56, List.forall_mem_cons.mpr ⟨lw_p57, List.forall_mem_cons.mpr ⟨lw_p58, List.forall_mem_cons.mpr ⟨lw_p59, List.forall_mem_cons.mpr ⟨lw_p60, List.forall_mem_cons.mpr ⟨lw_p61, List.forall_mem_cons.mpr ⟨lw_p62, List.forall_mem_cons.mpr ⟨lw_p63, fun _ h => absurd h List.not_mem_nil⟩⟩⟩⟩⟩⟩⟩⟩⟩⟩⟩⟩⟩⟩⟩⟩
theorem lw_p64 : lw_okq (⟨"HandMarketModel", "copies", "(II)V"⟩, 33) := ⟨⟨by decide +kernel, by decide +kernel⟩, List.mem_of_getElem? (i := 901) (by decide +kernel), List.mem_of_getElem? (i := 1256) (by decide +kernel), List.mem_of_getElem? (i := 1257) (by decide +kernel)⟩
theorem lw_p65 : lw_okq (⟨"HandMarketModel", "unlike", "(II)I"⟩, 33) := ⟨⟨by decide +kernel, by decide +kernel⟩, List.mem_of_getElem? (i := 901) (by decide +kernel), List.mem_of_getElem? (i := 1260) (by decide +kernel), List.mem_of_getElem? (i := 1261) (by decide +kernel)⟩
theorem lw_p66 : lw_okq (⟨"HandMarketModel", "byThieves", "(III)J"⟩, 33) := ⟨⟨by decide +kernel, by decide +kernel⟩, List.mem_of_getElem? (i := 901) (by decide +kernel), List.mem_of_getElem? (i := 1281) (by decide +kernel), List.mem_of_getElem? (i := 1282) (by decide +kernel)⟩
theorem lw_p67 : lw_okq (⟨"HandMarketModel", "pensFor", "(I)I"⟩, 33) := ⟨⟨by decide +kernel, by decide +kernel⟩, List.mem_of_getElem? (i := 901) (by decide +kernel), List.mem_of_getElem? (i := 1305) (by decide +kernel), List.mem_of_getElem? (i := 1306) (by decide +kernel)⟩
theorem lw_p68 : lw_okq (⟨"HandMarketModel", "drawsHand", "()I"⟩, 33) := ⟨⟨by decide +kernel, by decide +kernel⟩, List.mem_of_getElem? (i := 901) (by decide +kernel), List.mem_of_getElem? (i := 1318) (by decide +kernel), List.mem_of_getElem? (i := 1319) (by decide +kernel)⟩
def lw_privs_5 : List (MethodName × Nat) := [(⟨"HandMarketModel", "copies", "(II)V"⟩, 33), (⟨"HandMarketModel", "unlike", "(II)I"⟩, 33), (⟨"HandMarketModel", "byThieves", "(III)J"⟩, 33), (⟨"HandMarketModel", "pensFor", "(I)I"⟩, 33), (⟨"HandMarketModel", "drawsHand", "()I"⟩, 33)]
theorem lw_r5 : ∀ q ∈ lw_privs_5, lw_okq q := List.forall_mem_cons.mpr ⟨lw_p64, List.forall_mem_cons.mpr ⟨lw_p65, List.forall_mem_cons.mpr ⟨lw_p66, List.forall_mem_cons.mpr ⟨lw_p67, List.forall_mem_cons.mpr ⟨lw_p68, fun _ h => absurd h List.not_mem_nil⟩⟩⟩⟩⟩
def lw_privs : List (MethodName × Nat) := lw_privs_1 ++ (lw_privs_2 ++ (lw_privs_3 ++ (lw_privs_4 ++ (lw_privs_5))))
def lw_tbl : List Cond := k2_sels lw_privs ++ tables_1
theorem lw_privs_ok : ∀ q ∈ lw_privs, lw_okq q := by
  show ∀ q ∈ lw_privs_1 ++ (lw_privs_2 ++ (lw_privs_3 ++ (lw_privs_4 ++ (lw_privs_5)))), lw_okq q
  exact List.forall_mem_append.mpr ⟨lw_r1, List.forall_mem_append.mpr ⟨lw_r2, List.forall_mem_append.mpr ⟨lw_r3, List.forall_mem_append.mpr ⟨lw_r4, lw_r5⟩⟩⟩⟩
end
section
def RX0 : String := "HandMarket$Courtship"
def TX0 : u_T := fun k => match k with
  | 0 => ("HandMarket$Courtship", "shownLoops", "[I", true)
  | 1 => ("HandMarket$Courtship", "shownBars", "[I", true)
  | 2 => ("HandMarket$Courtship", "shownLean", "[I", true)
  | 3 => ("HandMarket$Courtship", "liked", "[I", true)
  | 4 => ("HandMarket$Courtship", "wish", "[I", true)
  | 5 => ("HandMarket$Courtship", "mate", "[I", true)
  | 6 => ("HandMarket$Courtship", "untried", "[I", true)
  | 7 => ("HandMarket$Courtship", "bestMate", "[I", true)
  | _ => ("HandMarket$Courtship", "present", "I", false)
def tyX0 : Nat → FieldType := fun k => match k with
  | 0 => .array .int
  | 1 => .array .int
  | 2 => .array .int
  | 3 => .array .int
  | 4 => .array .int
  | 5 => .array .int
  | 6 => .array .int
  | 7 => .array .int
  | _ => .int
abbrev wsX00 : List Cond := u_ws RX0 TX0 9
theorem nmX0 : ∀ a, a < 9 → ∀ b, b < 9 → a ≠ b → (TX0 a).2.1 ≠ (TX0 b).2.1 := by decide +kernel
theorem tyX0_ok : ∀ k, k < 9 → parseFieldDescriptor (TX0 k).2.2.1 = some (tyX0 k) := by decide +kernel
abbrev cX0_init : ByteArray := prog_2_method_1_code
def yX0_init : MethodName := ⟨RX0, "<init>", "()V"⟩
abbrev cX0_weigh : ByteArray := prog_2_method_2_code
def yX0_weigh : MethodName := ⟨RX0, "weigh", "(LHandMarket$Town;)V"⟩
abbrev cX0_weighOne : ByteArray := prog_2_method_3_code
def yX0_weighOne : MethodName := ⟨RX0, "weighOne", "(LHandMarket$Town;II)V"⟩
abbrev cX0_likingIn : ByteArray := prog_2_method_4_code
def yX0_likingIn : MethodName := ⟨RX0, "likingIn", "(LHandMarket$Town;II)I"⟩
abbrev cX0_liking : ByteArray := prog_2_method_5_code
def yX0_liking : MethodName := ⟨RX0, "liking", "(II)I"⟩
abbrev cX0_wishFor : ByteArray := prog_2_method_6_code
def yX0_wishFor : MethodName := ⟨RX0, "wishFor", "(II)I"⟩
abbrev cX0_choiceOf : ByteArray := prog_2_method_7_code
def yX0_choiceOf : MethodName := ⟨RX0, "choiceOf", "(II)I"⟩
abbrev cX0_countAbove : ByteArray := prog_2_method_8_code
def yX0_countAbove : MethodName := ⟨RX0, "countAbove", "(II)I"⟩
abbrev cX0_court : ByteArray := prog_2_method_9_code
def yX0_court : MethodName := ⟨RX0, "court", "(LHandMarket$Town;I)V"⟩
abbrev cX0_ask : ByteArray := prog_2_method_10_code
def yX0_ask : MethodName := ⟨RX0, "ask", "(II)V"⟩
abbrev cX0_firstAsks : ByteArray := prog_2_method_11_code
def yX0_firstAsks : MethodName := ⟨RX0, "firstAsks", "(I)Z"⟩
abbrev cX0_dearest : ByteArray := prog_2_method_12_code
def yX0_dearest : MethodName := ⟨RX0, "dearest", "(II)I"⟩
abbrev cX0_answer : ByteArray := prog_2_method_13_code
def yX0_answer : MethodName := ⟨RX0, "answer", "(II)V"⟩
abbrev cX0_matedBits : ByteArray := prog_2_method_14_code
def yX0_matedBits : MethodName := ⟨RX0, "matedBits", "()I"⟩
abbrev cX0_pairs : ByteArray := prog_2_method_15_code
def yX0_pairs : MethodName := ⟨RX0, "pairs", "()I"⟩
abbrev cX0_allLikes : ByteArray := prog_2_method_16_code
def yX0_allLikes : MethodName := ⟨RX0, "allLikes", "()I"⟩
abbrev cX0_setMates : ByteArray := prog_2_method_17_code
def yX0_setMates : MethodName := ⟨RX0, "setMates", "([I)V"⟩
abbrev cX0_quarrelOver : ByteArray := prog_2_method_18_code
def yX0_quarrelOver : MethodName := ⟨RX0, "quarrelOver", "(II)Z"⟩
abbrev cX0_quarrels : ByteArray := prog_2_method_19_code
def yX0_quarrels : MethodName := ⟨RX0, "quarrels", "()I"⟩
abbrev cX0_firstQuarrel : ByteArray := prog_2_method_20_code
def yX0_firstQuarrel : MethodName := ⟨RX0, "firstQuarrel", "()I"⟩
abbrev cX0_toNextPairs : ByteArray := prog_2_method_21_code
def yX0_toNextPairs : MethodName := ⟨RX0, "toNextPairs", "()Z"⟩
abbrev cX0_countHolding : ByteArray := prog_2_method_22_code
def yX0_countHolding : MethodName := ⟨RX0, "countHolding", "()I"⟩
abbrev cX0_countHoldingWith : ByteArray := prog_2_method_23_code
def yX0_countHoldingWith : MethodName := ⟨RX0, "countHoldingWith", "(II)I"⟩
abbrev cX0_findMost : ByteArray := prog_2_method_24_code
def yX0_findMost : MethodName := ⟨RX0, "findMost", "()I"⟩
def RX1 : String := "HandMarket$Scribe"
def TX1 : u_T := fun k => match k with
  | 0 => ("HandMarket$Scribe", "tape", "LHandMarket$Tape;", true)
  | 1 => ("HandMarket$Scribe", "draft", "LHandMarket$Town;", true)
  | 2 => ("HandMarket$Scribe", "fault", "I", false)
  | 3 => ("HandMarket$Scribe", "place", "I", false)
  | 4 => ("HandMarket$Scribe", "lines", "I", false)
  | _ => ("HandMarket$Scribe", "toldPens", "I", false)
def tyX1 : Nat → FieldType := fun k => match k with
  | 0 => .object "HandMarket$Tape"
  | 1 => .object "HandMarket$Town"
  | 2 => .int
  | 3 => .int
  | 4 => .int
  | _ => .int
abbrev wsX10 : List Cond := u_ws RX1 TX1 6
theorem nmX1 : ∀ a, a < 6 → ∀ b, b < 6 → a ≠ b → (TX1 a).2.1 ≠ (TX1 b).2.1 := by decide +kernel
theorem tyX1_ok : ∀ k, k < 6 → parseFieldDescriptor (TX1 k).2.2.1 = some (tyX1 k) := by decide +kernel
abbrev cX1_init : ByteArray := prog_3_method_1_code
def yX1_init : MethodName := ⟨RX1, "<init>", "(LHandMarket$Tape;)V"⟩
abbrev cX1_parse : ByteArray := prog_3_method_2_code
def yX1_parse : MethodName := ⟨RX1, "parse", "()V"⟩
abbrev cX1_line : ByteArray := prog_3_method_3_code
def yX1_line : MethodName := ⟨RX1, "line", "()Z"⟩
abbrev cX1_kindNamed : ByteArray := prog_3_method_4_code
def yX1_kindNamed : MethodName := ⟨RX1, "kindNamed", "()I"⟩
abbrev cX1_handLine : ByteArray := prog_3_method_5_code
def yX1_handLine : MethodName := ⟨RX1, "handLine", "(I)Z"⟩
abbrev cX1_penLine : ByteArray := prog_3_method_6_code
def yX1_penLine : MethodName := ⟨RX1, "penLine", "()Z"⟩
abbrev cX1_runLine : ByteArray := prog_3_method_7_code
def yX1_runLine : MethodName := ⟨RX1, "runLine", "()Z"⟩
abbrev cX1_foldLine : ByteArray := prog_3_method_8_code
def yX1_foldLine : MethodName := ⟨RX1, "foldLine", "()Z"⟩
abbrev cX1_wedLine : ByteArray := prog_3_method_9_code
def yX1_wedLine : MethodName := ⟨RX1, "wedLine", "()Z"⟩
abbrev cX1_namedBits : ByteArray := prog_3_method_10_code
def yX1_namedBits : MethodName := ⟨RX1, "namedBits", "()I"⟩
abbrev cX1_number : ByteArray := prog_3_method_11_code
def yX1_number : MethodName := ⟨RX1, "number", "(II)I"⟩
abbrev cX1_follows : ByteArray := prog_3_method_12_code
def yX1_follows : MethodName := ⟨RX1, "follows", "(I)Z"⟩
abbrev cX1_stands : ByteArray := prog_3_method_13_code
def yX1_stands : MethodName := ⟨RX1, "stands", "(I)Z"⟩
abbrev cX1_refuse : ByteArray := prog_3_method_14_code
def yX1_refuse : MethodName := ⟨RX1, "refuse", "(I)Z"⟩
def RX2 : String := "HandMarket$Sheet"
def TX2 : u_T := fun k => match k with
  | 0 => ("HandMarket$Sheet", "cells", "[I", true)
  | 1 => ("HandMarket$Sheet", "lane", "I", false)
  | _ => ("HandMarket$Sheet", "size", "I", false)
def tyX2 : Nat → FieldType := fun k => match k with
  | 0 => .array .int
  | 1 => .int
  | _ => .int
abbrev wsX20 : List Cond := u_ws RX2 TX2 3
theorem nmX2 : ∀ a, a < 3 → ∀ b, b < 3 → a ≠ b → (TX2 a).2.1 ≠ (TX2 b).2.1 := by decide +kernel
theorem tyX2_ok : ∀ k, k < 3 → parseFieldDescriptor (TX2 k).2.2.1 = some (tyX2 k) := by decide +kernel
abbrev cX2_init : ByteArray := prog_4_method_1_code
def yX2_init : MethodName := ⟨RX2, "<init>", "()V"⟩
abbrev cX2_renew : ByteArray := prog_4_method_2_code
def yX2_renew : MethodName := ⟨RX2, "renew", "(II)V"⟩
abbrev cX2_isNothing : ByteArray := prog_4_method_3_code
def yX2_isNothing : MethodName := ⟨RX2, "isNothing", "()Z"⟩
abbrev cX2_faultAt : ByteArray := prog_4_method_4_code
def yX2_faultAt : MethodName := ⟨RX2, "faultAt", "(II)I"⟩
abbrev cX2_faultAtTwo : ByteArray := prog_4_method_5_code
def yX2_faultAtTwo : MethodName := ⟨RX2, "faultAtTwo", "(II)I"⟩
abbrev cX2_put : ByteArray := prog_4_method_6_code
def yX2_put : MethodName := ⟨RX2, "put", "(II)V"⟩
def RX3 : String := "HandMarket$Sightings"
def TX3 : u_T := fun k => match k with
  | 0 => ("HandMarket$Sightings", "of", "[I", true)
  | 1 => ("HandMarket$Sightings", "trait", "[I", true)
  | 2 => ("HandMarket$Sightings", "value", "[I", true)
  | _ => ("HandMarket$Sightings", "size", "I", false)
def tyX3 : Nat → FieldType := fun k => match k with
  | 0 => .array .int
  | 1 => .array .int
  | 2 => .array .int
  | _ => .int
abbrev wsX30 : List Cond := u_ws RX3 TX3 4
theorem nmX3 : ∀ a, a < 4 → ∀ b, b < 4 → a ≠ b → (TX3 a).2.1 ≠ (TX3 b).2.1 := by decide +kernel
theorem tyX3_ok : ∀ k, k < 4 → parseFieldDescriptor (TX3 k).2.2.1 = some (tyX3 k) := by decide +kernel
abbrev cX3_init : ByteArray := prog_5_method_1_code
def yX3_init : MethodName := ⟨RX3, "<init>", "()V"⟩
abbrev cX3_add : ByteArray := prog_5_method_2_code
def yX3_add : MethodName := ⟨RX3, "add", "(III)Z"⟩
abbrev cX3_agreeWith : ByteArray := prog_5_method_3_code
def yX3_agreeWith : MethodName := ⟨RX3, "agreeWith", "(LHandMarket$Town;I)Z"⟩
def RX4 : String := "HandMarket$Tape"
def TX4 : u_T := fun k => match k with
  | 0 => ("HandMarket$Tape", "bytes", "[B", true)
  | 1 => ("HandMarket$Tape", "size", "I", false)
  | 2 => ("HandMarket$Tape", "token", "I", false)
  | 3 => ("HandMarket$Tape", "start", "I", false)
  | 4 => ("HandMarket$Tape", "behind", "I", false)
  | _ => ("HandMarket$Tape", "value", "I", false)
def tyX4 : Nat → FieldType := fun k => match k with
  | 0 => .array .byte
  | 1 => .int
  | 2 => .int
  | 3 => .int
  | 4 => .int
  | _ => .int
abbrev wsX40 : List Cond := u_ws RX4 TX4 6
theorem nmX4 : ∀ a, a < 6 → ∀ b, b < 6 → a ≠ b → (TX4 a).2.1 ≠ (TX4 b).2.1 := by decide +kernel
theorem tyX4_ok : ∀ k, k < 6 → parseFieldDescriptor (TX4 k).2.2.1 = some (tyX4 k) := by decide +kernel
abbrev cX4_init : ByteArray := prog_6_method_1_code
def yX4_init : MethodName := ⟨RX4, "<init>", "()V"⟩
abbrev cX4_put : ByteArray := prog_6_method_2_code
def yX4_put : MethodName := ⟨RX4, "put", "(I)Z"⟩
abbrev cX4_rewind : ByteArray := prog_6_method_3_code
def yX4_rewind : MethodName := ⟨RX4, "rewind", "()V"⟩
abbrev cX4_advance : ByteArray := prog_6_method_4_code
def yX4_advance : MethodName := ⟨RX4, "advance", "()V"⟩
abbrev cX4_takeNumber : ByteArray := prog_6_method_5_code
def yX4_takeNumber : MethodName := ⟨RX4, "takeNumber", "()V"⟩
abbrev cX4_runEnd : ByteArray := prog_6_method_6_code
def yX4_runEnd : MethodName := ⟨RX4, "runEnd", "(III)I"⟩
abbrev cX4_spells : ByteArray := prog_6_method_7_code
def yX4_spells : MethodName := ⟨RX4, "spells", "(Ljava/lang/String;)Z"⟩
def RX5 : String := "HandMarket$Town"
def TX5 : u_T := fun k => match k with
  | 0 => ("HandMarket$Town", "kind", "[I", true)
  | 1 => ("HandMarket$Town", "loops", "[I", true)
  | 2 => ("HandMarket$Town", "bars", "[I", true)
  | 3 => ("HandMarket$Town", "lean", "[I", true)
  | 4 => ("HandMarket$Town", "pen", "[I", true)
  | 5 => ("HandMarket$Town", "spouse", "[I", true)
  | 6 => ("HandMarket$Town", "folded", "[I", true)
  | 7 => ("HandMarket$Town", "lefts", "I", false)
  | 8 => ("HandMarket$Town", "rights", "I", false)
  | 9 => ("HandMarket$Town", "runBits", "I", false)
  | _ => ("HandMarket$Town", "year", "I", false)
def tyX5 : Nat → FieldType := fun k => match k with
  | 0 => .array .int
  | 1 => .array .int
  | 2 => .array .int
  | 3 => .array .int
  | 4 => .array .int
  | 5 => .array .int
  | 6 => .array .int
  | 7 => .int
  | 8 => .int
  | 9 => .int
  | _ => .int
abbrev wsX50 : List Cond := u_ws RX5 TX5 11
theorem nmX5 : ∀ a, a < 11 → ∀ b, b < 11 → a ≠ b → (TX5 a).2.1 ≠ (TX5 b).2.1 := by decide +kernel
theorem tyX5_ok : ∀ k, k < 11 → parseFieldDescriptor (TX5 k).2.2.1 = some (tyX5 k) := by decide +kernel
abbrev cX5_init : ByteArray := prog_7_method_1_code
def yX5_init : MethodName := ⟨RX5, "<init>", "()V"⟩
abbrev cX5_clear : ByteArray := prog_7_method_2_code
def yX5_clear : MethodName := ⟨RX5, "clear", "()V"⟩
abbrev cX5_become : ByteArray := prog_7_method_3_code
def yX5_become : MethodName := ⟨RX5, "become", "(LHandMarket$Town;)V"⟩
abbrev cX5_isLeft : ByteArray := prog_7_method_4_code
def yX5_isLeft : MethodName := ⟨RX5, "isLeft", "(I)Z"⟩
abbrev cX5_isRight : ByteArray := prog_7_method_5_code
def yX5_isRight : MethodName := ⟨RX5, "isRight", "(I)Z"⟩
abbrev cX5_isHand : ByteArray := prog_7_method_6_code
def yX5_isHand : MethodName := ⟨RX5, "isHand", "(I)Z"⟩
abbrev cX5_sameSide : ByteArray := prog_7_method_7_code
def yX5_sameSide : MethodName := ⟨RX5, "sameSide", "(II)Z"⟩
abbrev cX5_size : ByteArray := prog_7_method_8_code
def yX5_size : MethodName := ⟨RX5, "size", "()I"⟩
abbrev cX5_handBits : ByteArray := prog_7_method_9_code
def yX5_handBits : MethodName := ⟨RX5, "handBits", "()I"⟩
abbrev cX5_byOrder : ByteArray := prog_7_method_10_code
def yX5_byOrder : MethodName := ⟨RX5, "byOrder", "(I)I"⟩
abbrev cX5_isFull : ByteArray := prog_7_method_11_code
def yX5_isFull : MethodName := ⟨RX5, "isFull", "(I)Z"⟩
abbrev cX5_add : ByteArray := prog_7_method_12_code
def yX5_add : MethodName := ⟨RX5, "add", "(IIIII)V"⟩
abbrev cX5_isRun : ByteArray := prog_7_method_13_code
def yX5_isRun : MethodName := ⟨RX5, "isRun", "(I)Z"⟩
abbrev cX5_setRun : ByteArray := prog_7_method_14_code
def yX5_setRun : MethodName := ⟨RX5, "setRun", "(IZ)V"⟩
abbrev cX5_areFolded : ByteArray := prog_7_method_15_code
def yX5_areFolded : MethodName := ⟨RX5, "areFolded", "(II)Z"⟩
abbrev cX5_setFolded : ByteArray := prog_7_method_16_code
def yX5_setFolded : MethodName := ⟨RX5, "setFolded", "(IIZ)V"⟩
abbrev cX5_withBit : ByteArray := prog_7_method_17_code
def yX5_withBit : MethodName := ⟨RX5, "withBit", "(IIZ)I"⟩
abbrev cX5_isWed : ByteArray := prog_7_method_18_code
def yX5_isWed : MethodName := ⟨RX5, "isWed", "(I)Z"⟩
abbrev cX5_join : ByteArray := prog_7_method_19_code
def yX5_join : MethodName := ⟨RX5, "join", "(II)V"⟩
abbrev cX5_divorce : ByteArray := prog_7_method_20_code
def yX5_divorce : MethodName := ⟨RX5, "divorce", "(II)V"⟩
abbrev cX5_wedBits : ByteArray := prog_7_method_21_code
def yX5_wedBits : MethodName := ⟨RX5, "wedBits", "()I"⟩
abbrev cX5_couples : ByteArray := prog_7_method_22_code
def yX5_couples : MethodName := ⟨RX5, "couples", "()I"⟩
abbrev cX5_foldings : ByteArray := prog_7_method_23_code
def yX5_foldings : MethodName := ⟨RX5, "foldings", "()I"⟩
abbrev cX5_swapPens : ByteArray := prog_7_method_24_code
def yX5_swapPens : MethodName := ⟨RX5, "swapPens", "(II)V"⟩
abbrev cX5_shows : ByteArray := prog_7_method_25_code
def yX5_shows : MethodName := ⟨RX5, "shows", "(II)I"⟩
abbrev cX5_runsWith : ByteArray := prog_7_method_26_code
def yX5_runsWith : MethodName := ⟨RX5, "runsWith", "(I)I"⟩
abbrev cX5_unlike : ByteArray := prog_7_method_27_code
def yX5_unlike : MethodName := ⟨RX5, "unlike", "(II)I"⟩
abbrev cX5_couplesAlike : ByteArray := prog_7_method_28_code
def yX5_couplesAlike : MethodName := ⟨RX5, "couplesAlike", "()Z"⟩
abbrev cX5_passYear : ByteArray := prog_7_method_29_code
def yX5_passYear : MethodName := ⟨RX5, "passYear", "()V"⟩
abbrev cX5_comeNearer : ByteArray := prog_7_method_30_code
def yX5_comeNearer : MethodName := ⟨RX5, "comeNearer", "([III)V"⟩
def RX6 : String := "HandMarket"
def TX6 : u_T := fun k => match k with
  | 0 => ("HandMarket", "town", "LHandMarket$Town;", true)
  | 1 => ("HandMarket", "trial", "LHandMarket$Town;", true)
  | 2 => ("HandMarket", "firstImage", "LHandMarket$Town;", true)
  | 3 => ("HandMarket", "secondImage", "LHandMarket$Town;", true)
  | 4 => ("HandMarket", "keptImages", "I", false)
  | 5 => ("HandMarket", "tape", "LHandMarket$Tape;", true)
  | 6 => ("HandMarket", "scribe", "LHandMarket$Scribe;", true)
  | 7 => ("HandMarket", "courtship", "LHandMarket$Courtship;", true)
  | 8 => ("HandMarket", "sightings", "LHandMarket$Sightings;", true)
  | 9 => ("HandMarket", "tally", "[I", true)
  | 10 => ("HandMarket", "sheets", "[LHandMarket$Sheet;", true)
  | _ => ("HandMarket", "tornBy", "I", false)
def tyX6 : Nat → FieldType := fun k => match k with
  | 0 => .object "HandMarket$Town"
  | 1 => .object "HandMarket$Town"
  | 2 => .object "HandMarket$Town"
  | 3 => .object "HandMarket$Town"
  | 4 => .int
  | 5 => .object "HandMarket$Tape"
  | 6 => .object "HandMarket$Scribe"
  | 7 => .object "HandMarket$Courtship"
  | 8 => .object "HandMarket$Sightings"
  | 9 => .array .int
  | 10 => .array (.object "HandMarket$Sheet")
  | _ => .int
abbrev wsX60 : List Cond := u_ws RX6 TX6 12
theorem nmX6 : ∀ a, a < 12 → ∀ b, b < 12 → a ≠ b → (TX6 a).2.1 ≠ (TX6 b).2.1 := by decide +kernel
theorem tyX6_ok : ∀ k, k < 12 → parseFieldDescriptor (TX6 k).2.2.1 = some (tyX6 k) := by decide +kernel
abbrev cX6_init : ByteArray := prog_1_method_1_code
def yX6_init : MethodName := ⟨RX6, "<init>", "()V"⟩
abbrev cX6_feed : ByteArray := prog_1_method_2_code
def yX6_feed : MethodName := ⟨RX6, "feed", "(I)I"⟩
abbrev cX6_end : ByteArray := prog_1_method_3_code
def yX6_end : MethodName := ⟨RX6, "end", "(I)I"⟩
abbrev cX6_text : ByteArray := prog_1_method_4_code
def yX6_text : MethodName := ⟨RX6, "text", "()I"⟩
abbrev cX6_fault : ByteArray := prog_1_method_5_code
def yX6_fault : MethodName := ⟨RX6, "fault", "()I"⟩
abbrev cX6_rule : ByteArray := prog_1_method_6_code
def yX6_rule : MethodName := ⟨RX6, "rule", "(I)I"⟩
abbrev cX6_hand : ByteArray := prog_1_method_7_code
def yX6_hand : MethodName := ⟨RX6, "hand", "(II)I"⟩
abbrev cX6_page : ByteArray := prog_1_method_8_code
def yX6_page : MethodName := ⟨RX6, "page", "(II)I"⟩
abbrev cX6_likes : ByteArray := prog_1_method_9_code
def yX6_likes : MethodName := ⟨RX6, "likes", "(II)I"⟩
abbrev cX6_rather : ByteArray := prog_1_method_10_code
def yX6_rather : MethodName := ⟨RX6, "rather", "(II)I"⟩
abbrev cX6_alter : ByteArray := prog_1_method_11_code
def yX6_alter : MethodName := ⟨RX6, "alter", "(III)I"⟩
abbrev cX6_run : ByteArray := prog_1_method_12_code
def yX6_run : MethodName := ⟨RX6, "run", "(IZ)I"⟩
abbrev cX6_fold : ByteArray := prog_1_method_13_code
def yX6_fold : MethodName := ⟨RX6, "fold", "(IIZ)I"⟩
abbrev cX6_wed : ByteArray := prog_1_method_14_code
def yX6_wed : MethodName := ⟨RX6, "wed", "(II)I"⟩
abbrev cX6_part : ByteArray := prog_1_method_15_code
def yX6_part : MethodName := ⟨RX6, "part", "(I)I"⟩
abbrev cX6_asked : ByteArray := prog_1_method_16_code
def yX6_asked : MethodName := ⟨RX6, "asked", "(II)I"⟩
abbrev cX6_sum : ByteArray := prog_1_method_17_code
def yX6_sum : MethodName := ⟨RX6, "sum", "(I)I"⟩
abbrev cX6_hold : ByteArray := prog_1_method_18_code
def yX6_hold : MethodName := ⟨RX6, "hold", "(I)I"⟩
abbrev cX6_most : ByteArray := prog_1_method_19_code
def yX6_most : MethodName := ⟨RX6, "most", "(I)I"⟩
abbrev cX6_quarrel : ByteArray := prog_1_method_20_code
def yX6_quarrel : MethodName := ⟨RX6, "quarrel", "(I)I"⟩
abbrev cX6_alone : ByteArray := prog_1_method_21_code
def yX6_alone : MethodName := ⟨RX6, "alone", "()I"⟩
abbrev cX6_years : ByteArray := prog_1_method_22_code
def yX6_years : MethodName := ⟨RX6, "years", "(I)I"⟩
abbrev cX6_alike : ByteArray := prog_1_method_23_code
def yX6_alike : MethodName := ⟨RX6, "alike", "()I"⟩
abbrev cX6_near : ByteArray := prog_1_method_24_code
def yX6_near : MethodName := ⟨RX6, "near", "(I)I"⟩
abbrev cX6_forge : ByteArray := prog_1_method_25_code
def yX6_forge : MethodName := ⟨RX6, "forge", "(II)I"⟩
abbrev cX6_swap : ByteArray := prog_1_method_26_code
def yX6_swap : MethodName := ⟨RX6, "swap", "(I)I"⟩
abbrev cX6_mean : ByteArray := prog_1_method_27_code
def yX6_mean : MethodName := ⟨RX6, "mean", "(II)J"⟩
abbrev cX6_luck : ByteArray := prog_1_method_28_code
def yX6_luck : MethodName := ⟨RX6, "luck", "(III)J"⟩
abbrev cX6_see : ByteArray := prog_1_method_29_code
def yX6_see : MethodName := ⟨RX6, "see", "(III)I"⟩
abbrev cX6_forget : ByteArray := prog_1_method_30_code
def yX6_forget : MethodName := ⟨RX6, "forget", "(I)I"⟩
abbrev cX6_fits : ByteArray := prog_1_method_31_code
def yX6_fits : MethodName := ⟨RX6, "fits", "(I)I"⟩
abbrev cX6_look : ByteArray := prog_1_method_32_code
def yX6_look : MethodName := ⟨RX6, "look", "(II)I"⟩
abbrev cX6_drift : ByteArray := prog_1_method_33_code
def yX6_drift : MethodName := ⟨RX6, "drift", "(III)I"⟩
abbrev cX6_keep : ByteArray := prog_1_method_34_code
def yX6_keep : MethodName := ⟨RX6, "keep", "(I)I"⟩
abbrev cX6_back : ByteArray := prog_1_method_35_code
def yX6_back : MethodName := ⟨RX6, "back", "(I)I"⟩
abbrev cX6_sheet : ByteArray := prog_1_method_36_code
def yX6_sheet : MethodName := ⟨RX6, "sheet", "(III)I"⟩
abbrev cX6_lay : ByteArray := prog_1_method_37_code
def yX6_lay : MethodName := ⟨RX6, "lay", "(III)I"⟩
abbrev cX6_read : ByteArray := prog_1_method_38_code
def yX6_read : MethodName := ⟨RX6, "read", "(IIII)I"⟩
abbrev cX6_torn : ByteArray := prog_1_method_39_code
def yX6_torn : MethodName := ⟨RX6, "torn", "()I"⟩
abbrev cX6_count : ByteArray := prog_1_method_40_code
def yX6_count : MethodName := ⟨RX6, "count", "(I)I"⟩
abbrev cX6_orNone : ByteArray := prog_1_method_41_code
def yX6_orNone : MethodName := ⟨RX6, "orNone", "(I)I"⟩
abbrev cX6_isTrait : ByteArray := prog_1_method_42_code
def yX6_isTrait : MethodName := ⟨RX6, "isTrait", "(I)Z"⟩
abbrev cX6_isStrokes : ByteArray := prog_1_method_43_code
def yX6_isStrokes : MethodName := ⟨RX6, "isStrokes", "(I)Z"⟩
abbrev cX6_isSheet : ByteArray := prog_1_method_44_code
def yX6_isSheet : MethodName := ⟨RX6, "isSheet", "(I)Z"⟩
abbrev cX6_isLane : ByteArray := prog_1_method_45_code
def yX6_isLane : MethodName := ⟨RX6, "isLane", "(I)Z"⟩
abbrev cX6_replace : ByteArray := prog_1_method_46_code
def yX6_replace : MethodName := ⟨RX6, "replace", "([IIIZ)I"⟩
abbrev cX6_likesIfSwapped : ByteArray := prog_1_method_47_code
def yX6_likesIfSwapped : MethodName := ⟨RX6, "likesIfSwapped", "(II)I"⟩
abbrev cX6_stolenSum : ByteArray := prog_1_method_48_code
def yX6_stolenSum : MethodName := ⟨RX6, "stolenSum", "(II)J"⟩
abbrev cX6_power : ByteArray := prog_1_method_49_code
def yX6_power : MethodName := ⟨RX6, "power", "(II)J"⟩
abbrev cX6_lowestTerms : ByteArray := prog_1_method_50_code
def yX6_lowestTerms : MethodName := ⟨RX6, "lowestTerms", "(JJI)J"⟩
abbrev cX6_commonDivisor : ByteArray := prog_1_method_51_code
def yX6_commonDivisor : MethodName := ⟨RX6, "commonDivisor", "(JJ)J"⟩
abbrev cX6_fittingPens : ByteArray := prog_1_method_52_code
def yX6_fittingPens : MethodName := ⟨RX6, "fittingPens", "(I)I"⟩
abbrev cX6_leftAtWorst : ByteArray := prog_1_method_53_code
def yX6_leftAtWorst : MethodName := ⟨RX6, "leftAtWorst", "(III)I"⟩
abbrev cX6_nextSeed : ByteArray := prog_1_method_54_code
def yX6_nextSeed : MethodName := ⟨RX6, "nextSeed", "(I)I"⟩
abbrev cX6_drawn : ByteArray := prog_1_method_55_code
def yX6_drawn : MethodName := ⟨RX6, "drawn", "(I)I"⟩
abbrev cX6_hasImage : ByteArray := prog_1_method_56_code
def yX6_hasImage : MethodName := ⟨RX6, "hasImage", "(I)Z"⟩
abbrev cX6_imageOf : ByteArray := prog_1_method_57_code
def yX6_imageOf : MethodName := ⟨RX6, "imageOf", "(I)LHandMarket$Town;"⟩
def RX7 : String := "HandMarketModel"
def TX7 : u_T := fun k => match k with
  | 0 => ("HandMarketModel", "state", "[I", true)
  | 1 => ("HandMarketModel", "leftMany", "I", false)
  | 2 => ("HandMarketModel", "rightMany", "I", false)
  | 3 => ("HandMarketModel", "readPage", "[I", true)
  | 4 => ("HandMarketModel", "readLefts", "I", false)
  | 5 => ("HandMarketModel", "readRights", "I", false)
  | 6 => ("HandMarketModel", "pensTold", "I", false)
  | 7 => ("HandMarketModel", "wedTold", "I", false)
  | 8 => ("HandMarketModel", "needed", "I", false)
  | 9 => ("HandMarketModel", "tape", "[I", true)
  | 10 => ("HandMarketModel", "taped", "I", false)
  | 11 => ("HandMarketModel", "fault", "I", false)
  | 12 => ("HandMarketModel", "broken", "I", false)
  | 13 => ("HandMarketModel", "brokenAt", "I", false)
  | 14 => ("HandMarketModel", "spot", "I", false)
  | 15 => ("HandMarketModel", "here", "I", false)
  | 16 => ("HandMarketModel", "token", "I", false)
  | 17 => ("HandMarketModel", "value", "I", false)
  | 18 => ("HandMarketModel", "cuts", "[I", true)
  | 19 => ("HandMarketModel", "letters", "[I", true)
  | 20 => ("HandMarketModel", "table", "[I", true)
  | 21 => ("HandMarketModel", "with", "[I", true)
  | 22 => ("HandMarketModel", "asks", "[I", true)
  | 23 => ("HandMarketModel", "pairs", "[I", true)
  | 24 => ("HandMarketModel", "seen", "[I", true)
  | 25 => ("HandMarketModel", "seenMany", "I", false)
  | 26 => ("HandMarketModel", "would", "[I", true)
  | 27 => ("HandMarketModel", "drawn", "I", false)
  | 28 => ("HandMarketModel", "isKept", "[Z", true)
  | 29 => ("HandMarketModel", "lanes", "[I", true)
  | 30 => ("HandMarketModel", "lengths", "[I", true)
  | 31 => ("HandMarketModel", "cells", "[I", true)
  | _ => ("HandMarketModel", "torn", "I", false)
def tyX7 : Nat → FieldType := fun k => match k with
  | 0 => .array .int
  | 1 => .int
  | 2 => .int
  | 3 => .array .int
  | 4 => .int
  | 5 => .int
  | 6 => .int
  | 7 => .int
  | 8 => .int
  | 9 => .array .int
  | 10 => .int
  | 11 => .int
  | 12 => .int
  | 13 => .int
  | 14 => .int
  | 15 => .int
  | 16 => .int
  | 17 => .int
  | 18 => .array .int
  | 19 => .array .int
  | 20 => .array .int
  | 21 => .array .int
  | 22 => .array .int
  | 23 => .array .int
  | 24 => .array .int
  | 25 => .int
  | 26 => .array .int
  | 27 => .int
  | 28 => .array .boolean
  | 29 => .array .int
  | 30 => .array .int
  | 31 => .array .int
  | _ => .int
abbrev wsX70 : List Cond := u_ws RX7 TX7 33
theorem nmX7 : ∀ a, a < 33 → ∀ b, b < 33 → a ≠ b → (TX7 a).2.1 ≠ (TX7 b).2.1 := by decide +kernel
theorem tyX7_ok : ∀ k, k < 33 → parseFieldDescriptor (TX7 k).2.2.1 = some (tyX7 k) := by decide +kernel
abbrev cX7_init : ByteArray := prog_9_method_1_code
def yX7_init : MethodName := ⟨RX7, "<init>", "()V"⟩
abbrev cX7_in : ByteArray := prog_9_method_3_code
def yX7_in : MethodName := ⟨RX7, "in", "(JJJ)Z"⟩
abbrev cX7_feed : ByteArray := prog_9_method_4_code
def yX7_feed : MethodName := ⟨RX7, "feed", "(I)I"⟩
abbrev cX7_end : ByteArray := prog_9_method_5_code
def yX7_end : MethodName := ⟨RX7, "end", "(I)I"⟩
abbrev cX7_byteAt : ByteArray := prog_9_method_6_code
def yX7_byteAt : MethodName := ⟨RX7, "byteAt", "(I)I"⟩
abbrev cX7_fails : ByteArray := prog_9_method_7_code
def yX7_fails : MethodName := ⟨RX7, "fails", "(I)V"⟩
abbrev cX7_nameHere : ByteArray := prog_9_method_8_code
def yX7_nameHere : MethodName := ⟨RX7, "nameHere", "()I"⟩
abbrev cX7_step : ByteArray := prog_9_method_9_code
def yX7_step : MethodName := ⟨RX7, "step", "()V"⟩
abbrev cX7_other : ByteArray := prog_9_method_10_code
def yX7_other : MethodName := ⟨RX7, "other", "(III)I"⟩
abbrev cX7_handHere : ByteArray := prog_9_method_11_code
def yX7_handHere : MethodName := ⟨RX7, "handHere", "(III)I"⟩
abbrev cX7_readHand : ByteArray := prog_9_method_12_code
def yX7_readHand : MethodName := ⟨RX7, "readHand", "(I)V"⟩
abbrev cX7_readMore : ByteArray := prog_9_method_13_code
def yX7_readMore : MethodName := ⟨RX7, "readMore", "(I)V"⟩
abbrev cX7_readLine : ByteArray := prog_9_method_14_code
def yX7_readLine : MethodName := ⟨RX7, "readLine", "()V"⟩
abbrev cX7_handsOf : ByteArray := prog_9_method_15_code
def yX7_handsOf : MethodName := ⟨RX7, "handsOf", "(II)I"⟩
abbrev cX7_text : ByteArray := prog_9_method_16_code
def yX7_text : MethodName := ⟨RX7, "text", "()I"⟩
abbrev cX7_fault : ByteArray := prog_9_method_17_code
def yX7_fault : MethodName := ⟨RX7, "fault", "()I"⟩
abbrev cX7_isHand : ByteArray := prog_9_method_18_code
def yX7_isHand : MethodName := ⟨RX7, "isHand", "(I)Z"⟩
abbrev cX7_areTwo : ByteArray := prog_9_method_19_code
def yX7_areTwo : MethodName := ⟨RX7, "areTwo", "(II)Z"⟩
abbrev cX7_bitsOf : ByteArray := prog_9_method_20_code
def yX7_bitsOf : MethodName := ⟨RX7, "bitsOf", "(I)I"⟩
abbrev cX7_wedTo : ByteArray := prog_9_method_21_code
def yX7_wedTo : MethodName := ⟨RX7, "wedTo", "(I)I"⟩
abbrev cX7_wedOnes : ByteArray := prog_9_method_22_code
def yX7_wedOnes : MethodName := ⟨RX7, "wedOnes", "()I"⟩
abbrev cX7_rule : ByteArray := prog_9_method_23_code
def yX7_rule : MethodName := ⟨RX7, "rule", "(I)I"⟩
abbrev cX7_areFolded : ByteArray := prog_9_method_24_code
def yX7_areFolded : MethodName := ⟨RX7, "areFolded", "(II)Z"⟩
abbrev cX7_foldedWith : ByteArray := prog_9_method_25_code
def yX7_foldedWith : MethodName := ⟨RX7, "foldedWith", "(I)I"⟩
abbrev cX7_penOf : ByteArray := prog_9_method_26_code
def yX7_penOf : MethodName := ⟨RX7, "penOf", "(I)I"⟩
abbrev cX7_hand : ByteArray := prog_9_method_27_code
def yX7_hand : MethodName := ⟨RX7, "hand", "(II)I"⟩
abbrev cX7_isRun : ByteArray := prog_9_method_28_code
def yX7_isRun : MethodName := ⟨RX7, "isRun", "(I)Z"⟩
abbrev cX7_runsWith : ByteArray := prog_9_method_29_code
def yX7_runsWith : MethodName := ⟨RX7, "runsWith", "(I)I"⟩
abbrev cX7_shows : ByteArray := prog_9_method_30_code
def yX7_shows : MethodName := ⟨RX7, "shows", "(II)I"⟩
abbrev cX7_page : ByteArray := prog_9_method_31_code
def yX7_page : MethodName := ⟨RX7, "page", "(II)I"⟩
abbrev cX7_far : ByteArray := prog_9_method_32_code
def yX7_far : MethodName := ⟨RX7, "far", "(II)I"⟩
abbrev cX7_likesOf : ByteArray := prog_9_method_33_code
def yX7_likesOf : MethodName := ⟨RX7, "likesOf", "(II)I"⟩
abbrev cX7_likes : ByteArray := prog_9_method_34_code
def yX7_likes : MethodName := ⟨RX7, "likes", "(II)I"⟩
abbrev cX7_laysTable : ByteArray := prog_9_method_35_code
def yX7_laysTable : MethodName := ⟨RX7, "laysTable", "(I)V"⟩
abbrev cX7_isRather : ByteArray := prog_9_method_36_code
def yX7_isRather : MethodName := ⟨RX7, "isRather", "(III)Z"⟩
abbrev cX7_rather : ByteArray := prog_9_method_37_code
def yX7_rather : MethodName := ⟨RX7, "rather", "(II)I"⟩
abbrev cX7_puts : ByteArray := prog_9_method_38_code
def yX7_puts : MethodName := ⟨RX7, "puts", "(ZIII)I"⟩
abbrev cX7_pens : ByteArray := prog_9_method_39_code
def yX7_pens : MethodName := ⟨RX7, "pens", "(II)I"⟩
abbrev cX7_alter : ByteArray := prog_9_method_40_code
def yX7_alter : MethodName := ⟨RX7, "alter", "(III)I"⟩
abbrev cX7_run : ByteArray := prog_9_method_41_code
def yX7_run : MethodName := ⟨RX7, "run", "(IZ)I"⟩
abbrev cX7_fold : ByteArray := prog_9_method_42_code
def yX7_fold : MethodName := ⟨RX7, "fold", "(IIZ)I"⟩
abbrev cX7_wed : ByteArray := prog_9_method_43_code
def yX7_wed : MethodName := ⟨RX7, "wed", "(II)I"⟩
abbrev cX7_part : ByteArray := prog_9_method_44_code
def yX7_part : MethodName := ⟨RX7, "part", "(I)I"⟩
abbrev cX7_nextAsked : ByteArray := prog_9_method_45_code
def yX7_nextAsked : MethodName := ⟨RX7, "nextAsked", "(I)I"⟩
abbrev cX7_asking : ByteArray := prog_9_method_46_code
def yX7_asking : MethodName := ⟨RX7, "asking", "(I)V"⟩
abbrev cX7_askingNow : ByteArray := prog_9_method_47_code
def yX7_askingNow : MethodName := ⟨RX7, "askingNow", "(I)V"⟩
abbrev cX7_asked : ByteArray := prog_9_method_48_code
def yX7_asked : MethodName := ⟨RX7, "asked", "(II)I"⟩
abbrev cX7_pairMany : ByteArray := prog_9_method_49_code
def yX7_pairMany : MethodName := ⟨RX7, "pairMany", "()I"⟩
abbrev cX7_likesInAll : ByteArray := prog_9_method_50_code
def yX7_likesInAll : MethodName := ⟨RX7, "likesInAll", "()I"⟩
abbrev cX7_sum : ByteArray := prog_9_method_51_code
def yX7_sum : MethodName := ⟨RX7, "sum", "(I)I"⟩
abbrev cX7_laysPairs : ByteArray := prog_9_method_52_code
def yX7_laysPairs : MethodName := ⟨RX7, "laysPairs", "(I)Z"⟩
abbrev cX7_doQuarrel : ByteArray := prog_9_method_53_code
def yX7_doQuarrel : MethodName := ⟨RX7, "doQuarrel", "(II)Z"⟩
abbrev cX7_quarrels : ByteArray := prog_9_method_54_code
def yX7_quarrels : MethodName := ⟨RX7, "quarrels", "()I"⟩
abbrev cX7_hold : ByteArray := prog_9_method_55_code
def yX7_hold : MethodName := ⟨RX7, "hold", "(I)I"⟩
abbrev cX7_most : ByteArray := prog_9_method_56_code
def yX7_most : MethodName := ⟨RX7, "most", "(I)I"⟩
abbrev cX7_quarrel : ByteArray := prog_9_method_57_code
def yX7_quarrel : MethodName := ⟨RX7, "quarrel", "(I)I"⟩
abbrev cX7_alone : ByteArray := prog_9_method_58_code
def yX7_alone : MethodName := ⟨RX7, "alone", "()I"⟩
abbrev cX7_copies : ByteArray := prog_9_method_59_code
def yX7_copies : MethodName := ⟨RX7, "copies", "(II)V"⟩
abbrev cX7_nears : ByteArray := prog_9_method_60_code
def yX7_nears : MethodName := ⟨RX7, "nears", "(III)V"⟩
abbrev cX7_yearGoes : ByteArray := prog_9_method_61_code
def yX7_yearGoes : MethodName := ⟨RX7, "yearGoes", "()V"⟩
abbrev cX7_years : ByteArray := prog_9_method_62_code
def yX7_years : MethodName := ⟨RX7, "years", "(I)I"⟩
abbrev cX7_unlike : ByteArray := prog_9_method_63_code
def yX7_unlike : MethodName := ⟨RX7, "unlike", "(II)I"⟩
abbrev cX7_alike : ByteArray := prog_9_method_64_code
def yX7_alike : MethodName := ⟨RX7, "alike", "()I"⟩
abbrev cX7_near : ByteArray := prog_9_method_65_code
def yX7_near : MethodName := ⟨RX7, "near", "(I)I"⟩
abbrev cX7_forge : ByteArray := prog_9_method_66_code
def yX7_forge : MethodName := ⟨RX7, "forge", "(II)I"⟩
abbrev cX7_swap : ByteArray := prog_9_method_67_code
def yX7_swap : MethodName := ⟨RX7, "swap", "(I)I"⟩
abbrev cX7_lowest : ByteArray := prog_9_method_68_code
def yX7_lowest : MethodName := ⟨RX7, "lowest", "(JJI)J"⟩
abbrev cX7_byThieves : ByteArray := prog_9_method_69_code
def yX7_byThieves : MethodName := ⟨RX7, "byThieves", "(III)J"⟩
abbrev cX7_mean : ByteArray := prog_9_method_70_code
def yX7_mean : MethodName := ⟨RX7, "mean", "(II)J"⟩
abbrev cX7_luck : ByteArray := prog_9_method_71_code
def yX7_luck : MethodName := ⟨RX7, "luck", "(III)J"⟩
abbrev cX7_see : ByteArray := prog_9_method_72_code
def yX7_see : MethodName := ⟨RX7, "see", "(III)I"⟩
abbrev cX7_forget : ByteArray := prog_9_method_73_code
def yX7_forget : MethodName := ⟨RX7, "forget", "(I)I"⟩
abbrev cX7_pensFor : ByteArray := prog_9_method_74_code
def yX7_pensFor : MethodName := ⟨RX7, "pensFor", "(I)I"⟩
abbrev cX7_fits : ByteArray := prog_9_method_75_code
def yX7_fits : MethodName := ⟨RX7, "fits", "(I)I"⟩
abbrev cX7_look : ByteArray := prog_9_method_76_code
def yX7_look : MethodName := ⟨RX7, "look", "(II)I"⟩
abbrev cX7_drawsHand : ByteArray := prog_9_method_77_code
def yX7_drawsHand : MethodName := ⟨RX7, "drawsHand", "()I"⟩
abbrev cX7_drift : ByteArray := prog_9_method_78_code
def yX7_drift : MethodName := ⟨RX7, "drift", "(III)I"⟩
abbrev cX7_keep : ByteArray := prog_9_method_79_code
def yX7_keep : MethodName := ⟨RX7, "keep", "(I)I"⟩
abbrev cX7_back : ByteArray := prog_9_method_80_code
def yX7_back : MethodName := ⟨RX7, "back", "(I)I"⟩
abbrev cX7_sheet : ByteArray := prog_9_method_81_code
def yX7_sheet : MethodName := ⟨RX7, "sheet", "(III)I"⟩
abbrev cX7_lay : ByteArray := prog_9_method_82_code
def yX7_lay : MethodName := ⟨RX7, "lay", "(III)I"⟩
abbrev cX7_read : ByteArray := prog_9_method_83_code
def yX7_read : MethodName := ⟨RX7, "read", "(IIII)I"⟩
abbrev cX7_torn : ByteArray := prog_9_method_84_code
def yX7_torn : MethodName := ⟨RX7, "torn", "()I"⟩
abbrev cX7_count : ByteArray := prog_9_method_85_code
def yX7_count : MethodName := ⟨RX7, "count", "(I)I"⟩
def RJx145de : String := "java/io/Serializable"
def TJx145de : u_T := fun k => match k with
  | _ => ("", "", "", false)
def tyJx145de : Nat → FieldType := fun k => match k with
  | _ => .int
theorem nmJx145de : ∀ a, a < 0 → ∀ b, b < 0 → a ≠ b → (TJx145de a).2.1 ≠ (TJx145de b).2.1 := by decide +kernel
theorem tyJx145de_ok : ∀ k, k < 0 → parseFieldDescriptor (TJx145de k).2.2.1 = some (tyJx145de k) := by decide +kernel
def RJx9f9b0 : String := "java/lang/CharSequence"
def TJx9f9b0 : u_T := fun k => match k with
  | _ => ("", "", "", false)
def tyJx9f9b0 : Nat → FieldType := fun k => match k with
  | _ => .int
theorem nmJx9f9b0 : ∀ a, a < 0 → ∀ b, b < 0 → a ≠ b → (TJx9f9b0 a).2.1 ≠ (TJx9f9b0 b).2.1 := by decide +kernel
theorem tyJx9f9b0_ok : ∀ k, k < 0 → parseFieldDescriptor (TJx9f9b0 k).2.2.1 = some (tyJx9f9b0 k) := by decide +kernel
def RJxb160c : String := "java/lang/Comparable"
def TJxb160c : u_T := fun k => match k with
  | _ => ("", "", "", false)
def tyJxb160c : Nat → FieldType := fun k => match k with
  | _ => .int
theorem nmJxb160c : ∀ a, a < 0 → ∀ b, b < 0 → a ≠ b → (TJxb160c a).2.1 ≠ (TJxb160c b).2.1 := by decide +kernel
theorem tyJxb160c_ok : ∀ k, k < 0 → parseFieldDescriptor (TJxb160c k).2.2.1 = some (tyJxb160c k) := by decide +kernel
def RJ6 : String := "java/lang/Integer"
def TJ6 : u_T := fun k => match k with
  | _ => ("", "", "", false)
def tyJ6 : Nat → FieldType := fun k => match k with
  | _ => .int
abbrev wsJ60 : List Cond := u_ws RJ6 TJ6 0
theorem nmJ6 : ∀ a, a < 0 → ∀ b, b < 0 → a ≠ b → (TJ6 a).2.1 ≠ (TJ6 b).2.1 := by decide +kernel
theorem tyJ6_ok : ∀ k, k < 0 → parseFieldDescriptor (TJ6 k).2.2.1 = some (tyJ6 k) := by decide +kernel
abbrev cJ6_bitCount_0f7a4 : ByteArray := prog_10_method_49_code
def yJ6_bitCount_0f7a4 : MethodName := ⟨RJ6, "bitCount", "(I)I"⟩
def RJ9 : String := "java/lang/Math"
def TJ9 : u_T := fun k => match k with
  | _ => ("", "", "", false)
def tyJ9 : Nat → FieldType := fun k => match k with
  | _ => .int
abbrev wsJ90 : List Cond := u_ws RJ9 TJ9 0
theorem nmJ9 : ∀ a, a < 0 → ∀ b, b < 0 → a ≠ b → (TJ9 a).2.1 ≠ (TJ9 b).2.1 := by decide +kernel
theorem tyJ9_ok : ∀ k, k < 0 → parseFieldDescriptor (TJ9 k).2.2.1 = some (tyJ9 k) := by decide +kernel
abbrev cJ9_abs_0f7a4 : ByteArray := prog_11_method_59_code
def yJ9_abs_0f7a4 : MethodName := ⟨RJ9, "abs", "(I)I"⟩
abbrev cJ9_max_7cf53 : ByteArray := prog_11_method_65_code
def yJ9_max_7cf53 : MethodName := ⟨RJ9, "max", "(II)I"⟩
abbrev cJ9_min_7cf53 : ByteArray := prog_11_method_69_code
def yJ9_min_7cf53 : MethodName := ⟨RJ9, "min", "(II)I"⟩
def RJ0 : String := "java/lang/String"
def TJ0 : u_T := fun k => match k with
  | _ => ("", "", "", false)
def tyJ0 : Nat → FieldType := fun k => match k with
  | _ => .int
abbrev wsJ00 : List Cond := u_ws RJ0 TJ0 0
theorem nmJ0 : ∀ a, a < 0 → ∀ b, b < 0 → a ≠ b → (TJ0 a).2.1 ≠ (TJ0 b).2.1 := by decide +kernel
theorem tyJ0_ok : ∀ k, k < 0 → parseFieldDescriptor (TJ0 k).2.2.1 = some (tyJ0 k) := by decide +kernel
abbrev cJ0_length_8abf5 : ByteArray := prog_12_method_54_code
def yJ0_length_8abf5 : MethodName := ⟨RJ0, "length", "()I"⟩
abbrev cJ0_charAt_5068e : ByteArray := prog_12_method_56_code
def yJ0_charAt_5068e : MethodName := ⟨RJ0, "charAt", "(I)C"⟩
abbrev cJ0_coder_7d493 : ByteArray := prog_12_method_152_code
def yJ0_coder_7d493 : MethodName := ⟨RJ0, "coder", "()B"⟩
abbrev cJ0_isLatin1_aae02 : ByteArray := prog_12_method_154_code
def yJ0_isLatin1_aae02 : MethodName := ⟨RJ0, "isLatin1", "()Z"⟩
abbrev cJ0_checkIndex_df160 : ByteArray := prog_12_method_155_code
def yJ0_checkIndex_df160 : MethodName := ⟨RJ0, "checkIndex", "(II)V"⟩
def RJ1 : String := "java/lang/StringLatin1"
def TJ1 : u_T := fun k => match k with
  | _ => ("", "", "", false)
def tyJ1 : Nat → FieldType := fun k => match k with
  | _ => .int
abbrev wsJ10 : List Cond := u_ws RJ1 TJ1 0
theorem nmJ1 : ∀ a, a < 0 → ∀ b, b < 0 → a ≠ b → (TJ1 a).2.1 ≠ (TJ1 b).2.1 := by decide +kernel
theorem tyJ1_ok : ∀ k, k < 0 → parseFieldDescriptor (TJ1 k).2.2.1 = some (tyJ1 k) := by decide +kernel
abbrev cJ1_charAt_3b067 : ByteArray := prog_13_method_2_code
def yJ1_charAt_3b067 : MethodName := ⟨RJ1, "charAt", "([BI)C"⟩
def RJ2 : String := "java/lang/StringUTF16"
def TJ2 : u_T := fun k => match k with
  | _ => ("", "", "", false)
def tyJ2 : Nat → FieldType := fun k => match k with
  | _ => .int
abbrev wsJ20 : List Cond := u_ws RJ2 TJ2 0
theorem nmJ2 : ∀ a, a < 0 → ∀ b, b < 0 → a ≠ b → (TJ2 a).2.1 ≠ (TJ2 b).2.1 := by decide +kernel
theorem tyJ2_ok : ∀ k, k < 0 → parseFieldDescriptor (TJ2 k).2.2.1 = some (tyJ2 k) := by decide +kernel
abbrev cJ2_getChar_3b067 : ByteArray := prog_14_method_5_code
def yJ2_getChar_3b067 : MethodName := ⟨RJ2, "getChar", "([BI)C"⟩
abbrev cJ2_length_9d52b : ByteArray := prog_14_method_6_code
def yJ2_length_9d52b : MethodName := ⟨RJ2, "length", "([B)I"⟩
abbrev cJ2_charAt_3b067 : ByteArray := prog_14_method_83_code
def yJ2_charAt_3b067 : MethodName := ⟨RJ2, "charAt", "([BI)C"⟩
abbrev cJ2_checkIndex_2214a : ByteArray := prog_14_method_91_code
def yJ2_checkIndex_2214a : MethodName := ⟨RJ2, "checkIndex", "(I[B)V"⟩
def RJ10 : String := "java/lang/System"
def TJ10 : u_T := fun k => match k with
  | _ => ("", "", "", false)
def tyJ10 : Nat → FieldType := fun k => match k with
  | _ => .int
abbrev wsJ100 : List Cond := u_ws RJ10 TJ10 0
theorem nmJ10 : ∀ a, a < 0 → ∀ b, b < 0 → a ≠ b → (TJ10 a).2.1 ≠ (TJ10 b).2.1 := by decide +kernel
theorem tyJ10_ok : ∀ k, k < 0 → parseFieldDescriptor (TJ10 k).2.2.1 = some (tyJ10 k) := by decide +kernel
def RJxfd54e : String := "java/lang/constant/Constable"
def TJxfd54e : u_T := fun k => match k with
  | _ => ("", "", "", false)
def tyJxfd54e : Nat → FieldType := fun k => match k with
  | _ => .int
theorem nmJxfd54e : ∀ a, a < 0 → ∀ b, b < 0 → a ≠ b → (TJxfd54e a).2.1 ≠ (TJxfd54e b).2.1 := by decide +kernel
theorem tyJxfd54e_ok : ∀ k, k < 0 → parseFieldDescriptor (TJxfd54e k).2.2.1 = some (tyJxfd54e k) := by decide +kernel
def RJx3cf43 : String := "java/lang/constant/ConstantDesc"
def TJx3cf43 : u_T := fun k => match k with
  | _ => ("", "", "", false)
def tyJx3cf43 : Nat → FieldType := fun k => match k with
  | _ => .int
theorem nmJx3cf43 : ∀ a, a < 0 → ∀ b, b < 0 → a ≠ b → (TJx3cf43 a).2.1 ≠ (TJx3cf43 b).2.1 := by decide +kernel
theorem tyJx3cf43_ok : ∀ k, k < 0 → parseFieldDescriptor (TJx3cf43 k).2.2.1 = some (tyJx3cf43 k) := by decide +kernel
def RJ7 : String := "java/util/Arrays"
def TJ7 : u_T := fun k => match k with
  | _ => ("", "", "", false)
def tyJ7 : Nat → FieldType := fun k => match k with
  | _ => .int
abbrev wsJ70 : List Cond := u_ws RJ7 TJ7 0
theorem nmJ7 : ∀ a, a < 0 → ∀ b, b < 0 → a ≠ b → (TJ7 a).2.1 ≠ (TJ7 b).2.1 := by decide +kernel
theorem tyJ7_ok : ∀ k, k < 0 → parseFieldDescriptor (TJ7 k).2.2.1 = some (tyJ7 k) := by decide +kernel
abbrev cJ7_fill_53178 : ByteArray := prog_16_method_103_code
def yJ7_fill_53178 : MethodName := ⟨RJ7, "fill", "([II)V"⟩
def RJ3 : String := "jdk/internal/util/Preconditions"
def TJ3 : u_T := fun k => match k with
  | _ => ("", "", "", false)
def tyJ3 : Nat → FieldType := fun k => match k with
  | _ => .int
abbrev wsJ30 : List Cond := u_ws RJ3 TJ3 0
theorem nmJ3 : ∀ a, a < 0 → ∀ b, b < 0 → a ≠ b → (TJ3 a).2.1 ≠ (TJ3 b).2.1 := by decide +kernel
theorem tyJ3_ok : ∀ k, k < 0 → parseFieldDescriptor (TJ3 k).2.2.1 = some (tyJ3 k) := by decide +kernel
abbrev cJ3_checkIndex_8e157 : ByteArray := prog_17_method_11_code
def yJ3_checkIndex_8e157 : MethodName := ⟨RJ3, "checkIndex", "(IILjava/util/function/BiFunction;)I"⟩
def RL : String := "HandMarketLaw"
abbrev cL_law : ByteArray := code
def yL_law : MethodName := ⟨RL, "law", "([I)Z"⟩
abbrev vwCl : List vw_C := [(RX0, TX0, 9), (RX1, TX1, 6), (RX2, TX2, 3), (RX3, TX3, 4), (RX4, TX4, 6), (RX5, TX5, 11), (RX6, TX6, 12), (RX7, TX7, 33)]
end
section
theorem dX0_init_0 : decode cX0_init 0 = .ok (.aload_n 0, 1) := by decide +kernel
theorem dX0_init_1 : decode cX0_init 1 = .ok (.invokespecial 3, 3) := by decide +kernel
theorem dX0_init_4 : decode cX0_init 4 = .ok (.aload_n 0, 1) := by decide +kernel
theorem dX0_init_5 : decode cX0_init 5 = .ok (.bipush 8, 2) := by decide +kernel
theorem dX0_init_7 : decode cX0_init 7 = .ok (.newarray .int, 2) := by decide +kernel
theorem dX0_init_9 : decode cX0_init 9 = .ok (.putfield 9, 3) := by decide +kernel
theorem dX0_init_12 : decode cX0_init 12 = .ok (.aload_n 0, 1) := by decide +kernel
theorem dX0_init_13 : decode cX0_init 13 = .ok (.bipush 8, 2) := by decide +kernel
theorem dX0_init_15 : decode cX0_init 15 = .ok (.newarray .int, 2) := by decide +kernel
theorem dX0_init_17 : decode cX0_init 17 = .ok (.putfield 15, 3) := by decide +kernel
theorem dX0_init_20 : decode cX0_init 20 = .ok (.aload_n 0, 1) := by decide +kernel
theorem dX0_init_21 : decode cX0_init 21 = .ok (.bipush 8, 2) := by decide +kernel
theorem dX0_init_23 : decode cX0_init 23 = .ok (.newarray .int, 2) := by decide +kernel
theorem dX0_init_25 : decode cX0_init 25 = .ok (.putfield 18, 3) := by decide +kernel
theorem dX0_init_28 : decode cX0_init 28 = .ok (.aload_n 0, 1) := by decide +kernel
theorem dX0_init_29 : decode cX0_init 29 = .ok (.bipush 64, 2) := by decide +kernel
theorem dX0_init_31 : decode cX0_init 31 = .ok (.newarray .int, 2) := by decide +kernel
theorem dX0_init_33 : decode cX0_init 33 = .ok (.putfield 21, 3) := by decide +kernel
theorem dX0_init_36 : decode cX0_init 36 = .ok (.aload_n 0, 1) := by decide +kernel
theorem dX0_init_37 : decode cX0_init 37 = .ok (.bipush 64, 2) := by decide +kernel
theorem dX0_init_39 : decode cX0_init 39 = .ok (.newarray .int, 2) := by decide +kernel
theorem dX0_init_41 : decode cX0_init 41 = .ok (.putfield 24, 3) := by decide +kernel
theorem dX0_init_44 : decode cX0_init 44 = .ok (.aload_n 0, 1) := by decide +kernel
theorem dX0_init_45 : decode cX0_init 45 = .ok (.bipush 8, 2) := by decide +kernel
theorem dX0_init_47 : decode cX0_init 47 = .ok (.newarray .int, 2) := by decide +kernel
theorem dX0_init_49 : decode cX0_init 49 = .ok (.putfield 27, 3) := by decide +kernel
theorem dX0_init_52 : decode cX0_init 52 = .ok (.aload_n 0, 1) := by decide +kernel
theorem dX0_init_53 : decode cX0_init 53 = .ok (.bipush 8, 2) := by decide +kernel
theorem dX0_init_55 : decode cX0_init 55 = .ok (.newarray .int, 2) := by decide +kernel
theorem dX0_init_57 : decode cX0_init 57 = .ok (.putfield 30, 3) := by decide +kernel
theorem dX0_init_60 : decode cX0_init 60 = .ok (.aload_n 0, 1) := by decide +kernel
theorem dX0_init_61 : decode cX0_init 61 = .ok (.bipush 8, 2) := by decide +kernel
theorem dX0_init_63 : decode cX0_init 63 = .ok (.newarray .int, 2) := by decide +kernel
theorem dX0_init_65 : decode cX0_init 65 = .ok (.putfield 33, 3) := by decide +kernel
theorem dX0_init_68 : decode cX0_init 68 = .ok (.return_, 1) := by decide +kernel
theorem dX0_weigh_0 : decode cX0_weigh 0 = .ok (.aload_n 0, 1) := by decide +kernel
theorem dX0_weigh_1 : decode cX0_weigh 1 = .ok (.aload_n 1, 1) := by decide +kernel
theorem dX0_weigh_2 : decode cX0_weigh 2 = .ok (.invokevirtual 36, 3) := by decide +kernel
theorem dX0_weigh_5 : decode cX0_weigh 5 = .ok (.putfield 42, 3) := by decide +kernel
theorem dX0_weigh_8 : decode cX0_weigh 8 = .ok (.aload_n 0, 1) := by decide +kernel
theorem dX0_weigh_9 : decode cX0_weigh 9 = .ok (.getfield 24, 3) := by decide +kernel
theorem dX0_weigh_12 : decode cX0_weigh 12 = .ok (.bipush (-2), 2) := by decide +kernel
theorem dX0_weigh_14 : decode cX0_weigh 14 = .ok (.invokestatic 46, 3) := by decide +kernel
theorem dX0_weigh_17 : decode cX0_weigh 17 = .ok (.iconst 0, 1) := by decide +kernel
theorem dX0_weigh_18 : decode cX0_weigh 18 = .ok (.istore_n 2, 1) := by decide +kernel
theorem dX0_weigh_19 : decode cX0_weigh 19 = .ok (.iload_n 2, 1) := by decide +kernel
theorem dX0_weigh_20 : decode cX0_weigh 20 = .ok (.bipush 8, 2) := by decide +kernel
theorem dX0_weigh_22 : decode cX0_weigh 22 = .ok (.if_icmp .ge 53, 3) := by decide +kernel
theorem dX0_weigh_25 : decode cX0_weigh 25 = .ok (.aload_n 1, 1) := by decide +kernel
theorem dX0_weigh_26 : decode cX0_weigh 26 = .ok (.iload_n 2, 1) := by decide +kernel
theorem dX0_weigh_27 : decode cX0_weigh 27 = .ok (.invokevirtual 52, 3) := by decide +kernel
theorem dX0_weigh_30 : decode cX0_weigh 30 = .ok (.ifCond .eq 39, 3) := by decide +kernel
theorem dX0_weigh_33 : decode cX0_weigh 33 = .ok (.aload_n 0, 1) := by decide +kernel
theorem dX0_weigh_34 : decode cX0_weigh 34 = .ok (.getfield 9, 3) := by decide +kernel
theorem dX0_weigh_37 : decode cX0_weigh 37 = .ok (.iload_n 2, 1) := by decide +kernel
theorem dX0_weigh_38 : decode cX0_weigh 38 = .ok (.aload_n 1, 1) := by decide +kernel
theorem dX0_weigh_39 : decode cX0_weigh 39 = .ok (.iload_n 2, 1) := by decide +kernel
theorem dX0_weigh_40 : decode cX0_weigh 40 = .ok (.iconst 0, 1) := by decide +kernel
theorem dX0_weigh_41 : decode cX0_weigh 41 = .ok (.invokevirtual 56, 3) := by decide +kernel
theorem dX0_weigh_44 : decode cX0_weigh 44 = .ok (.iastore, 1) := by decide +kernel
theorem dX0_weigh_45 : decode cX0_weigh 45 = .ok (.aload_n 0, 1) := by decide +kernel
theorem dX0_weigh_46 : decode cX0_weigh 46 = .ok (.getfield 15, 3) := by decide +kernel
theorem dX0_weigh_49 : decode cX0_weigh 49 = .ok (.iload_n 2, 1) := by decide +kernel
theorem dX0_weigh_50 : decode cX0_weigh 50 = .ok (.aload_n 1, 1) := by decide +kernel
theorem dX0_weigh_51 : decode cX0_weigh 51 = .ok (.iload_n 2, 1) := by decide +kernel
theorem dX0_weigh_52 : decode cX0_weigh 52 = .ok (.iconst 1, 1) := by decide +kernel
theorem dX0_weigh_53 : decode cX0_weigh 53 = .ok (.invokevirtual 56, 3) := by decide +kernel
theorem dX0_weigh_56 : decode cX0_weigh 56 = .ok (.iastore, 1) := by decide +kernel
theorem dX0_weigh_57 : decode cX0_weigh 57 = .ok (.aload_n 0, 1) := by decide +kernel
theorem dX0_weigh_58 : decode cX0_weigh 58 = .ok (.getfield 18, 3) := by decide +kernel
theorem dX0_weigh_61 : decode cX0_weigh 61 = .ok (.iload_n 2, 1) := by decide +kernel
theorem dX0_weigh_62 : decode cX0_weigh 62 = .ok (.aload_n 1, 1) := by decide +kernel
theorem dX0_weigh_63 : decode cX0_weigh 63 = .ok (.iload_n 2, 1) := by decide +kernel
theorem dX0_weigh_64 : decode cX0_weigh 64 = .ok (.iconst 2, 1) := by decide +kernel
theorem dX0_weigh_65 : decode cX0_weigh 65 = .ok (.invokevirtual 56, 3) := by decide +kernel
theorem dX0_weigh_68 : decode cX0_weigh 68 = .ok (.iastore, 1) := by decide +kernel
theorem dX0_weigh_69 : decode cX0_weigh 69 = .ok (.iinc 2 1, 3) := by decide +kernel
theorem dX0_weigh_72 : decode cX0_weigh 72 = .ok (.goto (-53), 3) := by decide +kernel
theorem dX0_weigh_75 : decode cX0_weigh 75 = .ok (.iconst 0, 1) := by decide +kernel
theorem dX0_weigh_76 : decode cX0_weigh 76 = .ok (.istore_n 2, 1) := by decide +kernel
theorem dX0_weigh_77 : decode cX0_weigh 77 = .ok (.iload_n 2, 1) := by decide +kernel
theorem dX0_weigh_78 : decode cX0_weigh 78 = .ok (.aload_n 1, 1) := by decide +kernel
theorem dX0_weigh_79 : decode cX0_weigh 79 = .ok (.getfield 60, 3) := by decide +kernel
theorem dX0_weigh_82 : decode cX0_weigh 82 = .ok (.if_icmp .ge 41, 3) := by decide +kernel
theorem dX0_weigh_85 : decode cX0_weigh 85 = .ok (.iconst 4, 1) := by decide +kernel
theorem dX0_weigh_86 : decode cX0_weigh 86 = .ok (.istore_n 3, 1) := by decide +kernel
theorem dX0_weigh_87 : decode cX0_weigh 87 = .ok (.iload_n 3, 1) := by decide +kernel
theorem dX0_weigh_88 : decode cX0_weigh 88 = .ok (.iconst 4, 1) := by decide +kernel
theorem dX0_weigh_89 : decode cX0_weigh 89 = .ok (.aload_n 1, 1) := by decide +kernel
theorem dX0_weigh_90 : decode cX0_weigh 90 = .ok (.getfield 63, 3) := by decide +kernel
theorem dX0_weigh_93 : decode cX0_weigh 93 = .ok (.iadd, 1) := by decide +kernel
theorem dX0_weigh_94 : decode cX0_weigh 94 = .ok (.if_icmp .ge 23, 3) := by decide +kernel
theorem dX0_weigh_97 : decode cX0_weigh 97 = .ok (.aload_n 0, 1) := by decide +kernel
theorem dX0_weigh_98 : decode cX0_weigh 98 = .ok (.aload_n 1, 1) := by decide +kernel
theorem dX0_weigh_99 : decode cX0_weigh 99 = .ok (.iload_n 2, 1) := by decide +kernel
theorem dX0_weigh_100 : decode cX0_weigh 100 = .ok (.iload_n 3, 1) := by decide +kernel
theorem dX0_weigh_101 : decode cX0_weigh 101 = .ok (.invokevirtual 66, 3) := by decide +kernel
theorem dX0_weigh_104 : decode cX0_weigh 104 = .ok (.aload_n 0, 1) := by decide +kernel
theorem dX0_weigh_105 : decode cX0_weigh 105 = .ok (.aload_n 1, 1) := by decide +kernel
theorem dX0_weigh_106 : decode cX0_weigh 106 = .ok (.iload_n 3, 1) := by decide +kernel
theorem dX0_weigh_107 : decode cX0_weigh 107 = .ok (.iload_n 2, 1) := by decide +kernel
theorem dX0_weigh_108 : decode cX0_weigh 108 = .ok (.invokevirtual 66, 3) := by decide +kernel
theorem dX0_weigh_111 : decode cX0_weigh 111 = .ok (.iinc 3 1, 3) := by decide +kernel
theorem dX0_weigh_114 : decode cX0_weigh 114 = .ok (.goto (-27), 3) := by decide +kernel
theorem dX0_weigh_117 : decode cX0_weigh 117 = .ok (.iinc 2 1, 3) := by decide +kernel
theorem dX0_weigh_120 : decode cX0_weigh 120 = .ok (.goto (-43), 3) := by decide +kernel
theorem dX0_weigh_123 : decode cX0_weigh 123 = .ok (.return_, 1) := by decide +kernel
theorem dX0_weighOne_0 : decode cX0_weighOne 0 = .ok (.iload_n 2, 1) := by decide +kernel
theorem dX0_weighOne_1 : decode cX0_weighOne 1 = .ok (.bipush 8, 2) := by decide +kernel
theorem dX0_weighOne_3 : decode cX0_weighOne 3 = .ok (.imul, 1) := by decide +kernel
theorem dX0_weighOne_4 : decode cX0_weighOne 4 = .ok (.iload_n 3, 1) := by decide +kernel
theorem dX0_weighOne_5 : decode cX0_weighOne 5 = .ok (.iadd, 1) := by decide +kernel
theorem dX0_weighOne_6 : decode cX0_weighOne 6 = .ok (.istore 4, 2) := by decide +kernel
theorem dX0_weighOne_8 : decode cX0_weighOne 8 = .ok (.aload_n 0, 1) := by decide +kernel
theorem dX0_weighOne_9 : decode cX0_weighOne 9 = .ok (.getfield 21, 3) := by decide +kernel
theorem dX0_weighOne_12 : decode cX0_weighOne 12 = .ok (.iload 4, 2) := by decide +kernel
theorem dX0_weighOne_14 : decode cX0_weighOne 14 = .ok (.aload_n 0, 1) := by decide +kernel
theorem dX0_weighOne_15 : decode cX0_weighOne 15 = .ok (.aload_n 1, 1) := by decide +kernel
theorem dX0_weighOne_16 : decode cX0_weighOne 16 = .ok (.iload_n 2, 1) := by decide +kernel
theorem dX0_weighOne_17 : decode cX0_weighOne 17 = .ok (.iload_n 3, 1) := by decide +kernel
theorem dX0_weighOne_18 : decode cX0_weighOne 18 = .ok (.invokevirtual 70, 3) := by decide +kernel
theorem dX0_weighOne_21 : decode cX0_weighOne 21 = .ok (.iastore, 1) := by decide +kernel
theorem dX0_weighOne_22 : decode cX0_weighOne 22 = .ok (.aload_n 1, 1) := by decide +kernel
theorem dX0_weighOne_23 : decode cX0_weighOne 23 = .ok (.iload_n 2, 1) := by decide +kernel
theorem dX0_weighOne_24 : decode cX0_weighOne 24 = .ok (.iload_n 3, 1) := by decide +kernel
theorem dX0_weighOne_25 : decode cX0_weighOne 25 = .ok (.invokevirtual 74, 3) := by decide +kernel
theorem dX0_weighOne_28 : decode cX0_weighOne 28 = .ok (.ifCond .ne 27, 3) := by decide +kernel
theorem dX0_weighOne_31 : decode cX0_weighOne 31 = .ok (.aload_n 0, 1) := by decide +kernel
theorem dX0_weighOne_32 : decode cX0_weighOne 32 = .ok (.getfield 24, 3) := by decide +kernel
theorem dX0_weighOne_35 : decode cX0_weighOne 35 = .ok (.iload 4, 2) := by decide +kernel
theorem dX0_weighOne_37 : decode cX0_weighOne 37 = .ok (.aload_n 0, 1) := by decide +kernel
theorem dX0_weighOne_38 : decode cX0_weighOne 38 = .ok (.getfield 21, 3) := by decide +kernel
theorem dX0_weighOne_41 : decode cX0_weighOne 41 = .ok (.iload 4, 2) := by decide +kernel
theorem dX0_weighOne_43 : decode cX0_weighOne 43 = .ok (.iaload, 1) := by decide +kernel
theorem dX0_weighOne_44 : decode cX0_weighOne 44 = .ok (.bipush 8, 2) := by decide +kernel
theorem dX0_weighOne_46 : decode cX0_weighOne 46 = .ok (.imul, 1) := by decide +kernel
theorem dX0_weighOne_47 : decode cX0_weighOne 47 = .ok (.bipush 8, 2) := by decide +kernel
theorem dX0_weighOne_49 : decode cX0_weighOne 49 = .ok (.iadd, 1) := by decide +kernel
theorem dX0_weighOne_50 : decode cX0_weighOne 50 = .ok (.iconst 1, 1) := by decide +kernel
theorem dX0_weighOne_51 : decode cX0_weighOne 51 = .ok (.isub, 1) := by decide +kernel
theorem dX0_weighOne_52 : decode cX0_weighOne 52 = .ok (.iload_n 3, 1) := by decide +kernel
theorem dX0_weighOne_53 : decode cX0_weighOne 53 = .ok (.isub, 1) := by decide +kernel
theorem dX0_weighOne_54 : decode cX0_weighOne 54 = .ok (.iastore, 1) := by decide +kernel
theorem dX0_weighOne_55 : decode cX0_weighOne 55 = .ok (.return_, 1) := by decide +kernel
theorem dX0_likingIn_0 : decode cX0_likingIn 0 = .ok (.aload_n 0, 1) := by decide +kernel
theorem dX0_likingIn_1 : decode cX0_likingIn 1 = .ok (.getfield 9, 3) := by decide +kernel
theorem dX0_likingIn_4 : decode cX0_likingIn 4 = .ok (.iload_n 3, 1) := by decide +kernel
theorem dX0_likingIn_5 : decode cX0_likingIn 5 = .ok (.iaload, 1) := by decide +kernel
theorem dX0_likingIn_6 : decode cX0_likingIn 6 = .ok (.aload_n 0, 1) := by decide +kernel
theorem dX0_likingIn_7 : decode cX0_likingIn 7 = .ok (.getfield 15, 3) := by decide +kernel
theorem dX0_likingIn_10 : decode cX0_likingIn 10 = .ok (.iload_n 3, 1) := by decide +kernel
theorem dX0_likingIn_11 : decode cX0_likingIn 11 = .ok (.iaload, 1) := by decide +kernel
theorem dX0_likingIn_12 : decode cX0_likingIn 12 = .ok (.iadd, 1) := by decide +kernel
theorem dX0_likingIn_13 : decode cX0_likingIn 13 = .ok (.istore 4, 2) := by decide +kernel
theorem dX0_likingIn_15 : decode cX0_likingIn 15 = .ok (.aload_n 1, 1) := by decide +kernel
theorem dX0_likingIn_16 : decode cX0_likingIn 16 = .ok (.getfield 78, 3) := by decide +kernel
theorem dX0_likingIn_19 : decode cX0_likingIn 19 = .ok (.iload_n 2, 1) := by decide +kernel
theorem dX0_likingIn_20 : decode cX0_likingIn 20 = .ok (.iaload, 1) := by decide +kernel
theorem dX0_likingIn_21 : decode cX0_likingIn 21 = .ok (.iconst 2, 1) := by decide +kernel
theorem dX0_likingIn_22 : decode cX0_likingIn 22 = .ok (.if_icmp .ne 6, 3) := by decide +kernel
theorem dX0_likingIn_25 : decode cX0_likingIn 25 = .ok (.iload 4, 2) := by decide +kernel
theorem dX0_likingIn_27 : decode cX0_likingIn 27 = .ok (.ireturn, 1) := by decide +kernel
theorem dX0_likingIn_28 : decode cX0_likingIn 28 = .ok (.aload_n 1, 1) := by decide +kernel
theorem dX0_likingIn_29 : decode cX0_likingIn 29 = .ok (.getfield 78, 3) := by decide +kernel
theorem dX0_likingIn_32 : decode cX0_likingIn 32 = .ok (.iload_n 2, 1) := by decide +kernel
theorem dX0_likingIn_33 : decode cX0_likingIn 33 = .ok (.iaload, 1) := by decide +kernel
theorem dX0_likingIn_34 : decode cX0_likingIn 34 = .ok (.iconst 3, 1) := by decide +kernel
theorem dX0_likingIn_35 : decode cX0_likingIn 35 = .ok (.if_icmp .ne 9, 3) := by decide +kernel
theorem dX0_likingIn_38 : decode cX0_likingIn 38 = .ok (.bipush 20, 2) := by decide +kernel
theorem dX0_likingIn_40 : decode cX0_likingIn 40 = .ok (.iload 4, 2) := by decide +kernel
theorem dX0_likingIn_42 : decode cX0_likingIn 42 = .ok (.isub, 1) := by decide +kernel
theorem dX0_likingIn_43 : decode cX0_likingIn 43 = .ok (.ireturn, 1) := by decide +kernel
theorem dX0_likingIn_44 : decode cX0_likingIn 44 = .ok (.bipush 20, 2) := by decide +kernel
theorem dX0_likingIn_46 : decode cX0_likingIn 46 = .ok (.aload_n 0, 1) := by decide +kernel
theorem dX0_likingIn_47 : decode cX0_likingIn 47 = .ok (.getfield 9, 3) := by decide +kernel
theorem dX0_likingIn_50 : decode cX0_likingIn 50 = .ok (.iload_n 3, 1) := by decide +kernel
theorem dX0_likingIn_51 : decode cX0_likingIn 51 = .ok (.iaload, 1) := by decide +kernel
theorem dX0_likingIn_52 : decode cX0_likingIn 52 = .ok (.aload_n 1, 1) := by decide +kernel
theorem dX0_likingIn_53 : decode cX0_likingIn 53 = .ok (.getfield 81, 3) := by decide +kernel
theorem dX0_likingIn_56 : decode cX0_likingIn 56 = .ok (.iload_n 2, 1) := by decide +kernel
theorem dX0_likingIn_57 : decode cX0_likingIn 57 = .ok (.iaload, 1) := by decide +kernel
theorem dX0_likingIn_58 : decode cX0_likingIn 58 = .ok (.isub, 1) := by decide +kernel
theorem dX0_likingIn_59 : decode cX0_likingIn 59 = .ok (.invokestatic 84, 3) := by decide +kernel
theorem dX0_likingIn_62 : decode cX0_likingIn 62 = .ok (.isub, 1) := by decide +kernel
theorem dX0_likingIn_63 : decode cX0_likingIn 63 = .ok (.aload_n 0, 1) := by decide +kernel
theorem dX0_likingIn_64 : decode cX0_likingIn 64 = .ok (.getfield 15, 3) := by decide +kernel
theorem dX0_likingIn_67 : decode cX0_likingIn 67 = .ok (.iload_n 3, 1) := by decide +kernel
theorem dX0_likingIn_68 : decode cX0_likingIn 68 = .ok (.iaload, 1) := by decide +kernel
theorem dX0_likingIn_69 : decode cX0_likingIn 69 = .ok (.aload_n 1, 1) := by decide +kernel
theorem dX0_likingIn_70 : decode cX0_likingIn 70 = .ok (.getfield 90, 3) := by decide +kernel
theorem dX0_likingIn_73 : decode cX0_likingIn 73 = .ok (.iload_n 2, 1) := by decide +kernel
theorem dX0_likingIn_74 : decode cX0_likingIn 74 = .ok (.iaload, 1) := by decide +kernel
theorem dX0_likingIn_75 : decode cX0_likingIn 75 = .ok (.isub, 1) := by decide +kernel
theorem dX0_likingIn_76 : decode cX0_likingIn 76 = .ok (.invokestatic 84, 3) := by decide +kernel
theorem dX0_likingIn_79 : decode cX0_likingIn 79 = .ok (.isub, 1) := by decide +kernel
theorem dX0_likingIn_80 : decode cX0_likingIn 80 = .ok (.istore 5, 2) := by decide +kernel
theorem dX0_likingIn_82 : decode cX0_likingIn 82 = .ok (.aload_n 1, 1) := by decide +kernel
theorem dX0_likingIn_83 : decode cX0_likingIn 83 = .ok (.getfield 78, 3) := by decide +kernel
theorem dX0_likingIn_86 : decode cX0_likingIn 86 = .ok (.iload_n 2, 1) := by decide +kernel
theorem dX0_likingIn_87 : decode cX0_likingIn 87 = .ok (.iaload, 1) := by decide +kernel
theorem dX0_likingIn_88 : decode cX0_likingIn 88 = .ok (.iconst 1, 1) := by decide +kernel
theorem dX0_likingIn_89 : decode cX0_likingIn 89 = .ok (.if_icmp .ne 25, 3) := by decide +kernel
theorem dX0_likingIn_92 : decode cX0_likingIn 92 = .ok (.aload_n 0, 1) := by decide +kernel
theorem dX0_likingIn_93 : decode cX0_likingIn 93 = .ok (.getfield 18, 3) := by decide +kernel
theorem dX0_likingIn_96 : decode cX0_likingIn 96 = .ok (.iload_n 3, 1) := by decide +kernel
theorem dX0_likingIn_97 : decode cX0_likingIn 97 = .ok (.iaload, 1) := by decide +kernel
theorem dX0_likingIn_98 : decode cX0_likingIn 98 = .ok (.aload_n 1, 1) := by decide +kernel
theorem dX0_likingIn_99 : decode cX0_likingIn 99 = .ok (.getfield 93, 3) := by decide +kernel
theorem dX0_likingIn_102 : decode cX0_likingIn 102 = .ok (.iload_n 2, 1) := by decide +kernel
theorem dX0_likingIn_103 : decode cX0_likingIn 103 = .ok (.iaload, 1) := by decide +kernel
theorem dX0_likingIn_104 : decode cX0_likingIn 104 = .ok (.if_icmp .ne 10, 3) := by decide +kernel
theorem dX0_likingIn_107 : decode cX0_likingIn 107 = .ok (.iload 5, 2) := by decide +kernel
theorem dX0_likingIn_109 : decode cX0_likingIn 109 = .ok (.iconst 3, 1) := by decide +kernel
theorem dX0_likingIn_110 : decode cX0_likingIn 110 = .ok (.iadd, 1) := by decide +kernel
theorem dX0_likingIn_111 : decode cX0_likingIn 111 = .ok (.goto 5, 3) := by decide +kernel
theorem dX0_likingIn_114 : decode cX0_likingIn 114 = .ok (.iload 5, 2) := by decide +kernel
theorem dX0_likingIn_116 : decode cX0_likingIn 116 = .ok (.ireturn, 1) := by decide +kernel
theorem dX0_liking_0 : decode cX0_liking 0 = .ok (.aload_n 0, 1) := by decide +kernel
theorem dX0_liking_1 : decode cX0_liking 1 = .ok (.getfield 21, 3) := by decide +kernel
theorem dX0_liking_4 : decode cX0_liking 4 = .ok (.iload_n 1, 1) := by decide +kernel
theorem dX0_liking_5 : decode cX0_liking 5 = .ok (.bipush 8, 2) := by decide +kernel
theorem dX0_liking_7 : decode cX0_liking 7 = .ok (.imul, 1) := by decide +kernel
theorem dX0_liking_8 : decode cX0_liking 8 = .ok (.iload_n 2, 1) := by decide +kernel
theorem dX0_liking_9 : decode cX0_liking 9 = .ok (.iadd, 1) := by decide +kernel
theorem dX0_liking_10 : decode cX0_liking 10 = .ok (.iaload, 1) := by decide +kernel
theorem dX0_liking_11 : decode cX0_liking 11 = .ok (.ireturn, 1) := by decide +kernel
theorem dX0_wishFor_0 : decode cX0_wishFor 0 = .ok (.iload_n 2, 1) := by decide +kernel
theorem dX0_wishFor_1 : decode cX0_wishFor 1 = .ok (.iconst (-1), 1) := by decide +kernel
theorem dX0_wishFor_2 : decode cX0_wishFor 2 = .ok (.if_icmp .ne 7, 3) := by decide +kernel
theorem dX0_wishFor_5 : decode cX0_wishFor 5 = .ok (.iconst (-1), 1) := by decide +kernel
theorem dX0_wishFor_6 : decode cX0_wishFor 6 = .ok (.goto 14, 3) := by decide +kernel
theorem dX0_wishFor_9 : decode cX0_wishFor 9 = .ok (.aload_n 0, 1) := by decide +kernel
theorem dX0_wishFor_10 : decode cX0_wishFor 10 = .ok (.getfield 24, 3) := by decide +kernel
theorem dX0_wishFor_13 : decode cX0_wishFor 13 = .ok (.iload_n 1, 1) := by decide +kernel
theorem dX0_wishFor_14 : decode cX0_wishFor 14 = .ok (.bipush 8, 2) := by decide +kernel
theorem dX0_wishFor_16 : decode cX0_wishFor 16 = .ok (.imul, 1) := by decide +kernel
theorem dX0_wishFor_17 : decode cX0_wishFor 17 = .ok (.iload_n 2, 1) := by decide +kernel
theorem dX0_wishFor_18 : decode cX0_wishFor 18 = .ok (.iadd, 1) := by decide +kernel
theorem dX0_wishFor_19 : decode cX0_wishFor 19 = .ok (.iaload, 1) := by decide +kernel
theorem dX0_wishFor_20 : decode cX0_wishFor 20 = .ok (.ireturn, 1) := by decide +kernel
theorem dX0_choiceOf_0 : decode cX0_choiceOf 0 = .ok (.iconst 0, 1) := by decide +kernel
theorem dX0_choiceOf_1 : decode cX0_choiceOf 1 = .ok (.istore_n 3, 1) := by decide +kernel
theorem dX0_choiceOf_2 : decode cX0_choiceOf 2 = .ok (.iload_n 3, 1) := by decide +kernel
theorem dX0_choiceOf_3 : decode cX0_choiceOf 3 = .ok (.bipush 8, 2) := by decide +kernel
theorem dX0_choiceOf_5 : decode cX0_choiceOf 5 = .ok (.if_icmp .ge 36, 3) := by decide +kernel
theorem dX0_choiceOf_8 : decode cX0_choiceOf 8 = .ok (.aload_n 0, 1) := by decide +kernel
theorem dX0_choiceOf_9 : decode cX0_choiceOf 9 = .ok (.iload_n 1, 1) := by decide +kernel
theorem dX0_choiceOf_10 : decode cX0_choiceOf 10 = .ok (.iload_n 3, 1) := by decide +kernel
theorem dX0_choiceOf_11 : decode cX0_choiceOf 11 = .ok (.invokevirtual 96, 3) := by decide +kernel
theorem dX0_choiceOf_14 : decode cX0_choiceOf 14 = .ok (.iconst (-1), 1) := by decide +kernel
theorem dX0_choiceOf_15 : decode cX0_choiceOf 15 = .ok (.if_icmp .le 20, 3) := by decide +kernel
theorem dX0_choiceOf_18 : decode cX0_choiceOf 18 = .ok (.aload_n 0, 1) := by decide +kernel
theorem dX0_choiceOf_19 : decode cX0_choiceOf 19 = .ok (.iload_n 1, 1) := by decide +kernel
theorem dX0_choiceOf_20 : decode cX0_choiceOf 20 = .ok (.aload_n 0, 1) := by decide +kernel
theorem dX0_choiceOf_21 : decode cX0_choiceOf 21 = .ok (.iload_n 1, 1) := by decide +kernel
theorem dX0_choiceOf_22 : decode cX0_choiceOf 22 = .ok (.iload_n 3, 1) := by decide +kernel
theorem dX0_choiceOf_23 : decode cX0_choiceOf 23 = .ok (.invokevirtual 96, 3) := by decide +kernel
theorem dX0_choiceOf_26 : decode cX0_choiceOf 26 = .ok (.invokevirtual 99, 3) := by decide +kernel
theorem dX0_choiceOf_29 : decode cX0_choiceOf 29 = .ok (.iload_n 2, 1) := by decide +kernel
theorem dX0_choiceOf_30 : decode cX0_choiceOf 30 = .ok (.if_icmp .ne 5, 3) := by decide +kernel
theorem dX0_choiceOf_33 : decode cX0_choiceOf 33 = .ok (.iload_n 3, 1) := by decide +kernel
theorem dX0_choiceOf_34 : decode cX0_choiceOf 34 = .ok (.ireturn, 1) := by decide +kernel
theorem dX0_choiceOf_35 : decode cX0_choiceOf 35 = .ok (.iinc 3 1, 3) := by decide +kernel
theorem dX0_choiceOf_38 : decode cX0_choiceOf 38 = .ok (.goto (-36), 3) := by decide +kernel
theorem dX0_choiceOf_41 : decode cX0_choiceOf 41 = .ok (.iconst (-1), 1) := by decide +kernel
theorem dX0_choiceOf_42 : decode cX0_choiceOf 42 = .ok (.ireturn, 1) := by decide +kernel
theorem dX0_countAbove_0 : decode cX0_countAbove 0 = .ok (.iconst 0, 1) := by decide +kernel
theorem dX0_countAbove_1 : decode cX0_countAbove 1 = .ok (.istore_n 3, 1) := by decide +kernel
theorem dX0_countAbove_2 : decode cX0_countAbove 2 = .ok (.iconst 0, 1) := by decide +kernel
theorem dX0_countAbove_3 : decode cX0_countAbove 3 = .ok (.istore 4, 2) := by decide +kernel
theorem dX0_countAbove_5 : decode cX0_countAbove 5 = .ok (.iload 4, 2) := by decide +kernel
theorem dX0_countAbove_7 : decode cX0_countAbove 7 = .ok (.bipush 8, 2) := by decide +kernel
theorem dX0_countAbove_9 : decode cX0_countAbove 9 = .ok (.if_icmp .ge 23, 3) := by decide +kernel
theorem dX0_countAbove_12 : decode cX0_countAbove 12 = .ok (.aload_n 0, 1) := by decide +kernel
theorem dX0_countAbove_13 : decode cX0_countAbove 13 = .ok (.iload_n 1, 1) := by decide +kernel
theorem dX0_countAbove_14 : decode cX0_countAbove 14 = .ok (.iload 4, 2) := by decide +kernel
theorem dX0_countAbove_16 : decode cX0_countAbove 16 = .ok (.invokevirtual 96, 3) := by decide +kernel
theorem dX0_countAbove_19 : decode cX0_countAbove 19 = .ok (.iload_n 2, 1) := by decide +kernel
theorem dX0_countAbove_20 : decode cX0_countAbove 20 = .ok (.if_icmp .le 6, 3) := by decide +kernel
theorem dX0_countAbove_23 : decode cX0_countAbove 23 = .ok (.iinc 3 1, 3) := by decide +kernel
theorem dX0_countAbove_26 : decode cX0_countAbove 26 = .ok (.iinc 4 1, 3) := by decide +kernel
theorem dX0_countAbove_29 : decode cX0_countAbove 29 = .ok (.goto (-24), 3) := by decide +kernel
theorem dX0_countAbove_32 : decode cX0_countAbove 32 = .ok (.iload_n 3, 1) := by decide +kernel
theorem dX0_countAbove_33 : decode cX0_countAbove 33 = .ok (.ireturn, 1) := by decide +kernel
theorem dX0_court_0 : decode cX0_court 0 = .ok (.aload_n 0, 1) := by decide +kernel
theorem dX0_court_1 : decode cX0_court 1 = .ok (.aload_n 1, 1) := by decide +kernel
theorem dX0_court_2 : decode cX0_court 2 = .ok (.invokevirtual 102, 3) := by decide +kernel
theorem dX0_court_5 : decode cX0_court 5 = .ok (.aload_n 0, 1) := by decide +kernel
theorem dX0_court_6 : decode cX0_court 6 = .ok (.getfield 42, 3) := by decide +kernel
theorem dX0_court_9 : decode cX0_court 9 = .ok (.bipush 15, 2) := by decide +kernel
theorem dX0_court_11 : decode cX0_court 11 = .ok (.iand, 1) := by decide +kernel
theorem dX0_court_12 : decode cX0_court 12 = .ok (.istore_n 3, 1) := by decide +kernel
theorem dX0_court_13 : decode cX0_court 13 = .ok (.aload_n 0, 1) := by decide +kernel
theorem dX0_court_14 : decode cX0_court 14 = .ok (.getfield 42, 3) := by decide +kernel
theorem dX0_court_17 : decode cX0_court 17 = .ok (.sipush 240, 3) := by decide +kernel
theorem dX0_court_20 : decode cX0_court 20 = .ok (.iand, 1) := by decide +kernel
theorem dX0_court_21 : decode cX0_court 21 = .ok (.istore 4, 2) := by decide +kernel
theorem dX0_court_23 : decode cX0_court 23 = .ok (.iload_n 2, 1) := by decide +kernel
theorem dX0_court_24 : decode cX0_court 24 = .ok (.ifCond .ne 13, 3) := by decide +kernel
theorem dX0_court_27 : decode cX0_court 27 = .ok (.aload_n 0, 1) := by decide +kernel
theorem dX0_court_28 : decode cX0_court 28 = .ok (.iload_n 3, 1) := by decide +kernel
theorem dX0_court_29 : decode cX0_court 29 = .ok (.iload 4, 2) := by decide +kernel
theorem dX0_court_31 : decode cX0_court 31 = .ok (.invokevirtual 106, 3) := by decide +kernel
theorem dX0_court_34 : decode cX0_court 34 = .ok (.goto 10, 3) := by decide +kernel
theorem dX0_court_37 : decode cX0_court 37 = .ok (.aload_n 0, 1) := by decide +kernel
theorem dX0_court_38 : decode cX0_court 38 = .ok (.iload 4, 2) := by decide +kernel
theorem dX0_court_40 : decode cX0_court 40 = .ok (.iload_n 3, 1) := by decide +kernel
theorem dX0_court_41 : decode cX0_court 41 = .ok (.invokevirtual 106, 3) := by decide +kernel
theorem dX0_court_44 : decode cX0_court 44 = .ok (.return_, 1) := by decide +kernel
theorem dX0_ask_0 : decode cX0_ask 0 = .ok (.aload_n 0, 1) := by decide +kernel
theorem dX0_ask_1 : decode cX0_ask 1 = .ok (.getfield 27, 3) := by decide +kernel
theorem dX0_ask_4 : decode cX0_ask 4 = .ok (.iconst (-1), 1) := by decide +kernel
theorem dX0_ask_5 : decode cX0_ask 5 = .ok (.invokestatic 46, 3) := by decide +kernel
theorem dX0_ask_8 : decode cX0_ask 8 = .ok (.aload_n 0, 1) := by decide +kernel
theorem dX0_ask_9 : decode cX0_ask 9 = .ok (.getfield 30, 3) := by decide +kernel
theorem dX0_ask_12 : decode cX0_ask 12 = .ok (.iload_n 2, 1) := by decide +kernel
theorem dX0_ask_13 : decode cX0_ask 13 = .ok (.invokestatic 46, 3) := by decide +kernel
theorem dX0_ask_16 : decode cX0_ask 16 = .ok (.iconst 0, 1) := by decide +kernel
theorem dX0_ask_17 : decode cX0_ask 17 = .ok (.istore_n 3, 1) := by decide +kernel
theorem dX0_ask_18 : decode cX0_ask 18 = .ok (.iload_n 3, 1) := by decide +kernel
theorem dX0_ask_19 : decode cX0_ask 19 = .ok (.sipush 1000, 3) := by decide +kernel
theorem dX0_ask_22 : decode cX0_ask 22 = .ok (.if_icmp .ge 17, 3) := by decide +kernel
theorem dX0_ask_25 : decode cX0_ask 25 = .ok (.aload_n 0, 1) := by decide +kernel
theorem dX0_ask_26 : decode cX0_ask 26 = .ok (.iload_n 1, 1) := by decide +kernel
theorem dX0_ask_27 : decode cX0_ask 27 = .ok (.invokevirtual 110, 3) := by decide +kernel
theorem dX0_ask_30 : decode cX0_ask 30 = .ok (.ifCond .eq 9, 3) := by decide +kernel
theorem dX0_ask_33 : decode cX0_ask 33 = .ok (.iinc 3 1, 3) := by decide +kernel
theorem dX0_ask_36 : decode cX0_ask 36 = .ok (.goto (-18), 3) := by decide +kernel
theorem dX0_ask_39 : decode cX0_ask 39 = .ok (.return_, 1) := by decide +kernel
theorem dX0_firstAsks_0 : decode cX0_firstAsks 0 = .ok (.iconst 0, 1) := by decide +kernel
theorem dX0_firstAsks_1 : decode cX0_firstAsks 1 = .ok (.istore_n 2, 1) := by decide +kernel
theorem dX0_firstAsks_2 : decode cX0_firstAsks 2 = .ok (.iload_n 2, 1) := by decide +kernel
theorem dX0_firstAsks_3 : decode cX0_firstAsks 3 = .ok (.bipush 8, 2) := by decide +kernel
theorem dX0_firstAsks_5 : decode cX0_firstAsks 5 = .ok (.if_icmp .ge 69, 3) := by decide +kernel
theorem dX0_firstAsks_8 : decode cX0_firstAsks 8 = .ok (.iload_n 1, 1) := by decide +kernel
theorem dX0_firstAsks_9 : decode cX0_firstAsks 9 = .ok (.iload_n 2, 1) := by decide +kernel
theorem dX0_firstAsks_10 : decode cX0_firstAsks 10 = .ok (.ishr, 1) := by decide +kernel
theorem dX0_firstAsks_11 : decode cX0_firstAsks 11 = .ok (.iconst 1, 1) := by decide +kernel
theorem dX0_firstAsks_12 : decode cX0_firstAsks 12 = .ok (.iand, 1) := by decide +kernel
theorem dX0_firstAsks_13 : decode cX0_firstAsks 13 = .ok (.ifCond .eq 55, 3) := by decide +kernel
theorem dX0_firstAsks_16 : decode cX0_firstAsks 16 = .ok (.aload_n 0, 1) := by decide +kernel
theorem dX0_firstAsks_17 : decode cX0_firstAsks 17 = .ok (.getfield 27, 3) := by decide +kernel
theorem dX0_firstAsks_20 : decode cX0_firstAsks 20 = .ok (.iload_n 2, 1) := by decide +kernel
theorem dX0_firstAsks_21 : decode cX0_firstAsks 21 = .ok (.iaload, 1) := by decide +kernel
theorem dX0_firstAsks_22 : decode cX0_firstAsks 22 = .ok (.iconst (-1), 1) := by decide +kernel
theorem dX0_firstAsks_23 : decode cX0_firstAsks 23 = .ok (.if_icmp .eq 6, 3) := by decide +kernel
theorem dX0_firstAsks_26 : decode cX0_firstAsks 26 = .ok (.goto 42, 3) := by decide +kernel
theorem dX0_firstAsks_29 : decode cX0_firstAsks 29 = .ok (.aload_n 0, 1) := by decide +kernel
theorem dX0_firstAsks_30 : decode cX0_firstAsks 30 = .ok (.iload_n 2, 1) := by decide +kernel
theorem dX0_firstAsks_31 : decode cX0_firstAsks 31 = .ok (.aload_n 0, 1) := by decide +kernel
theorem dX0_firstAsks_32 : decode cX0_firstAsks 32 = .ok (.getfield 30, 3) := by decide +kernel
theorem dX0_firstAsks_35 : decode cX0_firstAsks 35 = .ok (.iload_n 2, 1) := by decide +kernel
theorem dX0_firstAsks_36 : decode cX0_firstAsks 36 = .ok (.iaload, 1) := by decide +kernel
theorem dX0_firstAsks_37 : decode cX0_firstAsks 37 = .ok (.invokevirtual 113, 3) := by decide +kernel
theorem dX0_firstAsks_40 : decode cX0_firstAsks 40 = .ok (.istore_n 3, 1) := by decide +kernel
theorem dX0_firstAsks_41 : decode cX0_firstAsks 41 = .ok (.iload_n 3, 1) := by decide +kernel
theorem dX0_firstAsks_42 : decode cX0_firstAsks 42 = .ok (.iconst (-1), 1) := by decide +kernel
theorem dX0_firstAsks_43 : decode cX0_firstAsks 43 = .ok (.if_icmp .eq 25, 3) := by decide +kernel
theorem dX0_firstAsks_46 : decode cX0_firstAsks 46 = .ok (.aload_n 0, 1) := by decide +kernel
theorem dX0_firstAsks_47 : decode cX0_firstAsks 47 = .ok (.getfield 30, 3) := by decide +kernel
theorem dX0_firstAsks_50 : decode cX0_firstAsks 50 = .ok (.iload_n 2, 1) := by decide +kernel
theorem dX0_firstAsks_51 : decode cX0_firstAsks 51 = .ok (.dup2, 1) := by decide +kernel
theorem dX0_firstAsks_52 : decode cX0_firstAsks 52 = .ok (.iaload, 1) := by decide +kernel
theorem dX0_firstAsks_53 : decode cX0_firstAsks 53 = .ok (.iconst 1, 1) := by decide +kernel
theorem dX0_firstAsks_54 : decode cX0_firstAsks 54 = .ok (.iload_n 3, 1) := by decide +kernel
theorem dX0_firstAsks_55 : decode cX0_firstAsks 55 = .ok (.ishl, 1) := by decide +kernel
theorem dX0_firstAsks_56 : decode cX0_firstAsks 56 = .ok (.iconst (-1), 1) := by decide +kernel
theorem dX0_firstAsks_57 : decode cX0_firstAsks 57 = .ok (.ixor, 1) := by decide +kernel
theorem dX0_firstAsks_58 : decode cX0_firstAsks 58 = .ok (.iand, 1) := by decide +kernel
theorem dX0_firstAsks_59 : decode cX0_firstAsks 59 = .ok (.iastore, 1) := by decide +kernel
theorem dX0_firstAsks_60 : decode cX0_firstAsks 60 = .ok (.aload_n 0, 1) := by decide +kernel
theorem dX0_firstAsks_61 : decode cX0_firstAsks 61 = .ok (.iload_n 2, 1) := by decide +kernel
theorem dX0_firstAsks_62 : decode cX0_firstAsks 62 = .ok (.iload_n 3, 1) := by decide +kernel
theorem dX0_firstAsks_63 : decode cX0_firstAsks 63 = .ok (.invokevirtual 116, 3) := by decide +kernel
theorem dX0_firstAsks_66 : decode cX0_firstAsks 66 = .ok (.iconst 1, 1) := by decide +kernel
theorem dX0_firstAsks_67 : decode cX0_firstAsks 67 = .ok (.ireturn, 1) := by decide +kernel
theorem dX0_firstAsks_68 : decode cX0_firstAsks 68 = .ok (.iinc 2 1, 3) := by decide +kernel
theorem dX0_firstAsks_71 : decode cX0_firstAsks 71 = .ok (.goto (-69), 3) := by decide +kernel
theorem dX0_firstAsks_74 : decode cX0_firstAsks 74 = .ok (.iconst 0, 1) := by decide +kernel
theorem dX0_firstAsks_75 : decode cX0_firstAsks 75 = .ok (.ireturn, 1) := by decide +kernel
theorem dX0_dearest_0 : decode cX0_dearest 0 = .ok (.iconst (-1), 1) := by decide +kernel
theorem dX0_dearest_1 : decode cX0_dearest 1 = .ok (.istore_n 3, 1) := by decide +kernel
theorem dX0_dearest_2 : decode cX0_dearest 2 = .ok (.iconst (-1), 1) := by decide +kernel
theorem dX0_dearest_3 : decode cX0_dearest 3 = .ok (.istore 4, 2) := by decide +kernel
theorem dX0_dearest_5 : decode cX0_dearest 5 = .ok (.iload_n 1, 1) := by decide +kernel
theorem dX0_dearest_6 : decode cX0_dearest 6 = .ok (.iconst 4, 1) := by decide +kernel
theorem dX0_dearest_7 : decode cX0_dearest 7 = .ok (.if_icmp .ge 7, 3) := by decide +kernel
theorem dX0_dearest_10 : decode cX0_dearest 10 = .ok (.iconst 4, 1) := by decide +kernel
theorem dX0_dearest_11 : decode cX0_dearest 11 = .ok (.goto 4, 3) := by decide +kernel
theorem dX0_dearest_14 : decode cX0_dearest 14 = .ok (.iconst 0, 1) := by decide +kernel
theorem dX0_dearest_15 : decode cX0_dearest 15 = .ok (.istore 5, 2) := by decide +kernel
theorem dX0_dearest_17 : decode cX0_dearest 17 = .ok (.iload 5, 2) := by decide +kernel
theorem dX0_dearest_19 : decode cX0_dearest 19 = .ok (.istore 6, 2) := by decide +kernel
theorem dX0_dearest_21 : decode cX0_dearest 21 = .ok (.iload 6, 2) := by decide +kernel
theorem dX0_dearest_23 : decode cX0_dearest 23 = .ok (.iload 5, 2) := by decide +kernel
theorem dX0_dearest_25 : decode cX0_dearest 25 = .ok (.iconst 4, 1) := by decide +kernel
theorem dX0_dearest_26 : decode cX0_dearest 26 = .ok (.iadd, 1) := by decide +kernel
theorem dX0_dearest_27 : decode cX0_dearest 27 = .ok (.if_icmp .ge 53, 3) := by decide +kernel
theorem dX0_dearest_30 : decode cX0_dearest 30 = .ok (.iload_n 2, 1) := by decide +kernel
theorem dX0_dearest_31 : decode cX0_dearest 31 = .ok (.iload 6, 2) := by decide +kernel
theorem dX0_dearest_33 : decode cX0_dearest 33 = .ok (.ishr, 1) := by decide +kernel
theorem dX0_dearest_34 : decode cX0_dearest 34 = .ok (.iconst 1, 1) := by decide +kernel
theorem dX0_dearest_35 : decode cX0_dearest 35 = .ok (.iand, 1) := by decide +kernel
theorem dX0_dearest_36 : decode cX0_dearest 36 = .ok (.iconst 1, 1) := by decide +kernel
theorem dX0_dearest_37 : decode cX0_dearest 37 = .ok (.if_icmp .ne 37, 3) := by decide +kernel
theorem dX0_dearest_40 : decode cX0_dearest 40 = .ok (.aload_n 0, 1) := by decide +kernel
theorem dX0_dearest_41 : decode cX0_dearest 41 = .ok (.getfield 24, 3) := by decide +kernel
theorem dX0_dearest_44 : decode cX0_dearest 44 = .ok (.iload_n 1, 1) := by decide +kernel
theorem dX0_dearest_45 : decode cX0_dearest 45 = .ok (.bipush 8, 2) := by decide +kernel
theorem dX0_dearest_47 : decode cX0_dearest 47 = .ok (.imul, 1) := by decide +kernel
theorem dX0_dearest_48 : decode cX0_dearest 48 = .ok (.iload 6, 2) := by decide +kernel
theorem dX0_dearest_50 : decode cX0_dearest 50 = .ok (.iadd, 1) := by decide +kernel
theorem dX0_dearest_51 : decode cX0_dearest 51 = .ok (.iaload, 1) := by decide +kernel
theorem dX0_dearest_52 : decode cX0_dearest 52 = .ok (.iload 4, 2) := by decide +kernel
theorem dX0_dearest_54 : decode cX0_dearest 54 = .ok (.if_icmp .le 20, 3) := by decide +kernel
theorem dX0_dearest_57 : decode cX0_dearest 57 = .ok (.iload 6, 2) := by decide +kernel
theorem dX0_dearest_59 : decode cX0_dearest 59 = .ok (.istore_n 3, 1) := by decide +kernel
theorem dX0_dearest_60 : decode cX0_dearest 60 = .ok (.aload_n 0, 1) := by decide +kernel
theorem dX0_dearest_61 : decode cX0_dearest 61 = .ok (.getfield 24, 3) := by decide +kernel
theorem dX0_dearest_64 : decode cX0_dearest 64 = .ok (.iload_n 1, 1) := by decide +kernel
theorem dX0_dearest_65 : decode cX0_dearest 65 = .ok (.bipush 8, 2) := by decide +kernel
theorem dX0_dearest_67 : decode cX0_dearest 67 = .ok (.imul, 1) := by decide +kernel
theorem dX0_dearest_68 : decode cX0_dearest 68 = .ok (.iload 6, 2) := by decide +kernel
theorem dX0_dearest_70 : decode cX0_dearest 70 = .ok (.iadd, 1) := by decide +kernel
theorem dX0_dearest_71 : decode cX0_dearest 71 = .ok (.iaload, 1) := by decide +kernel
theorem dX0_dearest_72 : decode cX0_dearest 72 = .ok (.istore 4, 2) := by decide +kernel
theorem dX0_dearest_74 : decode cX0_dearest 74 = .ok (.iinc 6 1, 3) := by decide +kernel
theorem dX0_dearest_77 : decode cX0_dearest 77 = .ok (.goto (-56), 3) := by decide +kernel
theorem dX0_dearest_80 : decode cX0_dearest 80 = .ok (.iload_n 3, 1) := by decide +kernel
theorem dX0_dearest_81 : decode cX0_dearest 81 = .ok (.ireturn, 1) := by decide +kernel
theorem dX0_answer_0 : decode cX0_answer 0 = .ok (.aload_n 0, 1) := by decide +kernel
theorem dX0_answer_1 : decode cX0_answer 1 = .ok (.getfield 27, 3) := by decide +kernel
theorem dX0_answer_4 : decode cX0_answer 4 = .ok (.iload_n 2, 1) := by decide +kernel
theorem dX0_answer_5 : decode cX0_answer 5 = .ok (.iaload, 1) := by decide +kernel
theorem dX0_answer_6 : decode cX0_answer 6 = .ok (.istore_n 3, 1) := by decide +kernel
theorem dX0_answer_7 : decode cX0_answer 7 = .ok (.aload_n 0, 1) := by decide +kernel
theorem dX0_answer_8 : decode cX0_answer 8 = .ok (.iload_n 2, 1) := by decide +kernel
theorem dX0_answer_9 : decode cX0_answer 9 = .ok (.iload_n 1, 1) := by decide +kernel
theorem dX0_answer_10 : decode cX0_answer 10 = .ok (.invokevirtual 96, 3) := by decide +kernel
theorem dX0_answer_13 : decode cX0_answer 13 = .ok (.aload_n 0, 1) := by decide +kernel
theorem dX0_answer_14 : decode cX0_answer 14 = .ok (.iload_n 2, 1) := by decide +kernel
theorem dX0_answer_15 : decode cX0_answer 15 = .ok (.iload_n 3, 1) := by decide +kernel
theorem dX0_answer_16 : decode cX0_answer 16 = .ok (.invokevirtual 96, 3) := by decide +kernel
theorem dX0_answer_19 : decode cX0_answer 19 = .ok (.if_icmp .le 29, 3) := by decide +kernel
theorem dX0_answer_22 : decode cX0_answer 22 = .ok (.iload_n 3, 1) := by decide +kernel
theorem dX0_answer_23 : decode cX0_answer 23 = .ok (.iconst (-1), 1) := by decide +kernel
theorem dX0_answer_24 : decode cX0_answer 24 = .ok (.if_icmp .eq 10, 3) := by decide +kernel
theorem dX0_answer_27 : decode cX0_answer 27 = .ok (.aload_n 0, 1) := by decide +kernel
theorem dX0_answer_28 : decode cX0_answer 28 = .ok (.getfield 27, 3) := by decide +kernel
theorem dX0_answer_31 : decode cX0_answer 31 = .ok (.iload_n 3, 1) := by decide +kernel
theorem dX0_answer_32 : decode cX0_answer 32 = .ok (.iconst (-1), 1) := by decide +kernel
theorem dX0_answer_33 : decode cX0_answer 33 = .ok (.iastore, 1) := by decide +kernel
theorem dX0_answer_34 : decode cX0_answer 34 = .ok (.aload_n 0, 1) := by decide +kernel
theorem dX0_answer_35 : decode cX0_answer 35 = .ok (.getfield 27, 3) := by decide +kernel
theorem dX0_answer_38 : decode cX0_answer 38 = .ok (.iload_n 1, 1) := by decide +kernel
theorem dX0_answer_39 : decode cX0_answer 39 = .ok (.iload_n 2, 1) := by decide +kernel
theorem dX0_answer_40 : decode cX0_answer 40 = .ok (.iastore, 1) := by decide +kernel
theorem dX0_answer_41 : decode cX0_answer 41 = .ok (.aload_n 0, 1) := by decide +kernel
theorem dX0_answer_42 : decode cX0_answer 42 = .ok (.getfield 27, 3) := by decide +kernel
theorem dX0_answer_45 : decode cX0_answer 45 = .ok (.iload_n 2, 1) := by decide +kernel
theorem dX0_answer_46 : decode cX0_answer 46 = .ok (.iload_n 1, 1) := by decide +kernel
theorem dX0_answer_47 : decode cX0_answer 47 = .ok (.iastore, 1) := by decide +kernel
theorem dX0_answer_48 : decode cX0_answer 48 = .ok (.return_, 1) := by decide +kernel
theorem dX0_matedBits_0 : decode cX0_matedBits 0 = .ok (.iconst 0, 1) := by decide +kernel
theorem dX0_matedBits_1 : decode cX0_matedBits 1 = .ok (.istore_n 1, 1) := by decide +kernel
theorem dX0_matedBits_2 : decode cX0_matedBits 2 = .ok (.iconst 0, 1) := by decide +kernel
theorem dX0_matedBits_3 : decode cX0_matedBits 3 = .ok (.istore_n 2, 1) := by decide +kernel
theorem dX0_matedBits_4 : decode cX0_matedBits 4 = .ok (.iload_n 2, 1) := by decide +kernel
theorem dX0_matedBits_5 : decode cX0_matedBits 5 = .ok (.bipush 8, 2) := by decide +kernel
theorem dX0_matedBits_7 : decode cX0_matedBits 7 = .ok (.if_icmp .ge 25, 3) := by decide +kernel
theorem dX0_matedBits_10 : decode cX0_matedBits 10 = .ok (.aload_n 0, 1) := by decide +kernel
theorem dX0_matedBits_11 : decode cX0_matedBits 11 = .ok (.getfield 27, 3) := by decide +kernel
theorem dX0_matedBits_14 : decode cX0_matedBits 14 = .ok (.iload_n 2, 1) := by decide +kernel
theorem dX0_matedBits_15 : decode cX0_matedBits 15 = .ok (.iaload, 1) := by decide +kernel
theorem dX0_matedBits_16 : decode cX0_matedBits 16 = .ok (.iconst (-1), 1) := by decide +kernel
theorem dX0_matedBits_17 : decode cX0_matedBits 17 = .ok (.if_icmp .eq 9, 3) := by decide +kernel
theorem dX0_matedBits_20 : decode cX0_matedBits 20 = .ok (.iload_n 1, 1) := by decide +kernel
theorem dX0_matedBits_21 : decode cX0_matedBits 21 = .ok (.iconst 1, 1) := by decide +kernel
theorem dX0_matedBits_22 : decode cX0_matedBits 22 = .ok (.iload_n 2, 1) := by decide +kernel
theorem dX0_matedBits_23 : decode cX0_matedBits 23 = .ok (.ishl, 1) := by decide +kernel
theorem dX0_matedBits_24 : decode cX0_matedBits 24 = .ok (.ior, 1) := by decide +kernel
theorem dX0_matedBits_25 : decode cX0_matedBits 25 = .ok (.istore_n 1, 1) := by decide +kernel
theorem dX0_matedBits_26 : decode cX0_matedBits 26 = .ok (.iinc 2 1, 3) := by decide +kernel
theorem dX0_matedBits_29 : decode cX0_matedBits 29 = .ok (.goto (-25), 3) := by decide +kernel
theorem dX0_matedBits_32 : decode cX0_matedBits 32 = .ok (.iload_n 1, 1) := by decide +kernel
theorem dX0_matedBits_33 : decode cX0_matedBits 33 = .ok (.ireturn, 1) := by decide +kernel
theorem dX0_pairs_0 : decode cX0_pairs 0 = .ok (.aload_n 0, 1) := by decide +kernel
theorem dX0_pairs_1 : decode cX0_pairs 1 = .ok (.invokevirtual 119, 3) := by decide +kernel
theorem dX0_pairs_4 : decode cX0_pairs 4 = .ok (.bipush 15, 2) := by decide +kernel
theorem dX0_pairs_6 : decode cX0_pairs 6 = .ok (.iand, 1) := by decide +kernel
theorem dX0_pairs_7 : decode cX0_pairs 7 = .ok (.invokestatic 122, 3) := by decide +kernel
theorem dX0_pairs_10 : decode cX0_pairs 10 = .ok (.ireturn, 1) := by decide +kernel
theorem dX0_allLikes_0 : decode cX0_allLikes 0 = .ok (.iconst 0, 1) := by decide +kernel
theorem dX0_allLikes_1 : decode cX0_allLikes 1 = .ok (.istore_n 1, 1) := by decide +kernel
theorem dX0_allLikes_2 : decode cX0_allLikes 2 = .ok (.iconst 0, 1) := by decide +kernel
theorem dX0_allLikes_3 : decode cX0_allLikes 3 = .ok (.istore_n 2, 1) := by decide +kernel
theorem dX0_allLikes_4 : decode cX0_allLikes 4 = .ok (.iload_n 2, 1) := by decide +kernel
theorem dX0_allLikes_5 : decode cX0_allLikes 5 = .ok (.bipush 8, 2) := by decide +kernel
theorem dX0_allLikes_7 : decode cX0_allLikes 7 = .ok (.if_icmp .ge 33, 3) := by decide +kernel
theorem dX0_allLikes_10 : decode cX0_allLikes 10 = .ok (.aload_n 0, 1) := by decide +kernel
theorem dX0_allLikes_11 : decode cX0_allLikes 11 = .ok (.getfield 27, 3) := by decide +kernel
theorem dX0_allLikes_14 : decode cX0_allLikes 14 = .ok (.iload_n 2, 1) := by decide +kernel
theorem dX0_allLikes_15 : decode cX0_allLikes 15 = .ok (.iaload, 1) := by decide +kernel
theorem dX0_allLikes_16 : decode cX0_allLikes 16 = .ok (.iconst (-1), 1) := by decide +kernel
theorem dX0_allLikes_17 : decode cX0_allLikes 17 = .ok (.if_icmp .eq 17, 3) := by decide +kernel
theorem dX0_allLikes_20 : decode cX0_allLikes 20 = .ok (.iload_n 1, 1) := by decide +kernel
theorem dX0_allLikes_21 : decode cX0_allLikes 21 = .ok (.aload_n 0, 1) := by decide +kernel
theorem dX0_allLikes_22 : decode cX0_allLikes 22 = .ok (.iload_n 2, 1) := by decide +kernel
theorem dX0_allLikes_23 : decode cX0_allLikes 23 = .ok (.aload_n 0, 1) := by decide +kernel
theorem dX0_allLikes_24 : decode cX0_allLikes 24 = .ok (.getfield 27, 3) := by decide +kernel
theorem dX0_allLikes_27 : decode cX0_allLikes 27 = .ok (.iload_n 2, 1) := by decide +kernel
theorem dX0_allLikes_28 : decode cX0_allLikes 28 = .ok (.iaload, 1) := by decide +kernel
theorem dX0_allLikes_29 : decode cX0_allLikes 29 = .ok (.invokevirtual 127, 3) := by decide +kernel
theorem dX0_allLikes_32 : decode cX0_allLikes 32 = .ok (.iadd, 1) := by decide +kernel
theorem dX0_allLikes_33 : decode cX0_allLikes 33 = .ok (.istore_n 1, 1) := by decide +kernel
theorem dX0_allLikes_34 : decode cX0_allLikes 34 = .ok (.iinc 2 1, 3) := by decide +kernel
theorem dX0_allLikes_37 : decode cX0_allLikes 37 = .ok (.goto (-33), 3) := by decide +kernel
theorem dX0_allLikes_40 : decode cX0_allLikes 40 = .ok (.iload_n 1, 1) := by decide +kernel
theorem dX0_allLikes_41 : decode cX0_allLikes 41 = .ok (.ireturn, 1) := by decide +kernel
theorem dX0_setMates_0 : decode cX0_setMates 0 = .ok (.aload_n 1, 1) := by decide +kernel
theorem dX0_setMates_1 : decode cX0_setMates 1 = .ok (.iconst 0, 1) := by decide +kernel
theorem dX0_setMates_2 : decode cX0_setMates 2 = .ok (.aload_n 0, 1) := by decide +kernel
theorem dX0_setMates_3 : decode cX0_setMates 3 = .ok (.getfield 27, 3) := by decide +kernel
theorem dX0_setMates_6 : decode cX0_setMates 6 = .ok (.iconst 0, 1) := by decide +kernel
theorem dX0_setMates_7 : decode cX0_setMates 7 = .ok (.aload_n 1, 1) := by decide +kernel
theorem dX0_setMates_8 : decode cX0_setMates 8 = .ok (.arraylength, 1) := by decide +kernel
theorem dX0_setMates_9 : decode cX0_setMates 9 = .ok (.bipush 8, 2) := by decide +kernel
theorem dX0_setMates_11 : decode cX0_setMates 11 = .ok (.invokestatic 130, 3) := by decide +kernel
theorem dX0_setMates_14 : decode cX0_setMates 14 = .ok (.invokestatic 133, 3) := by decide +kernel
theorem dX0_setMates_17 : decode cX0_setMates 17 = .ok (.return_, 1) := by decide +kernel
theorem dX0_quarrelOver_0 : decode cX0_quarrelOver 0 = .ok (.aload_n 0, 1) := by decide +kernel
theorem dX0_quarrelOver_1 : decode cX0_quarrelOver 1 = .ok (.iload_n 1, 1) := by decide +kernel
theorem dX0_quarrelOver_2 : decode cX0_quarrelOver 2 = .ok (.iload_n 2, 1) := by decide +kernel
theorem dX0_quarrelOver_3 : decode cX0_quarrelOver 3 = .ok (.invokevirtual 96, 3) := by decide +kernel
theorem dX0_quarrelOver_6 : decode cX0_quarrelOver 6 = .ok (.aload_n 0, 1) := by decide +kernel
theorem dX0_quarrelOver_7 : decode cX0_quarrelOver 7 = .ok (.iload_n 1, 1) := by decide +kernel
theorem dX0_quarrelOver_8 : decode cX0_quarrelOver 8 = .ok (.aload_n 0, 1) := by decide +kernel
theorem dX0_quarrelOver_9 : decode cX0_quarrelOver 9 = .ok (.getfield 27, 3) := by decide +kernel
theorem dX0_quarrelOver_12 : decode cX0_quarrelOver 12 = .ok (.iload_n 1, 1) := by decide +kernel
theorem dX0_quarrelOver_13 : decode cX0_quarrelOver 13 = .ok (.iaload, 1) := by decide +kernel
theorem dX0_quarrelOver_14 : decode cX0_quarrelOver 14 = .ok (.invokevirtual 96, 3) := by decide +kernel
theorem dX0_quarrelOver_17 : decode cX0_quarrelOver 17 = .ok (.if_icmp .le 27, 3) := by decide +kernel
theorem dX0_quarrelOver_20 : decode cX0_quarrelOver 20 = .ok (.aload_n 0, 1) := by decide +kernel
theorem dX0_quarrelOver_21 : decode cX0_quarrelOver 21 = .ok (.iload_n 2, 1) := by decide +kernel
theorem dX0_quarrelOver_22 : decode cX0_quarrelOver 22 = .ok (.iload_n 1, 1) := by decide +kernel
theorem dX0_quarrelOver_23 : decode cX0_quarrelOver 23 = .ok (.invokevirtual 96, 3) := by decide +kernel
theorem dX0_quarrelOver_26 : decode cX0_quarrelOver 26 = .ok (.aload_n 0, 1) := by decide +kernel
theorem dX0_quarrelOver_27 : decode cX0_quarrelOver 27 = .ok (.iload_n 2, 1) := by decide +kernel
theorem dX0_quarrelOver_28 : decode cX0_quarrelOver 28 = .ok (.aload_n 0, 1) := by decide +kernel
theorem dX0_quarrelOver_29 : decode cX0_quarrelOver 29 = .ok (.getfield 27, 3) := by decide +kernel
theorem dX0_quarrelOver_32 : decode cX0_quarrelOver 32 = .ok (.iload_n 2, 1) := by decide +kernel
theorem dX0_quarrelOver_33 : decode cX0_quarrelOver 33 = .ok (.iaload, 1) := by decide +kernel
theorem dX0_quarrelOver_34 : decode cX0_quarrelOver 34 = .ok (.invokevirtual 96, 3) := by decide +kernel
theorem dX0_quarrelOver_37 : decode cX0_quarrelOver 37 = .ok (.if_icmp .le 7, 3) := by decide +kernel
theorem dX0_quarrelOver_40 : decode cX0_quarrelOver 40 = .ok (.iconst 1, 1) := by decide +kernel
theorem dX0_quarrelOver_41 : decode cX0_quarrelOver 41 = .ok (.goto 4, 3) := by decide +kernel
theorem dX0_quarrelOver_44 : decode cX0_quarrelOver 44 = .ok (.iconst 0, 1) := by decide +kernel
theorem dX0_quarrelOver_45 : decode cX0_quarrelOver 45 = .ok (.ireturn, 1) := by decide +kernel
theorem dX0_quarrels_0 : decode cX0_quarrels 0 = .ok (.iconst 0, 1) := by decide +kernel
theorem dX0_quarrels_1 : decode cX0_quarrels 1 = .ok (.istore_n 1, 1) := by decide +kernel
theorem dX0_quarrels_2 : decode cX0_quarrels 2 = .ok (.iconst 0, 1) := by decide +kernel
theorem dX0_quarrels_3 : decode cX0_quarrels 3 = .ok (.istore_n 2, 1) := by decide +kernel
theorem dX0_quarrels_4 : decode cX0_quarrels 4 = .ok (.iload_n 2, 1) := by decide +kernel
theorem dX0_quarrels_5 : decode cX0_quarrels 5 = .ok (.iconst 4, 1) := by decide +kernel
theorem dX0_quarrels_6 : decode cX0_quarrels 6 = .ok (.if_icmp .ge 35, 3) := by decide +kernel
theorem dX0_quarrels_9 : decode cX0_quarrels 9 = .ok (.iconst 4, 1) := by decide +kernel
theorem dX0_quarrels_10 : decode cX0_quarrels 10 = .ok (.istore_n 3, 1) := by decide +kernel
theorem dX0_quarrels_11 : decode cX0_quarrels 11 = .ok (.iload_n 3, 1) := by decide +kernel
theorem dX0_quarrels_12 : decode cX0_quarrels 12 = .ok (.bipush 8, 2) := by decide +kernel
theorem dX0_quarrels_14 : decode cX0_quarrels 14 = .ok (.if_icmp .ge 21, 3) := by decide +kernel
theorem dX0_quarrels_17 : decode cX0_quarrels 17 = .ok (.aload_n 0, 1) := by decide +kernel
theorem dX0_quarrels_18 : decode cX0_quarrels 18 = .ok (.iload_n 2, 1) := by decide +kernel
theorem dX0_quarrels_19 : decode cX0_quarrels 19 = .ok (.iload_n 3, 1) := by decide +kernel
theorem dX0_quarrels_20 : decode cX0_quarrels 20 = .ok (.invokevirtual 139, 3) := by decide +kernel
theorem dX0_quarrels_23 : decode cX0_quarrels 23 = .ok (.ifCond .eq 6, 3) := by decide +kernel
theorem dX0_quarrels_26 : decode cX0_quarrels 26 = .ok (.iinc 1 1, 3) := by decide +kernel
theorem dX0_quarrels_29 : decode cX0_quarrels 29 = .ok (.iinc 3 1, 3) := by decide +kernel
theorem dX0_quarrels_32 : decode cX0_quarrels 32 = .ok (.goto (-21), 3) := by decide +kernel
theorem dX0_quarrels_35 : decode cX0_quarrels 35 = .ok (.iinc 2 1, 3) := by decide +kernel
theorem dX0_quarrels_38 : decode cX0_quarrels 38 = .ok (.goto (-34), 3) := by decide +kernel
theorem dX0_quarrels_41 : decode cX0_quarrels 41 = .ok (.iload_n 1, 1) := by decide +kernel
theorem dX0_quarrels_42 : decode cX0_quarrels 42 = .ok (.ireturn, 1) := by decide +kernel
theorem dX0_firstQuarrel_0 : decode cX0_firstQuarrel 0 = .ok (.iconst 0, 1) := by decide +kernel
theorem dX0_firstQuarrel_1 : decode cX0_firstQuarrel 1 = .ok (.istore_n 1, 1) := by decide +kernel
theorem dX0_firstQuarrel_2 : decode cX0_firstQuarrel 2 = .ok (.iload_n 1, 1) := by decide +kernel
theorem dX0_firstQuarrel_3 : decode cX0_firstQuarrel 3 = .ok (.iconst 4, 1) := by decide +kernel
theorem dX0_firstQuarrel_4 : decode cX0_firstQuarrel 4 = .ok (.if_icmp .ge 39, 3) := by decide +kernel
theorem dX0_firstQuarrel_7 : decode cX0_firstQuarrel 7 = .ok (.iconst 4, 1) := by decide +kernel
theorem dX0_firstQuarrel_8 : decode cX0_firstQuarrel 8 = .ok (.istore_n 2, 1) := by decide +kernel
theorem dX0_firstQuarrel_9 : decode cX0_firstQuarrel 9 = .ok (.iload_n 2, 1) := by decide +kernel
theorem dX0_firstQuarrel_10 : decode cX0_firstQuarrel 10 = .ok (.bipush 8, 2) := by decide +kernel
theorem dX0_firstQuarrel_12 : decode cX0_firstQuarrel 12 = .ok (.if_icmp .ge 25, 3) := by decide +kernel
theorem dX0_firstQuarrel_15 : decode cX0_firstQuarrel 15 = .ok (.aload_n 0, 1) := by decide +kernel
theorem dX0_firstQuarrel_16 : decode cX0_firstQuarrel 16 = .ok (.iload_n 1, 1) := by decide +kernel
theorem dX0_firstQuarrel_17 : decode cX0_firstQuarrel 17 = .ok (.iload_n 2, 1) := by decide +kernel
theorem dX0_firstQuarrel_18 : decode cX0_firstQuarrel 18 = .ok (.invokevirtual 139, 3) := by decide +kernel
theorem dX0_firstQuarrel_21 : decode cX0_firstQuarrel 21 = .ok (.ifCond .eq 10, 3) := by decide +kernel
theorem dX0_firstQuarrel_24 : decode cX0_firstQuarrel 24 = .ok (.bipush 10, 2) := by decide +kernel
theorem dX0_firstQuarrel_26 : decode cX0_firstQuarrel 26 = .ok (.iload_n 1, 1) := by decide +kernel
theorem dX0_firstQuarrel_27 : decode cX0_firstQuarrel 27 = .ok (.imul, 1) := by decide +kernel
theorem dX0_firstQuarrel_28 : decode cX0_firstQuarrel 28 = .ok (.iload_n 2, 1) := by decide +kernel
theorem dX0_firstQuarrel_29 : decode cX0_firstQuarrel 29 = .ok (.iadd, 1) := by decide +kernel
theorem dX0_firstQuarrel_30 : decode cX0_firstQuarrel 30 = .ok (.ireturn, 1) := by decide +kernel
theorem dX0_firstQuarrel_31 : decode cX0_firstQuarrel 31 = .ok (.iinc 2 1, 3) := by decide +kernel
theorem dX0_firstQuarrel_34 : decode cX0_firstQuarrel 34 = .ok (.goto (-25), 3) := by decide +kernel
theorem dX0_firstQuarrel_37 : decode cX0_firstQuarrel 37 = .ok (.iinc 1 1, 3) := by decide +kernel
theorem dX0_firstQuarrel_40 : decode cX0_firstQuarrel 40 = .ok (.goto (-38), 3) := by decide +kernel
theorem dX0_firstQuarrel_43 : decode cX0_firstQuarrel 43 = .ok (.iconst (-1), 1) := by decide +kernel
theorem dX0_firstQuarrel_44 : decode cX0_firstQuarrel 44 = .ok (.ireturn, 1) := by decide +kernel
theorem dX0_toNextPairs_0 : decode cX0_toNextPairs 0 = .ok (.iconst 3, 1) := by decide +kernel
theorem dX0_toNextPairs_1 : decode cX0_toNextPairs 1 = .ok (.istore_n 1, 1) := by decide +kernel
theorem dX0_toNextPairs_2 : decode cX0_toNextPairs 2 = .ok (.iload_n 1, 1) := by decide +kernel
theorem dX0_toNextPairs_3 : decode cX0_toNextPairs 3 = .ok (.ifCond .lt 96, 3) := by decide +kernel
theorem dX0_toNextPairs_6 : decode cX0_toNextPairs 6 = .ok (.aload_n 0, 1) := by decide +kernel
theorem dX0_toNextPairs_7 : decode cX0_toNextPairs 7 = .ok (.getfield 27, 3) := by decide +kernel
theorem dX0_toNextPairs_10 : decode cX0_toNextPairs 10 = .ok (.iload_n 1, 1) := by decide +kernel
theorem dX0_toNextPairs_11 : decode cX0_toNextPairs 11 = .ok (.iaload, 1) := by decide +kernel
theorem dX0_toNextPairs_12 : decode cX0_toNextPairs 12 = .ok (.istore_n 2, 1) := by decide +kernel
theorem dX0_toNextPairs_13 : decode cX0_toNextPairs 13 = .ok (.iload_n 2, 1) := by decide +kernel
theorem dX0_toNextPairs_14 : decode cX0_toNextPairs 14 = .ok (.iconst (-1), 1) := by decide +kernel
theorem dX0_toNextPairs_15 : decode cX0_toNextPairs 15 = .ok (.if_icmp .eq 17, 3) := by decide +kernel
theorem dX0_toNextPairs_18 : decode cX0_toNextPairs 18 = .ok (.aload_n 0, 1) := by decide +kernel
theorem dX0_toNextPairs_19 : decode cX0_toNextPairs 19 = .ok (.getfield 27, 3) := by decide +kernel
theorem dX0_toNextPairs_22 : decode cX0_toNextPairs 22 = .ok (.iload_n 2, 1) := by decide +kernel
theorem dX0_toNextPairs_23 : decode cX0_toNextPairs 23 = .ok (.iconst (-1), 1) := by decide +kernel
theorem dX0_toNextPairs_24 : decode cX0_toNextPairs 24 = .ok (.iastore, 1) := by decide +kernel
theorem dX0_toNextPairs_25 : decode cX0_toNextPairs 25 = .ok (.aload_n 0, 1) := by decide +kernel
theorem dX0_toNextPairs_26 : decode cX0_toNextPairs 26 = .ok (.getfield 27, 3) := by decide +kernel
theorem dX0_toNextPairs_29 : decode cX0_toNextPairs 29 = .ok (.iload_n 1, 1) := by decide +kernel
theorem dX0_toNextPairs_30 : decode cX0_toNextPairs 30 = .ok (.iconst (-1), 1) := by decide +kernel
theorem dX0_toNextPairs_31 : decode cX0_toNextPairs 31 = .ok (.iastore, 1) := by decide +kernel
theorem dX0_toNextPairs_32 : decode cX0_toNextPairs 32 = .ok (.iload_n 2, 1) := by decide +kernel
theorem dX0_toNextPairs_33 : decode cX0_toNextPairs 33 = .ok (.iconst (-1), 1) := by decide +kernel
theorem dX0_toNextPairs_34 : decode cX0_toNextPairs 34 = .ok (.if_icmp .ne 7, 3) := by decide +kernel
theorem dX0_toNextPairs_37 : decode cX0_toNextPairs 37 = .ok (.iconst 4, 1) := by decide +kernel
theorem dX0_toNextPairs_38 : decode cX0_toNextPairs 38 = .ok (.goto 6, 3) := by decide +kernel
theorem dX0_toNextPairs_41 : decode cX0_toNextPairs 41 = .ok (.iload_n 2, 1) := by decide +kernel
theorem dX0_toNextPairs_42 : decode cX0_toNextPairs 42 = .ok (.iconst 1, 1) := by decide +kernel
theorem dX0_toNextPairs_43 : decode cX0_toNextPairs 43 = .ok (.iadd, 1) := by decide +kernel
theorem dX0_toNextPairs_44 : decode cX0_toNextPairs 44 = .ok (.istore_n 3, 1) := by decide +kernel
theorem dX0_toNextPairs_45 : decode cX0_toNextPairs 45 = .ok (.iload_n 3, 1) := by decide +kernel
theorem dX0_toNextPairs_46 : decode cX0_toNextPairs 46 = .ok (.bipush 8, 2) := by decide +kernel
theorem dX0_toNextPairs_48 : decode cX0_toNextPairs 48 = .ok (.if_icmp .ge 45, 3) := by decide +kernel
theorem dX0_toNextPairs_51 : decode cX0_toNextPairs 51 = .ok (.aload_n 0, 1) := by decide +kernel
theorem dX0_toNextPairs_52 : decode cX0_toNextPairs 52 = .ok (.getfield 27, 3) := by decide +kernel
theorem dX0_toNextPairs_55 : decode cX0_toNextPairs 55 = .ok (.iload_n 3, 1) := by decide +kernel
theorem dX0_toNextPairs_56 : decode cX0_toNextPairs 56 = .ok (.iaload, 1) := by decide +kernel
theorem dX0_toNextPairs_57 : decode cX0_toNextPairs 57 = .ok (.iconst (-1), 1) := by decide +kernel
theorem dX0_toNextPairs_58 : decode cX0_toNextPairs 58 = .ok (.if_icmp .ne 29, 3) := by decide +kernel
theorem dX0_toNextPairs_61 : decode cX0_toNextPairs 61 = .ok (.aload_n 0, 1) := by decide +kernel
theorem dX0_toNextPairs_62 : decode cX0_toNextPairs 62 = .ok (.iload_n 1, 1) := by decide +kernel
theorem dX0_toNextPairs_63 : decode cX0_toNextPairs 63 = .ok (.iload_n 3, 1) := by decide +kernel
theorem dX0_toNextPairs_64 : decode cX0_toNextPairs 64 = .ok (.invokevirtual 96, 3) := by decide +kernel
theorem dX0_toNextPairs_67 : decode cX0_toNextPairs 67 = .ok (.iconst (-1), 1) := by decide +kernel
theorem dX0_toNextPairs_68 : decode cX0_toNextPairs 68 = .ok (.if_icmp .le 19, 3) := by decide +kernel
theorem dX0_toNextPairs_71 : decode cX0_toNextPairs 71 = .ok (.aload_n 0, 1) := by decide +kernel
theorem dX0_toNextPairs_72 : decode cX0_toNextPairs 72 = .ok (.getfield 27, 3) := by decide +kernel
theorem dX0_toNextPairs_75 : decode cX0_toNextPairs 75 = .ok (.iload_n 1, 1) := by decide +kernel
theorem dX0_toNextPairs_76 : decode cX0_toNextPairs 76 = .ok (.iload_n 3, 1) := by decide +kernel
theorem dX0_toNextPairs_77 : decode cX0_toNextPairs 77 = .ok (.iastore, 1) := by decide +kernel
theorem dX0_toNextPairs_78 : decode cX0_toNextPairs 78 = .ok (.aload_n 0, 1) := by decide +kernel
theorem dX0_toNextPairs_79 : decode cX0_toNextPairs 79 = .ok (.getfield 27, 3) := by decide +kernel
theorem dX0_toNextPairs_82 : decode cX0_toNextPairs 82 = .ok (.iload_n 3, 1) := by decide +kernel
theorem dX0_toNextPairs_83 : decode cX0_toNextPairs 83 = .ok (.iload_n 1, 1) := by decide +kernel
theorem dX0_toNextPairs_84 : decode cX0_toNextPairs 84 = .ok (.iastore, 1) := by decide +kernel
theorem dX0_toNextPairs_85 : decode cX0_toNextPairs 85 = .ok (.iconst 1, 1) := by decide +kernel
theorem dX0_toNextPairs_86 : decode cX0_toNextPairs 86 = .ok (.ireturn, 1) := by decide +kernel
theorem dX0_toNextPairs_87 : decode cX0_toNextPairs 87 = .ok (.iinc 3 1, 3) := by decide +kernel
theorem dX0_toNextPairs_90 : decode cX0_toNextPairs 90 = .ok (.goto (-45), 3) := by decide +kernel
theorem dX0_toNextPairs_93 : decode cX0_toNextPairs 93 = .ok (.iinc 1 (-1), 3) := by decide +kernel
theorem dX0_toNextPairs_96 : decode cX0_toNextPairs 96 = .ok (.goto (-94), 3) := by decide +kernel
theorem dX0_toNextPairs_99 : decode cX0_toNextPairs 99 = .ok (.iconst 0, 1) := by decide +kernel
theorem dX0_toNextPairs_100 : decode cX0_toNextPairs 100 = .ok (.ireturn, 1) := by decide +kernel
theorem dX0_countHolding_0 : decode cX0_countHolding 0 = .ok (.aload_n 0, 1) := by decide +kernel
theorem dX0_countHolding_1 : decode cX0_countHolding 1 = .ok (.iconst (-1), 1) := by decide +kernel
theorem dX0_countHolding_2 : decode cX0_countHolding 2 = .ok (.iconst (-1), 1) := by decide +kernel
theorem dX0_countHolding_3 : decode cX0_countHolding 3 = .ok (.invokevirtual 142, 3) := by decide +kernel
theorem dX0_countHolding_6 : decode cX0_countHolding 6 = .ok (.ireturn, 1) := by decide +kernel
theorem dX0_countHoldingWith_0 : decode cX0_countHoldingWith 0 = .ok (.aload_n 0, 1) := by decide +kernel
theorem dX0_countHoldingWith_1 : decode cX0_countHoldingWith 1 = .ok (.getfield 27, 3) := by decide +kernel
theorem dX0_countHoldingWith_4 : decode cX0_countHoldingWith 4 = .ok (.iconst (-1), 1) := by decide +kernel
theorem dX0_countHoldingWith_5 : decode cX0_countHoldingWith 5 = .ok (.invokestatic 46, 3) := by decide +kernel
theorem dX0_countHoldingWith_8 : decode cX0_countHoldingWith 8 = .ok (.iconst 0, 1) := by decide +kernel
theorem dX0_countHoldingWith_9 : decode cX0_countHoldingWith 9 = .ok (.istore_n 3, 1) := by decide +kernel
theorem dX0_countHoldingWith_10 : decode cX0_countHoldingWith 10 = .ok (.iconst 1, 1) := by decide +kernel
theorem dX0_countHoldingWith_11 : decode cX0_countHoldingWith 11 = .ok (.istore 4, 2) := by decide +kernel
theorem dX0_countHoldingWith_13 : decode cX0_countHoldingWith 13 = .ok (.iconst 0, 1) := by decide +kernel
theorem dX0_countHoldingWith_14 : decode cX0_countHoldingWith 14 = .ok (.istore 5, 2) := by decide +kernel
theorem dX0_countHoldingWith_16 : decode cX0_countHoldingWith 16 = .ok (.iload 5, 2) := by decide +kernel
theorem dX0_countHoldingWith_18 : decode cX0_countHoldingWith 18 = .ok (.sipush 10000, 3) := by decide +kernel
theorem dX0_countHoldingWith_21 : decode cX0_countHoldingWith 21 = .ok (.if_icmp .ge 58, 3) := by decide +kernel
theorem dX0_countHoldingWith_24 : decode cX0_countHoldingWith 24 = .ok (.iload 4, 2) := by decide +kernel
theorem dX0_countHoldingWith_26 : decode cX0_countHoldingWith 26 = .ok (.ifCond .eq 53, 3) := by decide +kernel
theorem dX0_countHoldingWith_29 : decode cX0_countHoldingWith 29 = .ok (.iload_n 1, 1) := by decide +kernel
theorem dX0_countHoldingWith_30 : decode cX0_countHoldingWith 30 = .ok (.iconst (-1), 1) := by decide +kernel
theorem dX0_countHoldingWith_31 : decode cX0_countHoldingWith 31 = .ok (.if_icmp .eq 13, 3) := by decide +kernel
theorem dX0_countHoldingWith_34 : decode cX0_countHoldingWith 34 = .ok (.aload_n 0, 1) := by decide +kernel
theorem dX0_countHoldingWith_35 : decode cX0_countHoldingWith 35 = .ok (.getfield 27, 3) := by decide +kernel
theorem dX0_countHoldingWith_38 : decode cX0_countHoldingWith 38 = .ok (.iload_n 1, 1) := by decide +kernel
theorem dX0_countHoldingWith_39 : decode cX0_countHoldingWith 39 = .ok (.iaload, 1) := by decide +kernel
theorem dX0_countHoldingWith_40 : decode cX0_countHoldingWith 40 = .ok (.iload_n 2, 1) := by decide +kernel
theorem dX0_countHoldingWith_41 : decode cX0_countHoldingWith 41 = .ok (.if_icmp .ne 7, 3) := by decide +kernel
theorem dX0_countHoldingWith_44 : decode cX0_countHoldingWith 44 = .ok (.iconst 1, 1) := by decide +kernel
theorem dX0_countHoldingWith_45 : decode cX0_countHoldingWith 45 = .ok (.goto 4, 3) := by decide +kernel
theorem dX0_countHoldingWith_48 : decode cX0_countHoldingWith 48 = .ok (.iconst 0, 1) := by decide +kernel
theorem dX0_countHoldingWith_49 : decode cX0_countHoldingWith 49 = .ok (.istore 6, 2) := by decide +kernel
theorem dX0_countHoldingWith_51 : decode cX0_countHoldingWith 51 = .ok (.iload 6, 2) := by decide +kernel
theorem dX0_countHoldingWith_53 : decode cX0_countHoldingWith 53 = .ok (.ifCond .eq 14, 3) := by decide +kernel
theorem dX0_countHoldingWith_56 : decode cX0_countHoldingWith 56 = .ok (.aload_n 0, 1) := by decide +kernel
theorem dX0_countHoldingWith_57 : decode cX0_countHoldingWith 57 = .ok (.invokevirtual 145, 3) := by decide +kernel
theorem dX0_countHoldingWith_60 : decode cX0_countHoldingWith 60 = .ok (.iconst (-1), 1) := by decide +kernel
theorem dX0_countHoldingWith_61 : decode cX0_countHoldingWith 61 = .ok (.if_icmp .ne 6, 3) := by decide +kernel
theorem dX0_countHoldingWith_64 : decode cX0_countHoldingWith 64 = .ok (.iinc 3 1, 3) := by decide +kernel
theorem dX0_countHoldingWith_67 : decode cX0_countHoldingWith 67 = .ok (.aload_n 0, 1) := by decide +kernel
theorem dX0_countHoldingWith_68 : decode cX0_countHoldingWith 68 = .ok (.invokevirtual 148, 3) := by decide +kernel
theorem dX0_countHoldingWith_71 : decode cX0_countHoldingWith 71 = .ok (.istore 4, 2) := by decide +kernel
theorem dX0_countHoldingWith_73 : decode cX0_countHoldingWith 73 = .ok (.iinc 5 1, 3) := by decide +kernel
theorem dX0_countHoldingWith_76 : decode cX0_countHoldingWith 76 = .ok (.goto (-60), 3) := by decide +kernel
theorem dX0_countHoldingWith_79 : decode cX0_countHoldingWith 79 = .ok (.iload_n 3, 1) := by decide +kernel
theorem dX0_countHoldingWith_80 : decode cX0_countHoldingWith 80 = .ok (.ireturn, 1) := by decide +kernel
theorem dX0_findMost_0 : decode cX0_findMost 0 = .ok (.aload_n 0, 1) := by decide +kernel
theorem dX0_findMost_1 : decode cX0_findMost 1 = .ok (.getfield 27, 3) := by decide +kernel
theorem dX0_findMost_4 : decode cX0_findMost 4 = .ok (.iconst (-1), 1) := by decide +kernel
theorem dX0_findMost_5 : decode cX0_findMost 5 = .ok (.invokestatic 46, 3) := by decide +kernel
theorem dX0_findMost_8 : decode cX0_findMost 8 = .ok (.aload_n 0, 1) := by decide +kernel
theorem dX0_findMost_9 : decode cX0_findMost 9 = .ok (.getfield 33, 3) := by decide +kernel
theorem dX0_findMost_12 : decode cX0_findMost 12 = .ok (.iconst (-1), 1) := by decide +kernel
theorem dX0_findMost_13 : decode cX0_findMost 13 = .ok (.invokestatic 46, 3) := by decide +kernel
theorem dX0_findMost_16 : decode cX0_findMost 16 = .ok (.iconst 0, 1) := by decide +kernel
theorem dX0_findMost_17 : decode cX0_findMost 17 = .ok (.istore_n 1, 1) := by decide +kernel
theorem dX0_findMost_18 : decode cX0_findMost 18 = .ok (.iconst 1, 1) := by decide +kernel
theorem dX0_findMost_19 : decode cX0_findMost 19 = .ok (.istore_n 2, 1) := by decide +kernel
theorem dX0_findMost_20 : decode cX0_findMost 20 = .ok (.iconst 0, 1) := by decide +kernel
theorem dX0_findMost_21 : decode cX0_findMost 21 = .ok (.istore_n 3, 1) := by decide +kernel
theorem dX0_findMost_22 : decode cX0_findMost 22 = .ok (.iload_n 3, 1) := by decide +kernel
theorem dX0_findMost_23 : decode cX0_findMost 23 = .ok (.sipush 10000, 3) := by decide +kernel
theorem dX0_findMost_26 : decode cX0_findMost 26 = .ok (.if_icmp .ge 48, 3) := by decide +kernel
theorem dX0_findMost_29 : decode cX0_findMost 29 = .ok (.iload_n 2, 1) := by decide +kernel
theorem dX0_findMost_30 : decode cX0_findMost 30 = .ok (.ifCond .eq 44, 3) := by decide +kernel
theorem dX0_findMost_33 : decode cX0_findMost 33 = .ok (.aload_n 0, 1) := by decide +kernel
theorem dX0_findMost_34 : decode cX0_findMost 34 = .ok (.invokevirtual 152, 3) := by decide +kernel
theorem dX0_findMost_37 : decode cX0_findMost 37 = .ok (.istore 4, 2) := by decide +kernel
theorem dX0_findMost_39 : decode cX0_findMost 39 = .ok (.iload 4, 2) := by decide +kernel
theorem dX0_findMost_41 : decode cX0_findMost 41 = .ok (.iload_n 1, 1) := by decide +kernel
theorem dX0_findMost_42 : decode cX0_findMost 42 = .ok (.if_icmp .le 21, 3) := by decide +kernel
theorem dX0_findMost_45 : decode cX0_findMost 45 = .ok (.iload 4, 2) := by decide +kernel
theorem dX0_findMost_47 : decode cX0_findMost 47 = .ok (.istore_n 1, 1) := by decide +kernel
theorem dX0_findMost_48 : decode cX0_findMost 48 = .ok (.aload_n 0, 1) := by decide +kernel
theorem dX0_findMost_49 : decode cX0_findMost 49 = .ok (.getfield 27, 3) := by decide +kernel
theorem dX0_findMost_52 : decode cX0_findMost 52 = .ok (.iconst 0, 1) := by decide +kernel
theorem dX0_findMost_53 : decode cX0_findMost 53 = .ok (.aload_n 0, 1) := by decide +kernel
theorem dX0_findMost_54 : decode cX0_findMost 54 = .ok (.getfield 33, 3) := by decide +kernel
theorem dX0_findMost_57 : decode cX0_findMost 57 = .ok (.iconst 0, 1) := by decide +kernel
theorem dX0_findMost_58 : decode cX0_findMost 58 = .ok (.bipush 8, 2) := by decide +kernel
theorem dX0_findMost_60 : decode cX0_findMost 60 = .ok (.invokestatic 133, 3) := by decide +kernel
theorem dX0_findMost_63 : decode cX0_findMost 63 = .ok (.aload_n 0, 1) := by decide +kernel
theorem dX0_findMost_64 : decode cX0_findMost 64 = .ok (.invokevirtual 148, 3) := by decide +kernel
theorem dX0_findMost_67 : decode cX0_findMost 67 = .ok (.istore_n 2, 1) := by decide +kernel
theorem dX0_findMost_68 : decode cX0_findMost 68 = .ok (.iinc 3 1, 3) := by decide +kernel
theorem dX0_findMost_71 : decode cX0_findMost 71 = .ok (.goto (-49), 3) := by decide +kernel
theorem dX0_findMost_74 : decode cX0_findMost 74 = .ok (.iload_n 1, 1) := by decide +kernel
theorem dX0_findMost_75 : decode cX0_findMost 75 = .ok (.ireturn, 1) := by decide +kernel
theorem dX1_init_0 : decode cX1_init 0 = .ok (.aload_n 0, 1) := by decide +kernel
theorem dX1_init_1 : decode cX1_init 1 = .ok (.invokespecial 3, 3) := by decide +kernel
theorem dX1_init_4 : decode cX1_init 4 = .ok (.aload_n 0, 1) := by decide +kernel
theorem dX1_init_5 : decode cX1_init 5 = .ok (.new 9, 3) := by decide +kernel
theorem dX1_init_8 : decode cX1_init 8 = .ok (.dup, 1) := by decide +kernel
theorem dX1_init_9 : decode cX1_init 9 = .ok (.invokespecial 11, 3) := by decide +kernel
theorem dX1_init_12 : decode cX1_init 12 = .ok (.putfield 12, 3) := by decide +kernel
theorem dX1_init_15 : decode cX1_init 15 = .ok (.aload_n 0, 1) := by decide +kernel
theorem dX1_init_16 : decode cX1_init 16 = .ok (.aload_n 1, 1) := by decide +kernel
theorem dX1_init_17 : decode cX1_init 17 = .ok (.putfield 18, 3) := by decide +kernel
theorem dX1_init_20 : decode cX1_init 20 = .ok (.return_, 1) := by decide +kernel
theorem dX1_parse_0 : decode cX1_parse 0 = .ok (.aload_n 0, 1) := by decide +kernel
theorem dX1_parse_1 : decode cX1_parse 1 = .ok (.getfield 12, 3) := by decide +kernel
theorem dX1_parse_4 : decode cX1_parse 4 = .ok (.invokevirtual 22, 3) := by decide +kernel
theorem dX1_parse_7 : decode cX1_parse 7 = .ok (.aload_n 0, 1) := by decide +kernel
theorem dX1_parse_8 : decode cX1_parse 8 = .ok (.iconst 0, 1) := by decide +kernel
theorem dX1_parse_9 : decode cX1_parse 9 = .ok (.putfield 25, 3) := by decide +kernel
theorem dX1_parse_12 : decode cX1_parse 12 = .ok (.aload_n 0, 1) := by decide +kernel
theorem dX1_parse_13 : decode cX1_parse 13 = .ok (.iconst 0, 1) := by decide +kernel
theorem dX1_parse_14 : decode cX1_parse 14 = .ok (.putfield 29, 3) := by decide +kernel
theorem dX1_parse_17 : decode cX1_parse 17 = .ok (.aload_n 0, 1) := by decide +kernel
theorem dX1_parse_18 : decode cX1_parse 18 = .ok (.iconst 0, 1) := by decide +kernel
theorem dX1_parse_19 : decode cX1_parse 19 = .ok (.putfield 32, 3) := by decide +kernel
theorem dX1_parse_22 : decode cX1_parse 22 = .ok (.aload_n 0, 1) := by decide +kernel
theorem dX1_parse_23 : decode cX1_parse 23 = .ok (.iconst 0, 1) := by decide +kernel
theorem dX1_parse_24 : decode cX1_parse 24 = .ok (.putfield 35, 3) := by decide +kernel
theorem dX1_parse_27 : decode cX1_parse 27 = .ok (.aload_n 0, 1) := by decide +kernel
theorem dX1_parse_28 : decode cX1_parse 28 = .ok (.getfield 18, 3) := by decide +kernel
theorem dX1_parse_31 : decode cX1_parse 31 = .ok (.invokevirtual 38, 3) := by decide +kernel
theorem dX1_parse_34 : decode cX1_parse 34 = .ok (.aload_n 0, 1) := by decide +kernel
theorem dX1_parse_35 : decode cX1_parse 35 = .ok (.getfield 18, 3) := by decide +kernel
theorem dX1_parse_38 : decode cX1_parse 38 = .ok (.invokevirtual 43, 3) := by decide +kernel
theorem dX1_parse_41 : decode cX1_parse 41 = .ok (.iconst 0, 1) := by decide +kernel
theorem dX1_parse_42 : decode cX1_parse 42 = .ok (.istore_n 1, 1) := by decide +kernel
theorem dX1_parse_43 : decode cX1_parse 43 = .ok (.iload_n 1, 1) := by decide +kernel
theorem dX1_parse_44 : decode cX1_parse 44 = .ok (.sipush 160, 3) := by decide +kernel
theorem dX1_parse_47 : decode cX1_parse 47 = .ok (.if_icmp .ge 43, 3) := by decide +kernel
theorem dX1_parse_50 : decode cX1_parse 50 = .ok (.aload_n 0, 1) := by decide +kernel
theorem dX1_parse_51 : decode cX1_parse 51 = .ok (.getfield 18, 3) := by decide +kernel
theorem dX1_parse_54 : decode cX1_parse 54 = .ok (.getfield 46, 3) := by decide +kernel
theorem dX1_parse_57 : decode cX1_parse 57 = .ok (.ifCond .eq 33, 3) := by decide +kernel
theorem dX1_parse_60 : decode cX1_parse 60 = .ok (.aload_n 0, 1) := by decide +kernel
theorem dX1_parse_61 : decode cX1_parse 61 = .ok (.invokevirtual 49, 3) := by decide +kernel
theorem dX1_parse_64 : decode cX1_parse 64 = .ok (.ifCond .eq 26, 3) := by decide +kernel
theorem dX1_parse_67 : decode cX1_parse 67 = .ok (.aload_n 0, 1) := by decide +kernel
theorem dX1_parse_68 : decode cX1_parse 68 = .ok (.dup, 1) := by decide +kernel
theorem dX1_parse_69 : decode cX1_parse 69 = .ok (.getfield 32, 3) := by decide +kernel
theorem dX1_parse_72 : decode cX1_parse 72 = .ok (.iconst 1, 1) := by decide +kernel
theorem dX1_parse_73 : decode cX1_parse 73 = .ok (.iadd, 1) := by decide +kernel
theorem dX1_parse_74 : decode cX1_parse 74 = .ok (.putfield 32, 3) := by decide +kernel
theorem dX1_parse_77 : decode cX1_parse 77 = .ok (.aload_n 0, 1) := by decide +kernel
theorem dX1_parse_78 : decode cX1_parse 78 = .ok (.getfield 18, 3) := by decide +kernel
theorem dX1_parse_81 : decode cX1_parse 81 = .ok (.invokevirtual 43, 3) := by decide +kernel
theorem dX1_parse_84 : decode cX1_parse 84 = .ok (.iinc 1 1, 3) := by decide +kernel
theorem dX1_parse_87 : decode cX1_parse 87 = .ok (.goto (-44), 3) := by decide +kernel
theorem dX1_parse_90 : decode cX1_parse 90 = .ok (.aload_n 0, 1) := by decide +kernel
theorem dX1_parse_91 : decode cX1_parse 91 = .ok (.getfield 25, 3) := by decide +kernel
theorem dX1_parse_94 : decode cX1_parse 94 = .ok (.ifCond .ne 37, 3) := by decide +kernel
theorem dX1_parse_97 : decode cX1_parse 97 = .ok (.aload_n 0, 1) := by decide +kernel
theorem dX1_parse_98 : decode cX1_parse 98 = .ok (.invokevirtual 53, 3) := by decide +kernel
theorem dX1_parse_101 : decode cX1_parse 101 = .ok (.aload_n 0, 1) := by decide +kernel
theorem dX1_parse_102 : decode cX1_parse 102 = .ok (.getfield 12, 3) := by decide +kernel
theorem dX1_parse_105 : decode cX1_parse 105 = .ok (.invokevirtual 57, 3) := by decide +kernel
theorem dX1_parse_108 : decode cX1_parse 108 = .ok (.iconst (-1), 1) := by decide +kernel
theorem dX1_parse_109 : decode cX1_parse 109 = .ok (.ixor, 1) := by decide +kernel
theorem dX1_parse_110 : decode cX1_parse 110 = .ok (.iand, 1) := by decide +kernel
theorem dX1_parse_111 : decode cX1_parse 111 = .ok (.ifCond .eq 20, 3) := by decide +kernel
theorem dX1_parse_114 : decode cX1_parse 114 = .ok (.aload_n 0, 1) := by decide +kernel
theorem dX1_parse_115 : decode cX1_parse 115 = .ok (.bipush 6, 2) := by decide +kernel
theorem dX1_parse_117 : decode cX1_parse 117 = .ok (.putfield 25, 3) := by decide +kernel
theorem dX1_parse_120 : decode cX1_parse 120 = .ok (.aload_n 0, 1) := by decide +kernel
theorem dX1_parse_121 : decode cX1_parse 121 = .ok (.aload_n 0, 1) := by decide +kernel
theorem dX1_parse_122 : decode cX1_parse 122 = .ok (.getfield 18, 3) := by decide +kernel
theorem dX1_parse_125 : decode cX1_parse 125 = .ok (.getfield 60, 3) := by decide +kernel
theorem dX1_parse_128 : decode cX1_parse 128 = .ok (.putfield 29, 3) := by decide +kernel
theorem dX1_parse_131 : decode cX1_parse 131 = .ok (.return_, 1) := by decide +kernel
theorem dX1_line_0 : decode cX1_line 0 = .ok (.aload_n 0, 1) := by decide +kernel
theorem dX1_line_1 : decode cX1_line 1 = .ok (.iconst 1, 1) := by decide +kernel
theorem dX1_line_2 : decode cX1_line 2 = .ok (.invokevirtual 63, 3) := by decide +kernel
theorem dX1_line_5 : decode cX1_line 5 = .ok (.ifCond .ne 5, 3) := by decide +kernel
theorem dX1_line_8 : decode cX1_line 8 = .ok (.iconst 0, 1) := by decide +kernel
theorem dX1_line_9 : decode cX1_line 9 = .ok (.ireturn, 1) := by decide +kernel
theorem dX1_line_10 : decode cX1_line 10 = .ok (.aload_n 0, 1) := by decide +kernel
theorem dX1_line_11 : decode cX1_line 11 = .ok (.invokevirtual 67, 3) := by decide +kernel
theorem dX1_line_14 : decode cX1_line 14 = .ok (.istore_n 1, 1) := by decide +kernel
theorem dX1_line_15 : decode cX1_line 15 = .ok (.iload_n 1, 1) := by decide +kernel
theorem dX1_line_16 : decode cX1_line 16 = .ok (.iconst (-1), 1) := by decide +kernel
theorem dX1_line_17 : decode cX1_line 17 = .ok (.if_icmp .eq 9, 3) := by decide +kernel
theorem dX1_line_20 : decode cX1_line 20 = .ok (.aload_n 0, 1) := by decide +kernel
theorem dX1_line_21 : decode cX1_line 21 = .ok (.iload_n 1, 1) := by decide +kernel
theorem dX1_line_22 : decode cX1_line 22 = .ok (.invokevirtual 70, 3) := by decide +kernel
theorem dX1_line_25 : decode cX1_line 25 = .ok (.ireturn, 1) := by decide +kernel
theorem dX1_line_26 : decode cX1_line 26 = .ok (.aload_n 0, 1) := by decide +kernel
theorem dX1_line_27 : decode cX1_line 27 = .ok (.getfield 18, 3) := by decide +kernel
theorem dX1_line_30 : decode cX1_line 30 = .ok (.ldc 73, 2) := by decide +kernel
theorem dX1_line_32 : decode cX1_line 32 = .ok (.invokevirtual 75, 3) := by decide +kernel
theorem dX1_line_35 : decode cX1_line 35 = .ok (.ifCond .eq 8, 3) := by decide +kernel
theorem dX1_line_38 : decode cX1_line 38 = .ok (.aload_n 0, 1) := by decide +kernel
theorem dX1_line_39 : decode cX1_line 39 = .ok (.invokevirtual 79, 3) := by decide +kernel
theorem dX1_line_42 : decode cX1_line 42 = .ok (.ireturn, 1) := by decide +kernel
theorem dX1_line_43 : decode cX1_line 43 = .ok (.aload_n 0, 1) := by decide +kernel
theorem dX1_line_44 : decode cX1_line 44 = .ok (.getfield 18, 3) := by decide +kernel
theorem dX1_line_47 : decode cX1_line 47 = .ok (.ldc 82, 2) := by decide +kernel
theorem dX1_line_49 : decode cX1_line 49 = .ok (.invokevirtual 75, 3) := by decide +kernel
theorem dX1_line_52 : decode cX1_line 52 = .ok (.ifCond .eq 8, 3) := by decide +kernel
theorem dX1_line_55 : decode cX1_line 55 = .ok (.aload_n 0, 1) := by decide +kernel
theorem dX1_line_56 : decode cX1_line 56 = .ok (.invokevirtual 84, 3) := by decide +kernel
theorem dX1_line_59 : decode cX1_line 59 = .ok (.ireturn, 1) := by decide +kernel
theorem dX1_line_60 : decode cX1_line 60 = .ok (.aload_n 0, 1) := by decide +kernel
theorem dX1_line_61 : decode cX1_line 61 = .ok (.getfield 18, 3) := by decide +kernel
theorem dX1_line_64 : decode cX1_line 64 = .ok (.ldc 87, 2) := by decide +kernel
theorem dX1_line_66 : decode cX1_line 66 = .ok (.invokevirtual 75, 3) := by decide +kernel
theorem dX1_line_69 : decode cX1_line 69 = .ok (.ifCond .eq 8, 3) := by decide +kernel
theorem dX1_line_72 : decode cX1_line 72 = .ok (.aload_n 0, 1) := by decide +kernel
theorem dX1_line_73 : decode cX1_line 73 = .ok (.invokevirtual 89, 3) := by decide +kernel
theorem dX1_line_76 : decode cX1_line 76 = .ok (.ireturn, 1) := by decide +kernel
theorem dX1_line_77 : decode cX1_line 77 = .ok (.aload_n 0, 1) := by decide +kernel
theorem dX1_line_78 : decode cX1_line 78 = .ok (.getfield 18, 3) := by decide +kernel
theorem dX1_line_81 : decode cX1_line 81 = .ok (.ldc 92, 2) := by decide +kernel
theorem dX1_line_83 : decode cX1_line 83 = .ok (.invokevirtual 75, 3) := by decide +kernel
theorem dX1_line_86 : decode cX1_line 86 = .ok (.ifCond .eq 10, 3) := by decide +kernel
theorem dX1_line_89 : decode cX1_line 89 = .ok (.aload_n 0, 1) := by decide +kernel
theorem dX1_line_90 : decode cX1_line 90 = .ok (.invokevirtual 94, 3) := by decide +kernel
theorem dX1_line_93 : decode cX1_line 93 = .ok (.goto 8, 3) := by decide +kernel
theorem dX1_line_96 : decode cX1_line 96 = .ok (.aload_n 0, 1) := by decide +kernel
theorem dX1_line_97 : decode cX1_line 97 = .ok (.iconst 2, 1) := by decide +kernel
theorem dX1_line_98 : decode cX1_line 98 = .ok (.invokevirtual 97, 3) := by decide +kernel
theorem dX1_line_101 : decode cX1_line 101 = .ok (.ireturn, 1) := by decide +kernel
theorem dX1_kindNamed_0 : decode cX1_kindNamed 0 = .ok (.aload_n 0, 1) := by decide +kernel
theorem dX1_kindNamed_1 : decode cX1_kindNamed 1 = .ok (.getfield 18, 3) := by decide +kernel
theorem dX1_kindNamed_4 : decode cX1_kindNamed 4 = .ok (.ldc 100, 2) := by decide +kernel
theorem dX1_kindNamed_6 : decode cX1_kindNamed 6 = .ok (.invokevirtual 75, 3) := by decide +kernel
theorem dX1_kindNamed_9 : decode cX1_kindNamed 9 = .ok (.ifCond .eq 5, 3) := by decide +kernel
theorem dX1_kindNamed_12 : decode cX1_kindNamed 12 = .ok (.iconst 0, 1) := by decide +kernel
theorem dX1_kindNamed_13 : decode cX1_kindNamed 13 = .ok (.ireturn, 1) := by decide +kernel
theorem dX1_kindNamed_14 : decode cX1_kindNamed 14 = .ok (.aload_n 0, 1) := by decide +kernel
theorem dX1_kindNamed_15 : decode cX1_kindNamed 15 = .ok (.getfield 18, 3) := by decide +kernel
theorem dX1_kindNamed_18 : decode cX1_kindNamed 18 = .ok (.ldc 102, 2) := by decide +kernel
theorem dX1_kindNamed_20 : decode cX1_kindNamed 20 = .ok (.invokevirtual 75, 3) := by decide +kernel
theorem dX1_kindNamed_23 : decode cX1_kindNamed 23 = .ok (.ifCond .eq 5, 3) := by decide +kernel
theorem dX1_kindNamed_26 : decode cX1_kindNamed 26 = .ok (.iconst 1, 1) := by decide +kernel
theorem dX1_kindNamed_27 : decode cX1_kindNamed 27 = .ok (.ireturn, 1) := by decide +kernel
theorem dX1_kindNamed_28 : decode cX1_kindNamed 28 = .ok (.aload_n 0, 1) := by decide +kernel
theorem dX1_kindNamed_29 : decode cX1_kindNamed 29 = .ok (.getfield 18, 3) := by decide +kernel
theorem dX1_kindNamed_32 : decode cX1_kindNamed 32 = .ok (.ldc 104, 2) := by decide +kernel
theorem dX1_kindNamed_34 : decode cX1_kindNamed 34 = .ok (.invokevirtual 75, 3) := by decide +kernel
theorem dX1_kindNamed_37 : decode cX1_kindNamed 37 = .ok (.ifCond .eq 5, 3) := by decide +kernel
theorem dX1_kindNamed_40 : decode cX1_kindNamed 40 = .ok (.iconst 2, 1) := by decide +kernel
theorem dX1_kindNamed_41 : decode cX1_kindNamed 41 = .ok (.ireturn, 1) := by decide +kernel
theorem dX1_kindNamed_42 : decode cX1_kindNamed 42 = .ok (.aload_n 0, 1) := by decide +kernel
theorem dX1_kindNamed_43 : decode cX1_kindNamed 43 = .ok (.getfield 18, 3) := by decide +kernel
theorem dX1_kindNamed_46 : decode cX1_kindNamed 46 = .ok (.ldc 106, 2) := by decide +kernel
theorem dX1_kindNamed_48 : decode cX1_kindNamed 48 = .ok (.invokevirtual 75, 3) := by decide +kernel
theorem dX1_kindNamed_51 : decode cX1_kindNamed 51 = .ok (.ifCond .eq 7, 3) := by decide +kernel
theorem dX1_kindNamed_54 : decode cX1_kindNamed 54 = .ok (.iconst 3, 1) := by decide +kernel
theorem dX1_kindNamed_55 : decode cX1_kindNamed 55 = .ok (.goto 4, 3) := by decide +kernel
theorem dX1_kindNamed_58 : decode cX1_kindNamed 58 = .ok (.iconst (-1), 1) := by decide +kernel
theorem dX1_kindNamed_59 : decode cX1_kindNamed 59 = .ok (.ireturn, 1) := by decide +kernel
theorem dX1_handLine_0 : decode cX1_handLine 0 = .ok (.aload_n 0, 1) := by decide +kernel
theorem dX1_handLine_1 : decode cX1_handLine 1 = .ok (.iconst 1, 1) := by decide +kernel
theorem dX1_handLine_2 : decode cX1_handLine 2 = .ok (.invokevirtual 108, 3) := by decide +kernel
theorem dX1_handLine_5 : decode cX1_handLine 5 = .ok (.ifCond .ne 5, 3) := by decide +kernel
theorem dX1_handLine_8 : decode cX1_handLine 8 = .ok (.iconst 0, 1) := by decide +kernel
theorem dX1_handLine_9 : decode cX1_handLine 9 = .ok (.ireturn, 1) := by decide +kernel
theorem dX1_handLine_10 : decode cX1_handLine 10 = .ok (.aload_n 0, 1) := by decide +kernel
theorem dX1_handLine_11 : decode cX1_handLine 11 = .ok (.getfield 18, 3) := by decide +kernel
theorem dX1_handLine_14 : decode cX1_handLine 14 = .ok (.ldc 111, 2) := by decide +kernel
theorem dX1_handLine_16 : decode cX1_handLine 16 = .ok (.invokevirtual 75, 3) := by decide +kernel
theorem dX1_handLine_19 : decode cX1_handLine 19 = .ok (.istore_n 2, 1) := by decide +kernel
theorem dX1_handLine_20 : decode cX1_handLine 20 = .ok (.iload_n 2, 1) := by decide +kernel
theorem dX1_handLine_21 : decode cX1_handLine 21 = .ok (.ifCond .ne 21, 3) := by decide +kernel
theorem dX1_handLine_24 : decode cX1_handLine 24 = .ok (.aload_n 0, 1) := by decide +kernel
theorem dX1_handLine_25 : decode cX1_handLine 25 = .ok (.getfield 18, 3) := by decide +kernel
theorem dX1_handLine_28 : decode cX1_handLine 28 = .ok (.ldc 113, 2) := by decide +kernel
theorem dX1_handLine_30 : decode cX1_handLine 30 = .ok (.invokevirtual 75, 3) := by decide +kernel
theorem dX1_handLine_33 : decode cX1_handLine 33 = .ok (.ifCond .ne 9, 3) := by decide +kernel
theorem dX1_handLine_36 : decode cX1_handLine 36 = .ok (.aload_n 0, 1) := by decide +kernel
theorem dX1_handLine_37 : decode cX1_handLine 37 = .ok (.iconst 2, 1) := by decide +kernel
theorem dX1_handLine_38 : decode cX1_handLine 38 = .ok (.invokevirtual 97, 3) := by decide +kernel
theorem dX1_handLine_41 : decode cX1_handLine 41 = .ok (.ireturn, 1) := by decide +kernel
theorem dX1_handLine_42 : decode cX1_handLine 42 = .ok (.iload_n 2, 1) := by decide +kernel
theorem dX1_handLine_43 : decode cX1_handLine 43 = .ok (.ifCond .eq 7, 3) := by decide +kernel
theorem dX1_handLine_46 : decode cX1_handLine 46 = .ok (.iconst 0, 1) := by decide +kernel
theorem dX1_handLine_47 : decode cX1_handLine 47 = .ok (.goto 4, 3) := by decide +kernel
theorem dX1_handLine_50 : decode cX1_handLine 50 = .ok (.iconst 1, 1) := by decide +kernel
theorem dX1_handLine_51 : decode cX1_handLine 51 = .ok (.istore_n 3, 1) := by decide +kernel
theorem dX1_handLine_52 : decode cX1_handLine 52 = .ok (.aload_n 0, 1) := by decide +kernel
theorem dX1_handLine_53 : decode cX1_handLine 53 = .ok (.getfield 12, 3) := by decide +kernel
theorem dX1_handLine_56 : decode cX1_handLine 56 = .ok (.iload_n 3, 1) := by decide +kernel
theorem dX1_handLine_57 : decode cX1_handLine 57 = .ok (.invokevirtual 115, 3) := by decide +kernel
theorem dX1_handLine_60 : decode cX1_handLine 60 = .ok (.ifCond .eq 9, 3) := by decide +kernel
theorem dX1_handLine_63 : decode cX1_handLine 63 = .ok (.aload_n 0, 1) := by decide +kernel
theorem dX1_handLine_64 : decode cX1_handLine 64 = .ok (.iconst 5, 1) := by decide +kernel
theorem dX1_handLine_65 : decode cX1_handLine 65 = .ok (.invokevirtual 97, 3) := by decide +kernel
theorem dX1_handLine_68 : decode cX1_handLine 68 = .ok (.ireturn, 1) := by decide +kernel
theorem dX1_handLine_69 : decode cX1_handLine 69 = .ok (.aload_n 0, 1) := by decide +kernel
theorem dX1_handLine_70 : decode cX1_handLine 70 = .ok (.iconst 0, 1) := by decide +kernel
theorem dX1_handLine_71 : decode cX1_handLine 71 = .ok (.bipush 9, 2) := by decide +kernel
theorem dX1_handLine_73 : decode cX1_handLine 73 = .ok (.invokevirtual 118, 3) := by decide +kernel
theorem dX1_handLine_76 : decode cX1_handLine 76 = .ok (.istore 4, 2) := by decide +kernel
theorem dX1_handLine_78 : decode cX1_handLine 78 = .ok (.iload 4, 2) := by decide +kernel
theorem dX1_handLine_80 : decode cX1_handLine 80 = .ok (.iconst (-1), 1) := by decide +kernel
theorem dX1_handLine_81 : decode cX1_handLine 81 = .ok (.if_icmp .ne 7, 3) := by decide +kernel
theorem dX1_handLine_84 : decode cX1_handLine 84 = .ok (.iconst (-1), 1) := by decide +kernel
theorem dX1_handLine_85 : decode cX1_handLine 85 = .ok (.goto 10, 3) := by decide +kernel
theorem dX1_handLine_88 : decode cX1_handLine 88 = .ok (.aload_n 0, 1) := by decide +kernel
theorem dX1_handLine_89 : decode cX1_handLine 89 = .ok (.iconst 0, 1) := by decide +kernel
theorem dX1_handLine_90 : decode cX1_handLine 90 = .ok (.bipush 9, 2) := by decide +kernel
theorem dX1_handLine_92 : decode cX1_handLine 92 = .ok (.invokevirtual 118, 3) := by decide +kernel
theorem dX1_handLine_95 : decode cX1_handLine 95 = .ok (.istore 5, 2) := by decide +kernel
theorem dX1_handLine_97 : decode cX1_handLine 97 = .ok (.iload 5, 2) := by decide +kernel
theorem dX1_handLine_99 : decode cX1_handLine 99 = .ok (.iconst (-1), 1) := by decide +kernel
theorem dX1_handLine_100 : decode cX1_handLine 100 = .ok (.if_icmp .ne 7, 3) := by decide +kernel
theorem dX1_handLine_103 : decode cX1_handLine 103 = .ok (.iconst (-1), 1) := by decide +kernel
theorem dX1_handLine_104 : decode cX1_handLine 104 = .ok (.goto 9, 3) := by decide +kernel
theorem dX1_handLine_107 : decode cX1_handLine 107 = .ok (.aload_n 0, 1) := by decide +kernel
theorem dX1_handLine_108 : decode cX1_handLine 108 = .ok (.iconst 0, 1) := by decide +kernel
theorem dX1_handLine_109 : decode cX1_handLine 109 = .ok (.iconst 2, 1) := by decide +kernel
theorem dX1_handLine_110 : decode cX1_handLine 110 = .ok (.invokevirtual 118, 3) := by decide +kernel
theorem dX1_handLine_113 : decode cX1_handLine 113 = .ok (.istore 6, 2) := by decide +kernel
theorem dX1_handLine_115 : decode cX1_handLine 115 = .ok (.iload 6, 2) := by decide +kernel
theorem dX1_handLine_117 : decode cX1_handLine 117 = .ok (.iconst (-1), 1) := by decide +kernel
theorem dX1_handLine_118 : decode cX1_handLine 118 = .ok (.if_icmp .ne 5, 3) := by decide +kernel
theorem dX1_handLine_121 : decode cX1_handLine 121 = .ok (.iconst 0, 1) := by decide +kernel
theorem dX1_handLine_122 : decode cX1_handLine 122 = .ok (.ireturn, 1) := by decide +kernel
theorem dX1_handLine_123 : decode cX1_handLine 123 = .ok (.aload_n 0, 1) := by decide +kernel
theorem dX1_handLine_124 : decode cX1_handLine 124 = .ok (.getfield 12, 3) := by decide +kernel
theorem dX1_handLine_127 : decode cX1_handLine 127 = .ok (.iload_n 3, 1) := by decide +kernel
theorem dX1_handLine_128 : decode cX1_handLine 128 = .ok (.iload_n 1, 1) := by decide +kernel
theorem dX1_handLine_129 : decode cX1_handLine 129 = .ok (.iload 4, 2) := by decide +kernel
theorem dX1_handLine_131 : decode cX1_handLine 131 = .ok (.iload 5, 2) := by decide +kernel
theorem dX1_handLine_133 : decode cX1_handLine 133 = .ok (.iload 6, 2) := by decide +kernel
theorem dX1_handLine_135 : decode cX1_handLine 135 = .ok (.invokevirtual 122, 3) := by decide +kernel
theorem dX1_handLine_138 : decode cX1_handLine 138 = .ok (.aload_n 0, 1) := by decide +kernel
theorem dX1_handLine_139 : decode cX1_handLine 139 = .ok (.iconst 3, 1) := by decide +kernel
theorem dX1_handLine_140 : decode cX1_handLine 140 = .ok (.invokevirtual 108, 3) := by decide +kernel
theorem dX1_handLine_143 : decode cX1_handLine 143 = .ok (.ireturn, 1) := by decide +kernel
theorem dX1_penLine_0 : decode cX1_penLine 0 = .ok (.aload_n 0, 1) := by decide +kernel
theorem dX1_penLine_1 : decode cX1_penLine 1 = .ok (.iconst 0, 1) := by decide +kernel
theorem dX1_penLine_2 : decode cX1_penLine 2 = .ok (.bipush 7, 2) := by decide +kernel
theorem dX1_penLine_4 : decode cX1_penLine 4 = .ok (.invokevirtual 118, 3) := by decide +kernel
theorem dX1_penLine_7 : decode cX1_penLine 7 = .ok (.istore_n 1, 1) := by decide +kernel
theorem dX1_penLine_8 : decode cX1_penLine 8 = .ok (.iload_n 1, 1) := by decide +kernel
theorem dX1_penLine_9 : decode cX1_penLine 9 = .ok (.iconst (-1), 1) := by decide +kernel
theorem dX1_penLine_10 : decode cX1_penLine 10 = .ok (.if_icmp .ne 5, 3) := by decide +kernel
theorem dX1_penLine_13 : decode cX1_penLine 13 = .ok (.iconst 0, 1) := by decide +kernel
theorem dX1_penLine_14 : decode cX1_penLine 14 = .ok (.ireturn, 1) := by decide +kernel
theorem dX1_penLine_15 : decode cX1_penLine 15 = .ok (.aload_n 0, 1) := by decide +kernel
theorem dX1_penLine_16 : decode cX1_penLine 16 = .ok (.getfield 35, 3) := by decide +kernel
theorem dX1_penLine_19 : decode cX1_penLine 19 = .ok (.iload_n 1, 1) := by decide +kernel
theorem dX1_penLine_20 : decode cX1_penLine 20 = .ok (.ishr, 1) := by decide +kernel
theorem dX1_penLine_21 : decode cX1_penLine 21 = .ok (.iconst 1, 1) := by decide +kernel
theorem dX1_penLine_22 : decode cX1_penLine 22 = .ok (.iand, 1) := by decide +kernel
theorem dX1_penLine_23 : decode cX1_penLine 23 = .ok (.iconst 1, 1) := by decide +kernel
theorem dX1_penLine_24 : decode cX1_penLine 24 = .ok (.if_icmp .ne 9, 3) := by decide +kernel
theorem dX1_penLine_27 : decode cX1_penLine 27 = .ok (.aload_n 0, 1) := by decide +kernel
theorem dX1_penLine_28 : decode cX1_penLine 28 = .ok (.iconst 4, 1) := by decide +kernel
theorem dX1_penLine_29 : decode cX1_penLine 29 = .ok (.invokevirtual 97, 3) := by decide +kernel
theorem dX1_penLine_32 : decode cX1_penLine 32 = .ok (.ireturn, 1) := by decide +kernel
theorem dX1_penLine_33 : decode cX1_penLine 33 = .ok (.aload_n 0, 1) := by decide +kernel
theorem dX1_penLine_34 : decode cX1_penLine 34 = .ok (.iconst 0, 1) := by decide +kernel
theorem dX1_penLine_35 : decode cX1_penLine 35 = .ok (.bipush 7, 2) := by decide +kernel
theorem dX1_penLine_37 : decode cX1_penLine 37 = .ok (.invokevirtual 118, 3) := by decide +kernel
theorem dX1_penLine_40 : decode cX1_penLine 40 = .ok (.istore_n 2, 1) := by decide +kernel
theorem dX1_penLine_41 : decode cX1_penLine 41 = .ok (.iload_n 2, 1) := by decide +kernel
theorem dX1_penLine_42 : decode cX1_penLine 42 = .ok (.iconst (-1), 1) := by decide +kernel
theorem dX1_penLine_43 : decode cX1_penLine 43 = .ok (.if_icmp .ne 5, 3) := by decide +kernel
theorem dX1_penLine_46 : decode cX1_penLine 46 = .ok (.iconst 0, 1) := by decide +kernel
theorem dX1_penLine_47 : decode cX1_penLine 47 = .ok (.ireturn, 1) := by decide +kernel
theorem dX1_penLine_48 : decode cX1_penLine 48 = .ok (.aload_n 0, 1) := by decide +kernel
theorem dX1_penLine_49 : decode cX1_penLine 49 = .ok (.dup, 1) := by decide +kernel
theorem dX1_penLine_50 : decode cX1_penLine 50 = .ok (.getfield 35, 3) := by decide +kernel
theorem dX1_penLine_53 : decode cX1_penLine 53 = .ok (.iconst 1, 1) := by decide +kernel
theorem dX1_penLine_54 : decode cX1_penLine 54 = .ok (.iload_n 1, 1) := by decide +kernel
theorem dX1_penLine_55 : decode cX1_penLine 55 = .ok (.ishl, 1) := by decide +kernel
theorem dX1_penLine_56 : decode cX1_penLine 56 = .ok (.ior, 1) := by decide +kernel
theorem dX1_penLine_57 : decode cX1_penLine 57 = .ok (.putfield 35, 3) := by decide +kernel
theorem dX1_penLine_60 : decode cX1_penLine 60 = .ok (.aload_n 0, 1) := by decide +kernel
theorem dX1_penLine_61 : decode cX1_penLine 61 = .ok (.getfield 12, 3) := by decide +kernel
theorem dX1_penLine_64 : decode cX1_penLine 64 = .ok (.getfield 126, 3) := by decide +kernel
theorem dX1_penLine_67 : decode cX1_penLine 67 = .ok (.iload_n 1, 1) := by decide +kernel
theorem dX1_penLine_68 : decode cX1_penLine 68 = .ok (.iload_n 2, 1) := by decide +kernel
theorem dX1_penLine_69 : decode cX1_penLine 69 = .ok (.iastore, 1) := by decide +kernel
theorem dX1_penLine_70 : decode cX1_penLine 70 = .ok (.aload_n 0, 1) := by decide +kernel
theorem dX1_penLine_71 : decode cX1_penLine 71 = .ok (.iconst 3, 1) := by decide +kernel
theorem dX1_penLine_72 : decode cX1_penLine 72 = .ok (.invokevirtual 108, 3) := by decide +kernel
theorem dX1_penLine_75 : decode cX1_penLine 75 = .ok (.ireturn, 1) := by decide +kernel
theorem dX1_runLine_0 : decode cX1_runLine 0 = .ok (.aload_n 0, 1) := by decide +kernel
theorem dX1_runLine_1 : decode cX1_runLine 1 = .ok (.iconst 0, 1) := by decide +kernel
theorem dX1_runLine_2 : decode cX1_runLine 2 = .ok (.bipush 7, 2) := by decide +kernel
theorem dX1_runLine_4 : decode cX1_runLine 4 = .ok (.invokevirtual 118, 3) := by decide +kernel
theorem dX1_runLine_7 : decode cX1_runLine 7 = .ok (.istore_n 1, 1) := by decide +kernel
theorem dX1_runLine_8 : decode cX1_runLine 8 = .ok (.iload_n 1, 1) := by decide +kernel
theorem dX1_runLine_9 : decode cX1_runLine 9 = .ok (.iconst (-1), 1) := by decide +kernel
theorem dX1_runLine_10 : decode cX1_runLine 10 = .ok (.if_icmp .ne 5, 3) := by decide +kernel
theorem dX1_runLine_13 : decode cX1_runLine 13 = .ok (.iconst 0, 1) := by decide +kernel
theorem dX1_runLine_14 : decode cX1_runLine 14 = .ok (.ireturn, 1) := by decide +kernel
theorem dX1_runLine_15 : decode cX1_runLine 15 = .ok (.aload_n 0, 1) := by decide +kernel
theorem dX1_runLine_16 : decode cX1_runLine 16 = .ok (.getfield 12, 3) := by decide +kernel
theorem dX1_runLine_19 : decode cX1_runLine 19 = .ok (.iload_n 1, 1) := by decide +kernel
theorem dX1_runLine_20 : decode cX1_runLine 20 = .ok (.invokevirtual 129, 3) := by decide +kernel
theorem dX1_runLine_23 : decode cX1_runLine 23 = .ok (.ifCond .eq 9, 3) := by decide +kernel
theorem dX1_runLine_26 : decode cX1_runLine 26 = .ok (.aload_n 0, 1) := by decide +kernel
theorem dX1_runLine_27 : decode cX1_runLine 27 = .ok (.iconst 4, 1) := by decide +kernel
theorem dX1_runLine_28 : decode cX1_runLine 28 = .ok (.invokevirtual 97, 3) := by decide +kernel
theorem dX1_runLine_31 : decode cX1_runLine 31 = .ok (.ireturn, 1) := by decide +kernel
theorem dX1_runLine_32 : decode cX1_runLine 32 = .ok (.aload_n 0, 1) := by decide +kernel
theorem dX1_runLine_33 : decode cX1_runLine 33 = .ok (.getfield 12, 3) := by decide +kernel
theorem dX1_runLine_36 : decode cX1_runLine 36 = .ok (.iload_n 1, 1) := by decide +kernel
theorem dX1_runLine_37 : decode cX1_runLine 37 = .ok (.iconst 1, 1) := by decide +kernel
theorem dX1_runLine_38 : decode cX1_runLine 38 = .ok (.invokevirtual 132, 3) := by decide +kernel
theorem dX1_runLine_41 : decode cX1_runLine 41 = .ok (.aload_n 0, 1) := by decide +kernel
theorem dX1_runLine_42 : decode cX1_runLine 42 = .ok (.iconst 3, 1) := by decide +kernel
theorem dX1_runLine_43 : decode cX1_runLine 43 = .ok (.invokevirtual 108, 3) := by decide +kernel
theorem dX1_runLine_46 : decode cX1_runLine 46 = .ok (.ireturn, 1) := by decide +kernel
theorem dX1_foldLine_0 : decode cX1_foldLine 0 = .ok (.aload_n 0, 1) := by decide +kernel
theorem dX1_foldLine_1 : decode cX1_foldLine 1 = .ok (.iconst 0, 1) := by decide +kernel
theorem dX1_foldLine_2 : decode cX1_foldLine 2 = .ok (.iconst 3, 1) := by decide +kernel
theorem dX1_foldLine_3 : decode cX1_foldLine 3 = .ok (.invokevirtual 118, 3) := by decide +kernel
theorem dX1_foldLine_6 : decode cX1_foldLine 6 = .ok (.istore_n 1, 1) := by decide +kernel
theorem dX1_foldLine_7 : decode cX1_foldLine 7 = .ok (.iload_n 1, 1) := by decide +kernel
theorem dX1_foldLine_8 : decode cX1_foldLine 8 = .ok (.iconst (-1), 1) := by decide +kernel
theorem dX1_foldLine_9 : decode cX1_foldLine 9 = .ok (.if_icmp .ne 7, 3) := by decide +kernel
theorem dX1_foldLine_12 : decode cX1_foldLine 12 = .ok (.iconst (-1), 1) := by decide +kernel
theorem dX1_foldLine_13 : decode cX1_foldLine 13 = .ok (.goto 10, 3) := by decide +kernel
theorem dX1_foldLine_16 : decode cX1_foldLine 16 = .ok (.aload_n 0, 1) := by decide +kernel
theorem dX1_foldLine_17 : decode cX1_foldLine 17 = .ok (.iconst 4, 1) := by decide +kernel
theorem dX1_foldLine_18 : decode cX1_foldLine 18 = .ok (.bipush 7, 2) := by decide +kernel
theorem dX1_foldLine_20 : decode cX1_foldLine 20 = .ok (.invokevirtual 118, 3) := by decide +kernel
theorem dX1_foldLine_23 : decode cX1_foldLine 23 = .ok (.istore_n 2, 1) := by decide +kernel
theorem dX1_foldLine_24 : decode cX1_foldLine 24 = .ok (.iload_n 2, 1) := by decide +kernel
theorem dX1_foldLine_25 : decode cX1_foldLine 25 = .ok (.iconst (-1), 1) := by decide +kernel
theorem dX1_foldLine_26 : decode cX1_foldLine 26 = .ok (.if_icmp .ne 5, 3) := by decide +kernel
theorem dX1_foldLine_29 : decode cX1_foldLine 29 = .ok (.iconst 0, 1) := by decide +kernel
theorem dX1_foldLine_30 : decode cX1_foldLine 30 = .ok (.ireturn, 1) := by decide +kernel
theorem dX1_foldLine_31 : decode cX1_foldLine 31 = .ok (.aload_n 0, 1) := by decide +kernel
theorem dX1_foldLine_32 : decode cX1_foldLine 32 = .ok (.getfield 12, 3) := by decide +kernel
theorem dX1_foldLine_35 : decode cX1_foldLine 35 = .ok (.iload_n 1, 1) := by decide +kernel
theorem dX1_foldLine_36 : decode cX1_foldLine 36 = .ok (.iload_n 2, 1) := by decide +kernel
theorem dX1_foldLine_37 : decode cX1_foldLine 37 = .ok (.invokevirtual 136, 3) := by decide +kernel
theorem dX1_foldLine_40 : decode cX1_foldLine 40 = .ok (.ifCond .eq 9, 3) := by decide +kernel
theorem dX1_foldLine_43 : decode cX1_foldLine 43 = .ok (.aload_n 0, 1) := by decide +kernel
theorem dX1_foldLine_44 : decode cX1_foldLine 44 = .ok (.iconst 4, 1) := by decide +kernel
theorem dX1_foldLine_45 : decode cX1_foldLine 45 = .ok (.invokevirtual 97, 3) := by decide +kernel
theorem dX1_foldLine_48 : decode cX1_foldLine 48 = .ok (.ireturn, 1) := by decide +kernel
theorem dX1_foldLine_49 : decode cX1_foldLine 49 = .ok (.aload_n 0, 1) := by decide +kernel
theorem dX1_foldLine_50 : decode cX1_foldLine 50 = .ok (.getfield 12, 3) := by decide +kernel
theorem dX1_foldLine_53 : decode cX1_foldLine 53 = .ok (.iload_n 1, 1) := by decide +kernel
theorem dX1_foldLine_54 : decode cX1_foldLine 54 = .ok (.iload_n 2, 1) := by decide +kernel
theorem dX1_foldLine_55 : decode cX1_foldLine 55 = .ok (.iconst 1, 1) := by decide +kernel
theorem dX1_foldLine_56 : decode cX1_foldLine 56 = .ok (.invokevirtual 140, 3) := by decide +kernel
theorem dX1_foldLine_59 : decode cX1_foldLine 59 = .ok (.aload_n 0, 1) := by decide +kernel
theorem dX1_foldLine_60 : decode cX1_foldLine 60 = .ok (.iconst 3, 1) := by decide +kernel
theorem dX1_foldLine_61 : decode cX1_foldLine 61 = .ok (.invokevirtual 108, 3) := by decide +kernel
theorem dX1_foldLine_64 : decode cX1_foldLine 64 = .ok (.ireturn, 1) := by decide +kernel
theorem dX1_wedLine_0 : decode cX1_wedLine 0 = .ok (.aload_n 0, 1) := by decide +kernel
theorem dX1_wedLine_1 : decode cX1_wedLine 1 = .ok (.iconst 0, 1) := by decide +kernel
theorem dX1_wedLine_2 : decode cX1_wedLine 2 = .ok (.iconst 3, 1) := by decide +kernel
theorem dX1_wedLine_3 : decode cX1_wedLine 3 = .ok (.invokevirtual 118, 3) := by decide +kernel
theorem dX1_wedLine_6 : decode cX1_wedLine 6 = .ok (.istore_n 1, 1) := by decide +kernel
theorem dX1_wedLine_7 : decode cX1_wedLine 7 = .ok (.iload_n 1, 1) := by decide +kernel
theorem dX1_wedLine_8 : decode cX1_wedLine 8 = .ok (.iconst (-1), 1) := by decide +kernel
theorem dX1_wedLine_9 : decode cX1_wedLine 9 = .ok (.if_icmp .ne 5, 3) := by decide +kernel
theorem dX1_wedLine_12 : decode cX1_wedLine 12 = .ok (.iconst 0, 1) := by decide +kernel
theorem dX1_wedLine_13 : decode cX1_wedLine 13 = .ok (.ireturn, 1) := by decide +kernel
theorem dX1_wedLine_14 : decode cX1_wedLine 14 = .ok (.aload_n 0, 1) := by decide +kernel
theorem dX1_wedLine_15 : decode cX1_wedLine 15 = .ok (.getfield 12, 3) := by decide +kernel
theorem dX1_wedLine_18 : decode cX1_wedLine 18 = .ok (.iload_n 1, 1) := by decide +kernel
theorem dX1_wedLine_19 : decode cX1_wedLine 19 = .ok (.invokevirtual 144, 3) := by decide +kernel
theorem dX1_wedLine_22 : decode cX1_wedLine 22 = .ok (.ifCond .eq 9, 3) := by decide +kernel
theorem dX1_wedLine_25 : decode cX1_wedLine 25 = .ok (.aload_n 0, 1) := by decide +kernel
theorem dX1_wedLine_26 : decode cX1_wedLine 26 = .ok (.iconst 4, 1) := by decide +kernel
theorem dX1_wedLine_27 : decode cX1_wedLine 27 = .ok (.invokevirtual 97, 3) := by decide +kernel
theorem dX1_wedLine_30 : decode cX1_wedLine 30 = .ok (.ireturn, 1) := by decide +kernel
theorem dX1_wedLine_31 : decode cX1_wedLine 31 = .ok (.aload_n 0, 1) := by decide +kernel
theorem dX1_wedLine_32 : decode cX1_wedLine 32 = .ok (.iconst 4, 1) := by decide +kernel
theorem dX1_wedLine_33 : decode cX1_wedLine 33 = .ok (.bipush 7, 2) := by decide +kernel
theorem dX1_wedLine_35 : decode cX1_wedLine 35 = .ok (.invokevirtual 118, 3) := by decide +kernel
theorem dX1_wedLine_38 : decode cX1_wedLine 38 = .ok (.istore_n 2, 1) := by decide +kernel
theorem dX1_wedLine_39 : decode cX1_wedLine 39 = .ok (.iload_n 2, 1) := by decide +kernel
theorem dX1_wedLine_40 : decode cX1_wedLine 40 = .ok (.iconst (-1), 1) := by decide +kernel
theorem dX1_wedLine_41 : decode cX1_wedLine 41 = .ok (.if_icmp .ne 5, 3) := by decide +kernel
theorem dX1_wedLine_44 : decode cX1_wedLine 44 = .ok (.iconst 0, 1) := by decide +kernel
theorem dX1_wedLine_45 : decode cX1_wedLine 45 = .ok (.ireturn, 1) := by decide +kernel
theorem dX1_wedLine_46 : decode cX1_wedLine 46 = .ok (.aload_n 0, 1) := by decide +kernel
theorem dX1_wedLine_47 : decode cX1_wedLine 47 = .ok (.getfield 12, 3) := by decide +kernel
theorem dX1_wedLine_50 : decode cX1_wedLine 50 = .ok (.iload_n 2, 1) := by decide +kernel
theorem dX1_wedLine_51 : decode cX1_wedLine 51 = .ok (.invokevirtual 144, 3) := by decide +kernel
theorem dX1_wedLine_54 : decode cX1_wedLine 54 = .ok (.ifCond .eq 9, 3) := by decide +kernel
theorem dX1_wedLine_57 : decode cX1_wedLine 57 = .ok (.aload_n 0, 1) := by decide +kernel
theorem dX1_wedLine_58 : decode cX1_wedLine 58 = .ok (.iconst 4, 1) := by decide +kernel
theorem dX1_wedLine_59 : decode cX1_wedLine 59 = .ok (.invokevirtual 97, 3) := by decide +kernel
theorem dX1_wedLine_62 : decode cX1_wedLine 62 = .ok (.ireturn, 1) := by decide +kernel
theorem dX1_wedLine_63 : decode cX1_wedLine 63 = .ok (.aload_n 0, 1) := by decide +kernel
theorem dX1_wedLine_64 : decode cX1_wedLine 64 = .ok (.getfield 12, 3) := by decide +kernel
theorem dX1_wedLine_67 : decode cX1_wedLine 67 = .ok (.iload_n 1, 1) := by decide +kernel
theorem dX1_wedLine_68 : decode cX1_wedLine 68 = .ok (.iload_n 2, 1) := by decide +kernel
theorem dX1_wedLine_69 : decode cX1_wedLine 69 = .ok (.invokevirtual 147, 3) := by decide +kernel
theorem dX1_wedLine_72 : decode cX1_wedLine 72 = .ok (.aload_n 0, 1) := by decide +kernel
theorem dX1_wedLine_73 : decode cX1_wedLine 73 = .ok (.iconst 3, 1) := by decide +kernel
theorem dX1_wedLine_74 : decode cX1_wedLine 74 = .ok (.invokevirtual 108, 3) := by decide +kernel
theorem dX1_wedLine_77 : decode cX1_wedLine 77 = .ok (.ireturn, 1) := by decide +kernel
theorem dX1_namedBits_0 : decode cX1_namedBits 0 = .ok (.aload_n 0, 1) := by decide +kernel
theorem dX1_namedBits_1 : decode cX1_namedBits 1 = .ok (.getfield 35, 3) := by decide +kernel
theorem dX1_namedBits_4 : decode cX1_namedBits 4 = .ok (.aload_n 0, 1) := by decide +kernel
theorem dX1_namedBits_5 : decode cX1_namedBits 5 = .ok (.getfield 12, 3) := by decide +kernel
theorem dX1_namedBits_8 : decode cX1_namedBits 8 = .ok (.getfield 151, 3) := by decide +kernel
theorem dX1_namedBits_11 : decode cX1_namedBits 11 = .ok (.ior, 1) := by decide +kernel
theorem dX1_namedBits_12 : decode cX1_namedBits 12 = .ok (.aload_n 0, 1) := by decide +kernel
theorem dX1_namedBits_13 : decode cX1_namedBits 13 = .ok (.getfield 12, 3) := by decide +kernel
theorem dX1_namedBits_16 : decode cX1_namedBits 16 = .ok (.invokevirtual 154, 3) := by decide +kernel
theorem dX1_namedBits_19 : decode cX1_namedBits 19 = .ok (.ior, 1) := by decide +kernel
theorem dX1_namedBits_20 : decode cX1_namedBits 20 = .ok (.istore_n 1, 1) := by decide +kernel
theorem dX1_namedBits_21 : decode cX1_namedBits 21 = .ok (.iconst 0, 1) := by decide +kernel
theorem dX1_namedBits_22 : decode cX1_namedBits 22 = .ok (.istore_n 2, 1) := by decide +kernel
theorem dX1_namedBits_23 : decode cX1_namedBits 23 = .ok (.iload_n 2, 1) := by decide +kernel
theorem dX1_namedBits_24 : decode cX1_namedBits 24 = .ok (.bipush 8, 2) := by decide +kernel
theorem dX1_namedBits_26 : decode cX1_namedBits 26 = .ok (.if_icmp .ge 47, 3) := by decide +kernel
theorem dX1_namedBits_29 : decode cX1_namedBits 29 = .ok (.iload_n 1, 1) := by decide +kernel
theorem dX1_namedBits_30 : decode cX1_namedBits 30 = .ok (.aload_n 0, 1) := by decide +kernel
theorem dX1_namedBits_31 : decode cX1_namedBits 31 = .ok (.getfield 12, 3) := by decide +kernel
theorem dX1_namedBits_34 : decode cX1_namedBits 34 = .ok (.getfield 157, 3) := by decide +kernel
theorem dX1_namedBits_37 : decode cX1_namedBits 37 = .ok (.iload_n 2, 1) := by decide +kernel
theorem dX1_namedBits_38 : decode cX1_namedBits 38 = .ok (.iaload, 1) := by decide +kernel
theorem dX1_namedBits_39 : decode cX1_namedBits 39 = .ok (.ior, 1) := by decide +kernel
theorem dX1_namedBits_40 : decode cX1_namedBits 40 = .ok (.istore_n 1, 1) := by decide +kernel
theorem dX1_namedBits_41 : decode cX1_namedBits 41 = .ok (.aload_n 0, 1) := by decide +kernel
theorem dX1_namedBits_42 : decode cX1_namedBits 42 = .ok (.getfield 35, 3) := by decide +kernel
theorem dX1_namedBits_45 : decode cX1_namedBits 45 = .ok (.iload_n 2, 1) := by decide +kernel
theorem dX1_namedBits_46 : decode cX1_namedBits 46 = .ok (.ishr, 1) := by decide +kernel
theorem dX1_namedBits_47 : decode cX1_namedBits 47 = .ok (.iconst 1, 1) := by decide +kernel
theorem dX1_namedBits_48 : decode cX1_namedBits 48 = .ok (.iand, 1) := by decide +kernel
theorem dX1_namedBits_49 : decode cX1_namedBits 49 = .ok (.iconst 1, 1) := by decide +kernel
theorem dX1_namedBits_50 : decode cX1_namedBits 50 = .ok (.if_icmp .ne 17, 3) := by decide +kernel
theorem dX1_namedBits_53 : decode cX1_namedBits 53 = .ok (.iload_n 1, 1) := by decide +kernel
theorem dX1_namedBits_54 : decode cX1_namedBits 54 = .ok (.iconst 1, 1) := by decide +kernel
theorem dX1_namedBits_55 : decode cX1_namedBits 55 = .ok (.aload_n 0, 1) := by decide +kernel
theorem dX1_namedBits_56 : decode cX1_namedBits 56 = .ok (.getfield 12, 3) := by decide +kernel
theorem dX1_namedBits_59 : decode cX1_namedBits 59 = .ok (.getfield 126, 3) := by decide +kernel
theorem dX1_namedBits_62 : decode cX1_namedBits 62 = .ok (.iload_n 2, 1) := by decide +kernel
theorem dX1_namedBits_63 : decode cX1_namedBits 63 = .ok (.iaload, 1) := by decide +kernel
theorem dX1_namedBits_64 : decode cX1_namedBits 64 = .ok (.ishl, 1) := by decide +kernel
theorem dX1_namedBits_65 : decode cX1_namedBits 65 = .ok (.ior, 1) := by decide +kernel
theorem dX1_namedBits_66 : decode cX1_namedBits 66 = .ok (.istore_n 1, 1) := by decide +kernel
theorem dX1_namedBits_67 : decode cX1_namedBits 67 = .ok (.iinc 2 1, 3) := by decide +kernel
theorem dX1_namedBits_70 : decode cX1_namedBits 70 = .ok (.goto (-47), 3) := by decide +kernel
theorem dX1_namedBits_73 : decode cX1_namedBits 73 = .ok (.iload_n 1, 1) := by decide +kernel
theorem dX1_namedBits_74 : decode cX1_namedBits 74 = .ok (.ireturn, 1) := by decide +kernel
theorem dX1_number_0 : decode cX1_number 0 = .ok (.aload_n 0, 1) := by decide +kernel
theorem dX1_number_1 : decode cX1_number 1 = .ok (.getfield 18, 3) := by decide +kernel
theorem dX1_number_4 : decode cX1_number 4 = .ok (.invokevirtual 43, 3) := by decide +kernel
theorem dX1_number_7 : decode cX1_number 7 = .ok (.aload_n 0, 1) := by decide +kernel
theorem dX1_number_8 : decode cX1_number 8 = .ok (.iconst 2, 1) := by decide +kernel
theorem dX1_number_9 : decode cX1_number 9 = .ok (.invokevirtual 63, 3) := by decide +kernel
theorem dX1_number_12 : decode cX1_number 12 = .ok (.ifCond .ne 5, 3) := by decide +kernel
theorem dX1_number_15 : decode cX1_number 15 = .ok (.iconst (-1), 1) := by decide +kernel
theorem dX1_number_16 : decode cX1_number 16 = .ok (.ireturn, 1) := by decide +kernel
theorem dX1_number_17 : decode cX1_number 17 = .ok (.aload_n 0, 1) := by decide +kernel
theorem dX1_number_18 : decode cX1_number 18 = .ok (.getfield 18, 3) := by decide +kernel
theorem dX1_number_21 : decode cX1_number 21 = .ok (.getfield 160, 3) := by decide +kernel
theorem dX1_number_24 : decode cX1_number 24 = .ok (.iload_n 1, 1) := by decide +kernel
theorem dX1_number_25 : decode cX1_number 25 = .ok (.if_icmp .lt 14, 3) := by decide +kernel
theorem dX1_number_28 : decode cX1_number 28 = .ok (.aload_n 0, 1) := by decide +kernel
theorem dX1_number_29 : decode cX1_number 29 = .ok (.getfield 18, 3) := by decide +kernel
theorem dX1_number_32 : decode cX1_number 32 = .ok (.getfield 160, 3) := by decide +kernel
theorem dX1_number_35 : decode cX1_number 35 = .ok (.iload_n 2, 1) := by decide +kernel
theorem dX1_number_36 : decode cX1_number 36 = .ok (.if_icmp .le 11, 3) := by decide +kernel
theorem dX1_number_39 : decode cX1_number 39 = .ok (.aload_n 0, 1) := by decide +kernel
theorem dX1_number_40 : decode cX1_number 40 = .ok (.iconst 3, 1) := by decide +kernel
theorem dX1_number_41 : decode cX1_number 41 = .ok (.invokevirtual 97, 3) := by decide +kernel
theorem dX1_number_44 : decode cX1_number 44 = .ok (.pop, 1) := by decide +kernel
theorem dX1_number_45 : decode cX1_number 45 = .ok (.iconst (-1), 1) := by decide +kernel
theorem dX1_number_46 : decode cX1_number 46 = .ok (.ireturn, 1) := by decide +kernel
theorem dX1_number_47 : decode cX1_number 47 = .ok (.aload_n 0, 1) := by decide +kernel
theorem dX1_number_48 : decode cX1_number 48 = .ok (.getfield 18, 3) := by decide +kernel
theorem dX1_number_51 : decode cX1_number 51 = .ok (.getfield 160, 3) := by decide +kernel
theorem dX1_number_54 : decode cX1_number 54 = .ok (.ireturn, 1) := by decide +kernel
theorem dX1_follows_0 : decode cX1_follows 0 = .ok (.aload_n 0, 1) := by decide +kernel
theorem dX1_follows_1 : decode cX1_follows 1 = .ok (.getfield 18, 3) := by decide +kernel
theorem dX1_follows_4 : decode cX1_follows 4 = .ok (.invokevirtual 43, 3) := by decide +kernel
theorem dX1_follows_7 : decode cX1_follows 7 = .ok (.aload_n 0, 1) := by decide +kernel
theorem dX1_follows_8 : decode cX1_follows 8 = .ok (.iload_n 1, 1) := by decide +kernel
theorem dX1_follows_9 : decode cX1_follows 9 = .ok (.invokevirtual 63, 3) := by decide +kernel
theorem dX1_follows_12 : decode cX1_follows 12 = .ok (.ireturn, 1) := by decide +kernel
theorem dX1_stands_0 : decode cX1_stands 0 = .ok (.aload_n 0, 1) := by decide +kernel
theorem dX1_stands_1 : decode cX1_stands 1 = .ok (.getfield 18, 3) := by decide +kernel
theorem dX1_stands_4 : decode cX1_stands 4 = .ok (.getfield 46, 3) := by decide +kernel
theorem dX1_stands_7 : decode cX1_stands 7 = .ok (.iconst 4, 1) := by decide +kernel
theorem dX1_stands_8 : decode cX1_stands 8 = .ok (.if_icmp .ne 9, 3) := by decide +kernel
theorem dX1_stands_11 : decode cX1_stands 11 = .ok (.aload_n 0, 1) := by decide +kernel
theorem dX1_stands_12 : decode cX1_stands 12 = .ok (.iconst 1, 1) := by decide +kernel
theorem dX1_stands_13 : decode cX1_stands 13 = .ok (.invokevirtual 97, 3) := by decide +kernel
theorem dX1_stands_16 : decode cX1_stands 16 = .ok (.ireturn, 1) := by decide +kernel
theorem dX1_stands_17 : decode cX1_stands 17 = .ok (.aload_n 0, 1) := by decide +kernel
theorem dX1_stands_18 : decode cX1_stands 18 = .ok (.getfield 18, 3) := by decide +kernel
theorem dX1_stands_21 : decode cX1_stands 21 = .ok (.getfield 46, 3) := by decide +kernel
theorem dX1_stands_24 : decode cX1_stands 24 = .ok (.iload_n 1, 1) := by decide +kernel
theorem dX1_stands_25 : decode cX1_stands 25 = .ok (.if_icmp .eq 11, 3) := by decide +kernel
theorem dX1_stands_28 : decode cX1_stands 28 = .ok (.aload_n 0, 1) := by decide +kernel
theorem dX1_stands_29 : decode cX1_stands 29 = .ok (.iconst 2, 1) := by decide +kernel
theorem dX1_stands_30 : decode cX1_stands 30 = .ok (.invokevirtual 97, 3) := by decide +kernel
theorem dX1_stands_33 : decode cX1_stands 33 = .ok (.ifCond .eq 7, 3) := by decide +kernel
theorem dX1_stands_36 : decode cX1_stands 36 = .ok (.iconst 1, 1) := by decide +kernel
theorem dX1_stands_37 : decode cX1_stands 37 = .ok (.goto 4, 3) := by decide +kernel
theorem dX1_stands_40 : decode cX1_stands 40 = .ok (.iconst 0, 1) := by decide +kernel
theorem dX1_stands_41 : decode cX1_stands 41 = .ok (.ireturn, 1) := by decide +kernel
theorem dX1_refuse_0 : decode cX1_refuse 0 = .ok (.aload_n 0, 1) := by decide +kernel
theorem dX1_refuse_1 : decode cX1_refuse 1 = .ok (.iload_n 1, 1) := by decide +kernel
theorem dX1_refuse_2 : decode cX1_refuse 2 = .ok (.putfield 25, 3) := by decide +kernel
theorem dX1_refuse_5 : decode cX1_refuse 5 = .ok (.aload_n 0, 1) := by decide +kernel
theorem dX1_refuse_6 : decode cX1_refuse 6 = .ok (.aload_n 0, 1) := by decide +kernel
theorem dX1_refuse_7 : decode cX1_refuse 7 = .ok (.getfield 18, 3) := by decide +kernel
theorem dX1_refuse_10 : decode cX1_refuse 10 = .ok (.getfield 163, 3) := by decide +kernel
theorem dX1_refuse_13 : decode cX1_refuse 13 = .ok (.putfield 29, 3) := by decide +kernel
theorem dX1_refuse_16 : decode cX1_refuse 16 = .ok (.iconst 0, 1) := by decide +kernel
theorem dX1_refuse_17 : decode cX1_refuse 17 = .ok (.ireturn, 1) := by decide +kernel
theorem dX2_init_0 : decode cX2_init 0 = .ok (.aload_n 0, 1) := by decide +kernel
theorem dX2_init_1 : decode cX2_init 1 = .ok (.invokespecial 3, 3) := by decide +kernel
theorem dX2_init_4 : decode cX2_init 4 = .ok (.aload_n 0, 1) := by decide +kernel
theorem dX2_init_5 : decode cX2_init 5 = .ok (.bipush 40, 2) := by decide +kernel
theorem dX2_init_7 : decode cX2_init 7 = .ok (.newarray .int, 2) := by decide +kernel
theorem dX2_init_9 : decode cX2_init 9 = .ok (.putfield 9, 3) := by decide +kernel
theorem dX2_init_12 : decode cX2_init 12 = .ok (.aload_n 0, 1) := by decide +kernel
theorem dX2_init_13 : decode cX2_init 13 = .ok (.iconst (-1), 1) := by decide +kernel
theorem dX2_init_14 : decode cX2_init 14 = .ok (.putfield 15, 3) := by decide +kernel
theorem dX2_init_17 : decode cX2_init 17 = .ok (.return_, 1) := by decide +kernel
theorem dX2_renew_0 : decode cX2_renew 0 = .ok (.aload_n 0, 1) := by decide +kernel
theorem dX2_renew_1 : decode cX2_renew 1 = .ok (.iload_n 1, 1) := by decide +kernel
theorem dX2_renew_2 : decode cX2_renew 2 = .ok (.putfield 15, 3) := by decide +kernel
theorem dX2_renew_5 : decode cX2_renew 5 = .ok (.aload_n 0, 1) := by decide +kernel
theorem dX2_renew_6 : decode cX2_renew 6 = .ok (.iload_n 2, 1) := by decide +kernel
theorem dX2_renew_7 : decode cX2_renew 7 = .ok (.putfield 19, 3) := by decide +kernel
theorem dX2_renew_10 : decode cX2_renew 10 = .ok (.aload_n 0, 1) := by decide +kernel
theorem dX2_renew_11 : decode cX2_renew 11 = .ok (.getfield 9, 3) := by decide +kernel
theorem dX2_renew_14 : decode cX2_renew 14 = .ok (.iconst 0, 1) := by decide +kernel
theorem dX2_renew_15 : decode cX2_renew 15 = .ok (.invokestatic 22, 3) := by decide +kernel
theorem dX2_renew_18 : decode cX2_renew 18 = .ok (.return_, 1) := by decide +kernel
theorem dX2_isNothing_0 : decode cX2_isNothing 0 = .ok (.aload_n 0, 1) := by decide +kernel
theorem dX2_isNothing_1 : decode cX2_isNothing 1 = .ok (.getfield 15, 3) := by decide +kernel
theorem dX2_isNothing_4 : decode cX2_isNothing 4 = .ok (.iconst (-1), 1) := by decide +kernel
theorem dX2_isNothing_5 : decode cX2_isNothing 5 = .ok (.if_icmp .ne 7, 3) := by decide +kernel
theorem dX2_isNothing_8 : decode cX2_isNothing 8 = .ok (.iconst 1, 1) := by decide +kernel
theorem dX2_isNothing_9 : decode cX2_isNothing 9 = .ok (.goto 4, 3) := by decide +kernel
theorem dX2_isNothing_12 : decode cX2_isNothing 12 = .ok (.iconst 0, 1) := by decide +kernel
theorem dX2_isNothing_13 : decode cX2_isNothing 13 = .ok (.ireturn, 1) := by decide +kernel
theorem dX2_faultAt_0 : decode cX2_faultAt 0 = .ok (.aload_n 0, 1) := by decide +kernel
theorem dX2_faultAt_1 : decode cX2_faultAt 1 = .ok (.invokevirtual 28, 3) := by decide +kernel
theorem dX2_faultAt_4 : decode cX2_faultAt 4 = .ok (.ifCond .eq 5, 3) := by decide +kernel
theorem dX2_faultAt_7 : decode cX2_faultAt 7 = .ok (.iconst 1, 1) := by decide +kernel
theorem dX2_faultAt_8 : decode cX2_faultAt 8 = .ok (.ireturn, 1) := by decide +kernel
theorem dX2_faultAt_9 : decode cX2_faultAt 9 = .ok (.iload_n 1, 1) := by decide +kernel
theorem dX2_faultAt_10 : decode cX2_faultAt 10 = .ok (.aload_n 0, 1) := by decide +kernel
theorem dX2_faultAt_11 : decode cX2_faultAt 11 = .ok (.getfield 15, 3) := by decide +kernel
theorem dX2_faultAt_14 : decode cX2_faultAt 14 = .ok (.if_icmp .eq 5, 3) := by decide +kernel
theorem dX2_faultAt_17 : decode cX2_faultAt 17 = .ok (.iconst 3, 1) := by decide +kernel
theorem dX2_faultAt_18 : decode cX2_faultAt 18 = .ok (.ireturn, 1) := by decide +kernel
theorem dX2_faultAt_19 : decode cX2_faultAt 19 = .ok (.iload_n 2, 1) := by decide +kernel
theorem dX2_faultAt_20 : decode cX2_faultAt 20 = .ok (.ifCond .lt 11, 3) := by decide +kernel
theorem dX2_faultAt_23 : decode cX2_faultAt 23 = .ok (.iload_n 2, 1) := by decide +kernel
theorem dX2_faultAt_24 : decode cX2_faultAt 24 = .ok (.aload_n 0, 1) := by decide +kernel
theorem dX2_faultAt_25 : decode cX2_faultAt 25 = .ok (.getfield 19, 3) := by decide +kernel
theorem dX2_faultAt_28 : decode cX2_faultAt 28 = .ok (.if_icmp .lt 7, 3) := by decide +kernel
theorem dX2_faultAt_31 : decode cX2_faultAt 31 = .ok (.iconst 2, 1) := by decide +kernel
theorem dX2_faultAt_32 : decode cX2_faultAt 32 = .ok (.goto 4, 3) := by decide +kernel
theorem dX2_faultAt_35 : decode cX2_faultAt 35 = .ok (.iconst 0, 1) := by decide +kernel
theorem dX2_faultAt_36 : decode cX2_faultAt 36 = .ok (.ireturn, 1) := by decide +kernel
theorem dX2_faultAtTwo_0 : decode cX2_faultAtTwo 0 = .ok (.aload_n 0, 1) := by decide +kernel
theorem dX2_faultAtTwo_1 : decode cX2_faultAtTwo 1 = .ok (.iload_n 1, 1) := by decide +kernel
theorem dX2_faultAtTwo_2 : decode cX2_faultAtTwo 2 = .ok (.iload_n 2, 1) := by decide +kernel
theorem dX2_faultAtTwo_3 : decode cX2_faultAtTwo 3 = .ok (.invokevirtual 32, 3) := by decide +kernel
theorem dX2_faultAtTwo_6 : decode cX2_faultAtTwo 6 = .ok (.istore_n 3, 1) := by decide +kernel
theorem dX2_faultAtTwo_7 : decode cX2_faultAtTwo 7 = .ok (.iload_n 3, 1) := by decide +kernel
theorem dX2_faultAtTwo_8 : decode cX2_faultAtTwo 8 = .ok (.ifCond .eq 7, 3) := by decide +kernel
theorem dX2_faultAtTwo_11 : decode cX2_faultAtTwo 11 = .ok (.iload_n 3, 1) := by decide +kernel
theorem dX2_faultAtTwo_12 : decode cX2_faultAtTwo 12 = .ok (.goto 11, 3) := by decide +kernel
theorem dX2_faultAtTwo_15 : decode cX2_faultAtTwo 15 = .ok (.aload_n 0, 1) := by decide +kernel
theorem dX2_faultAtTwo_16 : decode cX2_faultAtTwo 16 = .ok (.iload_n 1, 1) := by decide +kernel
theorem dX2_faultAtTwo_17 : decode cX2_faultAtTwo 17 = .ok (.iload_n 2, 1) := by decide +kernel
theorem dX2_faultAtTwo_18 : decode cX2_faultAtTwo 18 = .ok (.iconst 1, 1) := by decide +kernel
theorem dX2_faultAtTwo_19 : decode cX2_faultAtTwo 19 = .ok (.iadd, 1) := by decide +kernel
theorem dX2_faultAtTwo_20 : decode cX2_faultAtTwo 20 = .ok (.invokevirtual 32, 3) := by decide +kernel
theorem dX2_faultAtTwo_23 : decode cX2_faultAtTwo 23 = .ok (.ireturn, 1) := by decide +kernel
theorem dX2_put_0 : decode cX2_put 0 = .ok (.aload_n 0, 1) := by decide +kernel
theorem dX2_put_1 : decode cX2_put 1 = .ok (.getfield 15, 3) := by decide +kernel
theorem dX2_put_4 : decode cX2_put 4 = .ok (.ifCond .ne 14, 3) := by decide +kernel
theorem dX2_put_7 : decode cX2_put 7 = .ok (.aload_n 0, 1) := by decide +kernel
theorem dX2_put_8 : decode cX2_put 8 = .ok (.getfield 9, 3) := by decide +kernel
theorem dX2_put_11 : decode cX2_put 11 = .ok (.iload_n 1, 1) := by decide +kernel
theorem dX2_put_12 : decode cX2_put 12 = .ok (.iload_n 2, 1) := by decide +kernel
theorem dX2_put_13 : decode cX2_put 13 = .ok (.i2b, 1) := by decide +kernel
theorem dX2_put_14 : decode cX2_put 14 = .ok (.iastore, 1) := by decide +kernel
theorem dX2_put_15 : decode cX2_put 15 = .ok (.goto 29, 3) := by decide +kernel
theorem dX2_put_18 : decode cX2_put 18 = .ok (.aload_n 0, 1) := by decide +kernel
theorem dX2_put_19 : decode cX2_put 19 = .ok (.getfield 15, 3) := by decide +kernel
theorem dX2_put_22 : decode cX2_put 22 = .ok (.iconst 1, 1) := by decide +kernel
theorem dX2_put_23 : decode cX2_put 23 = .ok (.if_icmp .ne 14, 3) := by decide +kernel
theorem dX2_put_26 : decode cX2_put 26 = .ok (.aload_n 0, 1) := by decide +kernel
theorem dX2_put_27 : decode cX2_put 27 = .ok (.getfield 9, 3) := by decide +kernel
theorem dX2_put_30 : decode cX2_put 30 = .ok (.iload_n 1, 1) := by decide +kernel
theorem dX2_put_31 : decode cX2_put 31 = .ok (.iload_n 2, 1) := by decide +kernel
theorem dX2_put_32 : decode cX2_put 32 = .ok (.i2s, 1) := by decide +kernel
theorem dX2_put_33 : decode cX2_put 33 = .ok (.iastore, 1) := by decide +kernel
theorem dX2_put_34 : decode cX2_put 34 = .ok (.goto 10, 3) := by decide +kernel
theorem dX2_put_37 : decode cX2_put 37 = .ok (.aload_n 0, 1) := by decide +kernel
theorem dX2_put_38 : decode cX2_put 38 = .ok (.getfield 9, 3) := by decide +kernel
theorem dX2_put_41 : decode cX2_put 41 = .ok (.iload_n 1, 1) := by decide +kernel
theorem dX2_put_42 : decode cX2_put 42 = .ok (.iload_n 2, 1) := by decide +kernel
theorem dX2_put_43 : decode cX2_put 43 = .ok (.iastore, 1) := by decide +kernel
theorem dX2_put_44 : decode cX2_put 44 = .ok (.return_, 1) := by decide +kernel
theorem dX3_init_0 : decode cX3_init 0 = .ok (.aload_n 0, 1) := by decide +kernel
theorem dX3_init_1 : decode cX3_init 1 = .ok (.invokespecial 1, 3) := by decide +kernel
theorem dX3_init_4 : decode cX3_init 4 = .ok (.aload_n 0, 1) := by decide +kernel
theorem dX3_init_5 : decode cX3_init 5 = .ok (.bipush 6, 2) := by decide +kernel
theorem dX3_init_7 : decode cX3_init 7 = .ok (.newarray .int, 2) := by decide +kernel
theorem dX3_init_9 : decode cX3_init 9 = .ok (.putfield 9, 3) := by decide +kernel
theorem dX3_init_12 : decode cX3_init 12 = .ok (.aload_n 0, 1) := by decide +kernel
theorem dX3_init_13 : decode cX3_init 13 = .ok (.bipush 6, 2) := by decide +kernel
theorem dX3_init_15 : decode cX3_init 15 = .ok (.newarray .int, 2) := by decide +kernel
theorem dX3_init_17 : decode cX3_init 17 = .ok (.putfield 13, 3) := by decide +kernel
theorem dX3_init_20 : decode cX3_init 20 = .ok (.aload_n 0, 1) := by decide +kernel
theorem dX3_init_21 : decode cX3_init 21 = .ok (.bipush 6, 2) := by decide +kernel
theorem dX3_init_23 : decode cX3_init 23 = .ok (.newarray .int, 2) := by decide +kernel
theorem dX3_init_25 : decode cX3_init 25 = .ok (.putfield 16, 3) := by decide +kernel
theorem dX3_init_28 : decode cX3_init 28 = .ok (.return_, 1) := by decide +kernel
theorem dX3_add_0 : decode cX3_add 0 = .ok (.aload_n 0, 1) := by decide +kernel
theorem dX3_add_1 : decode cX3_add 1 = .ok (.getfield 19, 3) := by decide +kernel
theorem dX3_add_4 : decode cX3_add 4 = .ok (.bipush 6, 2) := by decide +kernel
theorem dX3_add_6 : decode cX3_add 6 = .ok (.if_icmp .lt 5, 3) := by decide +kernel
theorem dX3_add_9 : decode cX3_add 9 = .ok (.iconst 0, 1) := by decide +kernel
theorem dX3_add_10 : decode cX3_add 10 = .ok (.ireturn, 1) := by decide +kernel
theorem dX3_add_11 : decode cX3_add 11 = .ok (.aload_n 0, 1) := by decide +kernel
theorem dX3_add_12 : decode cX3_add 12 = .ok (.getfield 9, 3) := by decide +kernel
theorem dX3_add_15 : decode cX3_add 15 = .ok (.aload_n 0, 1) := by decide +kernel
theorem dX3_add_16 : decode cX3_add 16 = .ok (.getfield 19, 3) := by decide +kernel
theorem dX3_add_19 : decode cX3_add 19 = .ok (.iload_n 1, 1) := by decide +kernel
theorem dX3_add_20 : decode cX3_add 20 = .ok (.iastore, 1) := by decide +kernel
theorem dX3_add_21 : decode cX3_add 21 = .ok (.aload_n 0, 1) := by decide +kernel
theorem dX3_add_22 : decode cX3_add 22 = .ok (.getfield 13, 3) := by decide +kernel
theorem dX3_add_25 : decode cX3_add 25 = .ok (.aload_n 0, 1) := by decide +kernel
theorem dX3_add_26 : decode cX3_add 26 = .ok (.getfield 19, 3) := by decide +kernel
theorem dX3_add_29 : decode cX3_add 29 = .ok (.iload_n 2, 1) := by decide +kernel
theorem dX3_add_30 : decode cX3_add 30 = .ok (.iastore, 1) := by decide +kernel
theorem dX3_add_31 : decode cX3_add 31 = .ok (.aload_n 0, 1) := by decide +kernel
theorem dX3_add_32 : decode cX3_add 32 = .ok (.getfield 16, 3) := by decide +kernel
theorem dX3_add_35 : decode cX3_add 35 = .ok (.aload_n 0, 1) := by decide +kernel
theorem dX3_add_36 : decode cX3_add 36 = .ok (.getfield 19, 3) := by decide +kernel
theorem dX3_add_39 : decode cX3_add 39 = .ok (.iload_n 3, 1) := by decide +kernel
theorem dX3_add_40 : decode cX3_add 40 = .ok (.iastore, 1) := by decide +kernel
theorem dX3_add_41 : decode cX3_add 41 = .ok (.aload_n 0, 1) := by decide +kernel
theorem dX3_add_42 : decode cX3_add 42 = .ok (.dup, 1) := by decide +kernel
theorem dX3_add_43 : decode cX3_add 43 = .ok (.getfield 19, 3) := by decide +kernel
theorem dX3_add_46 : decode cX3_add 46 = .ok (.iconst 1, 1) := by decide +kernel
theorem dX3_add_47 : decode cX3_add 47 = .ok (.iadd, 1) := by decide +kernel
theorem dX3_add_48 : decode cX3_add 48 = .ok (.putfield 19, 3) := by decide +kernel
theorem dX3_add_51 : decode cX3_add 51 = .ok (.iconst 1, 1) := by decide +kernel
theorem dX3_add_52 : decode cX3_add 52 = .ok (.ireturn, 1) := by decide +kernel
theorem dX3_agreeWith_0 : decode cX3_agreeWith 0 = .ok (.iconst 0, 1) := by decide +kernel
theorem dX3_agreeWith_1 : decode cX3_agreeWith 1 = .ok (.istore_n 3, 1) := by decide +kernel
theorem dX3_agreeWith_2 : decode cX3_agreeWith 2 = .ok (.iload_n 3, 1) := by decide +kernel
theorem dX3_agreeWith_3 : decode cX3_agreeWith 3 = .ok (.aload_n 0, 1) := by decide +kernel
theorem dX3_agreeWith_4 : decode cX3_agreeWith 4 = .ok (.getfield 19, 3) := by decide +kernel
theorem dX3_agreeWith_7 : decode cX3_agreeWith 7 = .ok (.if_icmp .ge 41, 3) := by decide +kernel
theorem dX3_agreeWith_10 : decode cX3_agreeWith 10 = .ok (.aload_n 0, 1) := by decide +kernel
theorem dX3_agreeWith_11 : decode cX3_agreeWith 11 = .ok (.getfield 9, 3) := by decide +kernel
theorem dX3_agreeWith_14 : decode cX3_agreeWith 14 = .ok (.iload_n 3, 1) := by decide +kernel
theorem dX3_agreeWith_15 : decode cX3_agreeWith 15 = .ok (.iaload, 1) := by decide +kernel
theorem dX3_agreeWith_16 : decode cX3_agreeWith 16 = .ok (.iload_n 2, 1) := by decide +kernel
theorem dX3_agreeWith_17 : decode cX3_agreeWith 17 = .ok (.if_icmp .ne 25, 3) := by decide +kernel
theorem dX3_agreeWith_20 : decode cX3_agreeWith 20 = .ok (.aload_n 1, 1) := by decide +kernel
theorem dX3_agreeWith_21 : decode cX3_agreeWith 21 = .ok (.iload_n 2, 1) := by decide +kernel
theorem dX3_agreeWith_22 : decode cX3_agreeWith 22 = .ok (.aload_n 0, 1) := by decide +kernel
theorem dX3_agreeWith_23 : decode cX3_agreeWith 23 = .ok (.getfield 13, 3) := by decide +kernel
theorem dX3_agreeWith_26 : decode cX3_agreeWith 26 = .ok (.iload_n 3, 1) := by decide +kernel
theorem dX3_agreeWith_27 : decode cX3_agreeWith 27 = .ok (.iaload, 1) := by decide +kernel
theorem dX3_agreeWith_28 : decode cX3_agreeWith 28 = .ok (.invokevirtual 23, 3) := by decide +kernel
theorem dX3_agreeWith_31 : decode cX3_agreeWith 31 = .ok (.aload_n 0, 1) := by decide +kernel
theorem dX3_agreeWith_32 : decode cX3_agreeWith 32 = .ok (.getfield 16, 3) := by decide +kernel
theorem dX3_agreeWith_35 : decode cX3_agreeWith 35 = .ok (.iload_n 3, 1) := by decide +kernel
theorem dX3_agreeWith_36 : decode cX3_agreeWith 36 = .ok (.iaload, 1) := by decide +kernel
theorem dX3_agreeWith_37 : decode cX3_agreeWith 37 = .ok (.if_icmp .eq 5, 3) := by decide +kernel
theorem dX3_agreeWith_40 : decode cX3_agreeWith 40 = .ok (.iconst 0, 1) := by decide +kernel
theorem dX3_agreeWith_41 : decode cX3_agreeWith 41 = .ok (.ireturn, 1) := by decide +kernel
theorem dX3_agreeWith_42 : decode cX3_agreeWith 42 = .ok (.iinc 3 1, 3) := by decide +kernel
theorem dX3_agreeWith_45 : decode cX3_agreeWith 45 = .ok (.goto (-43), 3) := by decide +kernel
theorem dX3_agreeWith_48 : decode cX3_agreeWith 48 = .ok (.iconst 1, 1) := by decide +kernel
theorem dX3_agreeWith_49 : decode cX3_agreeWith 49 = .ok (.ireturn, 1) := by decide +kernel
theorem dX4_init_0 : decode cX4_init 0 = .ok (.aload_n 0, 1) := by decide +kernel
theorem dX4_init_1 : decode cX4_init 1 = .ok (.invokespecial 3, 3) := by decide +kernel
theorem dX4_init_4 : decode cX4_init 4 = .ok (.aload_n 0, 1) := by decide +kernel
theorem dX4_init_5 : decode cX4_init 5 = .ok (.sipush 160, 3) := by decide +kernel
theorem dX4_init_8 : decode cX4_init 8 = .ok (.newarray .byte, 2) := by decide +kernel
theorem dX4_init_10 : decode cX4_init 10 = .ok (.putfield 11, 3) := by decide +kernel
theorem dX4_init_13 : decode cX4_init 13 = .ok (.return_, 1) := by decide +kernel
theorem dX4_put_0 : decode cX4_put 0 = .ok (.aload_n 0, 1) := by decide +kernel
theorem dX4_put_1 : decode cX4_put 1 = .ok (.getfield 15, 3) := by decide +kernel
theorem dX4_put_4 : decode cX4_put 4 = .ok (.sipush 160, 3) := by decide +kernel
theorem dX4_put_7 : decode cX4_put 7 = .ok (.if_icmp .lt 5, 3) := by decide +kernel
theorem dX4_put_10 : decode cX4_put 10 = .ok (.iconst 0, 1) := by decide +kernel
theorem dX4_put_11 : decode cX4_put 11 = .ok (.ireturn, 1) := by decide +kernel
theorem dX4_put_12 : decode cX4_put 12 = .ok (.aload_n 0, 1) := by decide +kernel
theorem dX4_put_13 : decode cX4_put 13 = .ok (.getfield 11, 3) := by decide +kernel
theorem dX4_put_16 : decode cX4_put 16 = .ok (.aload_n 0, 1) := by decide +kernel
theorem dX4_put_17 : decode cX4_put 17 = .ok (.getfield 15, 3) := by decide +kernel
theorem dX4_put_20 : decode cX4_put 20 = .ok (.iload_n 1, 1) := by decide +kernel
theorem dX4_put_21 : decode cX4_put 21 = .ok (.i2b, 1) := by decide +kernel
theorem dX4_put_22 : decode cX4_put 22 = .ok (.bastore, 1) := by decide +kernel
theorem dX4_put_23 : decode cX4_put 23 = .ok (.aload_n 0, 1) := by decide +kernel
theorem dX4_put_24 : decode cX4_put 24 = .ok (.dup, 1) := by decide +kernel
theorem dX4_put_25 : decode cX4_put 25 = .ok (.getfield 15, 3) := by decide +kernel
theorem dX4_put_28 : decode cX4_put 28 = .ok (.iconst 1, 1) := by decide +kernel
theorem dX4_put_29 : decode cX4_put 29 = .ok (.iadd, 1) := by decide +kernel
theorem dX4_put_30 : decode cX4_put 30 = .ok (.putfield 15, 3) := by decide +kernel
theorem dX4_put_33 : decode cX4_put 33 = .ok (.iconst 1, 1) := by decide +kernel
theorem dX4_put_34 : decode cX4_put 34 = .ok (.ireturn, 1) := by decide +kernel
theorem dX4_rewind_0 : decode cX4_rewind 0 = .ok (.aload_n 0, 1) := by decide +kernel
theorem dX4_rewind_1 : decode cX4_rewind 1 = .ok (.iconst 0, 1) := by decide +kernel
theorem dX4_rewind_2 : decode cX4_rewind 2 = .ok (.putfield 19, 3) := by decide +kernel
theorem dX4_rewind_5 : decode cX4_rewind 5 = .ok (.aload_n 0, 1) := by decide +kernel
theorem dX4_rewind_6 : decode cX4_rewind 6 = .ok (.iconst 0, 1) := by decide +kernel
theorem dX4_rewind_7 : decode cX4_rewind 7 = .ok (.putfield 22, 3) := by decide +kernel
theorem dX4_rewind_10 : decode cX4_rewind 10 = .ok (.aload_n 0, 1) := by decide +kernel
theorem dX4_rewind_11 : decode cX4_rewind 11 = .ok (.iconst 0, 1) := by decide +kernel
theorem dX4_rewind_12 : decode cX4_rewind 12 = .ok (.putfield 25, 3) := by decide +kernel
theorem dX4_rewind_15 : decode cX4_rewind 15 = .ok (.return_, 1) := by decide +kernel
theorem dX4_advance_0 : decode cX4_advance 0 = .ok (.aload_n 0, 1) := by decide +kernel
theorem dX4_advance_1 : decode cX4_advance 1 = .ok (.aload_n 0, 1) := by decide +kernel
theorem dX4_advance_2 : decode cX4_advance 2 = .ok (.aload_n 0, 1) := by decide +kernel
theorem dX4_advance_3 : decode cX4_advance 3 = .ok (.getfield 25, 3) := by decide +kernel
theorem dX4_advance_6 : decode cX4_advance 6 = .ok (.bipush 32, 2) := by decide +kernel
theorem dX4_advance_8 : decode cX4_advance 8 = .ok (.bipush 32, 2) := by decide +kernel
theorem dX4_advance_10 : decode cX4_advance 10 = .ok (.invokevirtual 28, 3) := by decide +kernel
theorem dX4_advance_13 : decode cX4_advance 13 = .ok (.putfield 22, 3) := by decide +kernel
theorem dX4_advance_16 : decode cX4_advance 16 = .ok (.aload_n 0, 1) := by decide +kernel
theorem dX4_advance_17 : decode cX4_advance 17 = .ok (.getfield 22, 3) := by decide +kernel
theorem dX4_advance_20 : decode cX4_advance 20 = .ok (.aload_n 0, 1) := by decide +kernel
theorem dX4_advance_21 : decode cX4_advance 21 = .ok (.getfield 15, 3) := by decide +kernel
theorem dX4_advance_24 : decode cX4_advance 24 = .ok (.if_icmp .lt 11, 3) := by decide +kernel
theorem dX4_advance_27 : decode cX4_advance 27 = .ok (.aload_n 0, 1) := by decide +kernel
theorem dX4_advance_28 : decode cX4_advance 28 = .ok (.iconst 0, 1) := by decide +kernel
theorem dX4_advance_29 : decode cX4_advance 29 = .ok (.putfield 19, 3) := by decide +kernel
theorem dX4_advance_32 : decode cX4_advance 32 = .ok (.goto 98, 3) := by decide +kernel
theorem dX4_advance_35 : decode cX4_advance 35 = .ok (.aload_n 0, 1) := by decide +kernel
theorem dX4_advance_36 : decode cX4_advance 36 = .ok (.getfield 11, 3) := by decide +kernel
theorem dX4_advance_39 : decode cX4_advance 39 = .ok (.aload_n 0, 1) := by decide +kernel
theorem dX4_advance_40 : decode cX4_advance 40 = .ok (.getfield 22, 3) := by decide +kernel
theorem dX4_advance_43 : decode cX4_advance 43 = .ok (.baload, 1) := by decide +kernel
theorem dX4_advance_44 : decode cX4_advance 44 = .ok (.bipush 59, 2) := by decide +kernel
theorem dX4_advance_46 : decode cX4_advance 46 = .ok (.if_icmp .ne 21, 3) := by decide +kernel
theorem dX4_advance_49 : decode cX4_advance 49 = .ok (.aload_n 0, 1) := by decide +kernel
theorem dX4_advance_50 : decode cX4_advance 50 = .ok (.iconst 3, 1) := by decide +kernel
theorem dX4_advance_51 : decode cX4_advance 51 = .ok (.putfield 19, 3) := by decide +kernel
theorem dX4_advance_54 : decode cX4_advance 54 = .ok (.aload_n 0, 1) := by decide +kernel
theorem dX4_advance_55 : decode cX4_advance 55 = .ok (.aload_n 0, 1) := by decide +kernel
theorem dX4_advance_56 : decode cX4_advance 56 = .ok (.getfield 22, 3) := by decide +kernel
theorem dX4_advance_59 : decode cX4_advance 59 = .ok (.iconst 1, 1) := by decide +kernel
theorem dX4_advance_60 : decode cX4_advance 60 = .ok (.iadd, 1) := by decide +kernel
theorem dX4_advance_61 : decode cX4_advance 61 = .ok (.putfield 25, 3) := by decide +kernel
theorem dX4_advance_64 : decode cX4_advance 64 = .ok (.goto 66, 3) := by decide +kernel
theorem dX4_advance_67 : decode cX4_advance 67 = .ok (.aload_n 0, 1) := by decide +kernel
theorem dX4_advance_68 : decode cX4_advance 68 = .ok (.aload_n 0, 1) := by decide +kernel
theorem dX4_advance_69 : decode cX4_advance 69 = .ok (.getfield 22, 3) := by decide +kernel
theorem dX4_advance_72 : decode cX4_advance 72 = .ok (.bipush 97, 2) := by decide +kernel
theorem dX4_advance_74 : decode cX4_advance 74 = .ok (.bipush 122, 2) := by decide +kernel
theorem dX4_advance_76 : decode cX4_advance 76 = .ok (.invokevirtual 28, 3) := by decide +kernel
theorem dX4_advance_79 : decode cX4_advance 79 = .ok (.aload_n 0, 1) := by decide +kernel
theorem dX4_advance_80 : decode cX4_advance 80 = .ok (.getfield 22, 3) := by decide +kernel
theorem dX4_advance_83 : decode cX4_advance 83 = .ok (.if_icmp .le 27, 3) := by decide +kernel
theorem dX4_advance_86 : decode cX4_advance 86 = .ok (.aload_n 0, 1) := by decide +kernel
theorem dX4_advance_87 : decode cX4_advance 87 = .ok (.iconst 1, 1) := by decide +kernel
theorem dX4_advance_88 : decode cX4_advance 88 = .ok (.putfield 19, 3) := by decide +kernel
theorem dX4_advance_91 : decode cX4_advance 91 = .ok (.aload_n 0, 1) := by decide +kernel
theorem dX4_advance_92 : decode cX4_advance 92 = .ok (.aload_n 0, 1) := by decide +kernel
theorem dX4_advance_93 : decode cX4_advance 93 = .ok (.aload_n 0, 1) := by decide +kernel
theorem dX4_advance_94 : decode cX4_advance 94 = .ok (.getfield 22, 3) := by decide +kernel
theorem dX4_advance_97 : decode cX4_advance 97 = .ok (.bipush 97, 2) := by decide +kernel
theorem dX4_advance_99 : decode cX4_advance 99 = .ok (.bipush 122, 2) := by decide +kernel
theorem dX4_advance_101 : decode cX4_advance 101 = .ok (.invokevirtual 28, 3) := by decide +kernel
theorem dX4_advance_104 : decode cX4_advance 104 = .ok (.putfield 25, 3) := by decide +kernel
theorem dX4_advance_107 : decode cX4_advance 107 = .ok (.goto 23, 3) := by decide +kernel
theorem dX4_advance_110 : decode cX4_advance 110 = .ok (.aload_n 0, 1) := by decide +kernel
theorem dX4_advance_111 : decode cX4_advance 111 = .ok (.aload_n 0, 1) := by decide +kernel
theorem dX4_advance_112 : decode cX4_advance 112 = .ok (.aload_n 0, 1) := by decide +kernel
theorem dX4_advance_113 : decode cX4_advance 113 = .ok (.getfield 22, 3) := by decide +kernel
theorem dX4_advance_116 : decode cX4_advance 116 = .ok (.bipush 48, 2) := by decide +kernel
theorem dX4_advance_118 : decode cX4_advance 118 = .ok (.bipush 57, 2) := by decide +kernel
theorem dX4_advance_120 : decode cX4_advance 120 = .ok (.invokevirtual 28, 3) := by decide +kernel
theorem dX4_advance_123 : decode cX4_advance 123 = .ok (.putfield 25, 3) := by decide +kernel
theorem dX4_advance_126 : decode cX4_advance 126 = .ok (.aload_n 0, 1) := by decide +kernel
theorem dX4_advance_127 : decode cX4_advance 127 = .ok (.invokevirtual 32, 3) := by decide +kernel
theorem dX4_advance_130 : decode cX4_advance 130 = .ok (.return_, 1) := by decide +kernel
theorem dX4_takeNumber_0 : decode cX4_takeNumber 0 = .ok (.aload_n 0, 1) := by decide +kernel
theorem dX4_takeNumber_1 : decode cX4_takeNumber 1 = .ok (.getfield 25, 3) := by decide +kernel
theorem dX4_takeNumber_4 : decode cX4_takeNumber 4 = .ok (.aload_n 0, 1) := by decide +kernel
theorem dX4_takeNumber_5 : decode cX4_takeNumber 5 = .ok (.getfield 22, 3) := by decide +kernel
theorem dX4_takeNumber_8 : decode cX4_takeNumber 8 = .ok (.isub, 1) := by decide +kernel
theorem dX4_takeNumber_9 : decode cX4_takeNumber 9 = .ok (.istore_n 1, 1) := by decide +kernel
theorem dX4_takeNumber_10 : decode cX4_takeNumber 10 = .ok (.aload_n 0, 1) := by decide +kernel
theorem dX4_takeNumber_11 : decode cX4_takeNumber 11 = .ok (.iload_n 1, 1) := by decide +kernel
theorem dX4_takeNumber_12 : decode cX4_takeNumber 12 = .ok (.iconst 1, 1) := by decide +kernel
theorem dX4_takeNumber_13 : decode cX4_takeNumber 13 = .ok (.if_icmp .eq 8, 3) := by decide +kernel
theorem dX4_takeNumber_16 : decode cX4_takeNumber 16 = .ok (.iload_n 1, 1) := by decide +kernel
theorem dX4_takeNumber_17 : decode cX4_takeNumber 17 = .ok (.iconst 2, 1) := by decide +kernel
theorem dX4_takeNumber_18 : decode cX4_takeNumber 18 = .ok (.if_icmp .ne 7, 3) := by decide +kernel
theorem dX4_takeNumber_21 : decode cX4_takeNumber 21 = .ok (.iconst 2, 1) := by decide +kernel
theorem dX4_takeNumber_22 : decode cX4_takeNumber 22 = .ok (.goto 4, 3) := by decide +kernel
theorem dX4_takeNumber_25 : decode cX4_takeNumber 25 = .ok (.iconst 4, 1) := by decide +kernel
theorem dX4_takeNumber_26 : decode cX4_takeNumber 26 = .ok (.putfield 19, 3) := by decide +kernel
theorem dX4_takeNumber_29 : decode cX4_takeNumber 29 = .ok (.aload_n 0, 1) := by decide +kernel
theorem dX4_takeNumber_30 : decode cX4_takeNumber 30 = .ok (.iconst 0, 1) := by decide +kernel
theorem dX4_takeNumber_31 : decode cX4_takeNumber 31 = .ok (.putfield 35, 3) := by decide +kernel
theorem dX4_takeNumber_34 : decode cX4_takeNumber 34 = .ok (.aload_n 0, 1) := by decide +kernel
theorem dX4_takeNumber_35 : decode cX4_takeNumber 35 = .ok (.getfield 19, 3) := by decide +kernel
theorem dX4_takeNumber_38 : decode cX4_takeNumber 38 = .ok (.iconst 2, 1) := by decide +kernel
theorem dX4_takeNumber_39 : decode cX4_takeNumber 39 = .ok (.if_icmp .ne 43, 3) := by decide +kernel
theorem dX4_takeNumber_42 : decode cX4_takeNumber 42 = .ok (.aload_n 0, 1) := by decide +kernel
theorem dX4_takeNumber_43 : decode cX4_takeNumber 43 = .ok (.getfield 22, 3) := by decide +kernel
theorem dX4_takeNumber_46 : decode cX4_takeNumber 46 = .ok (.istore_n 2, 1) := by decide +kernel
theorem dX4_takeNumber_47 : decode cX4_takeNumber 47 = .ok (.iload_n 2, 1) := by decide +kernel
theorem dX4_takeNumber_48 : decode cX4_takeNumber 48 = .ok (.aload_n 0, 1) := by decide +kernel
theorem dX4_takeNumber_49 : decode cX4_takeNumber 49 = .ok (.getfield 25, 3) := by decide +kernel
theorem dX4_takeNumber_52 : decode cX4_takeNumber 52 = .ok (.if_icmp .ge 30, 3) := by decide +kernel
theorem dX4_takeNumber_55 : decode cX4_takeNumber 55 = .ok (.aload_n 0, 1) := by decide +kernel
theorem dX4_takeNumber_56 : decode cX4_takeNumber 56 = .ok (.aload_n 0, 1) := by decide +kernel
theorem dX4_takeNumber_57 : decode cX4_takeNumber 57 = .ok (.getfield 35, 3) := by decide +kernel
theorem dX4_takeNumber_60 : decode cX4_takeNumber 60 = .ok (.bipush 10, 2) := by decide +kernel
theorem dX4_takeNumber_62 : decode cX4_takeNumber 62 = .ok (.imul, 1) := by decide +kernel
theorem dX4_takeNumber_63 : decode cX4_takeNumber 63 = .ok (.aload_n 0, 1) := by decide +kernel
theorem dX4_takeNumber_64 : decode cX4_takeNumber 64 = .ok (.getfield 11, 3) := by decide +kernel
theorem dX4_takeNumber_67 : decode cX4_takeNumber 67 = .ok (.iload_n 2, 1) := by decide +kernel
theorem dX4_takeNumber_68 : decode cX4_takeNumber 68 = .ok (.baload, 1) := by decide +kernel
theorem dX4_takeNumber_69 : decode cX4_takeNumber 69 = .ok (.iadd, 1) := by decide +kernel
theorem dX4_takeNumber_70 : decode cX4_takeNumber 70 = .ok (.bipush 48, 2) := by decide +kernel
theorem dX4_takeNumber_72 : decode cX4_takeNumber 72 = .ok (.isub, 1) := by decide +kernel
theorem dX4_takeNumber_73 : decode cX4_takeNumber 73 = .ok (.putfield 35, 3) := by decide +kernel
theorem dX4_takeNumber_76 : decode cX4_takeNumber 76 = .ok (.iinc 2 1, 3) := by decide +kernel
theorem dX4_takeNumber_79 : decode cX4_takeNumber 79 = .ok (.goto (-32), 3) := by decide +kernel
theorem dX4_takeNumber_82 : decode cX4_takeNumber 82 = .ok (.return_, 1) := by decide +kernel
theorem dX4_runEnd_0 : decode cX4_runEnd 0 = .ok (.iload_n 1, 1) := by decide +kernel
theorem dX4_runEnd_1 : decode cX4_runEnd 1 = .ok (.istore 4, 2) := by decide +kernel
theorem dX4_runEnd_3 : decode cX4_runEnd 3 = .ok (.iload 4, 2) := by decide +kernel
theorem dX4_runEnd_5 : decode cX4_runEnd 5 = .ok (.aload_n 0, 1) := by decide +kernel
theorem dX4_runEnd_6 : decode cX4_runEnd 6 = .ok (.getfield 15, 3) := by decide +kernel
theorem dX4_runEnd_9 : decode cX4_runEnd 9 = .ok (.if_icmp .ge 31, 3) := by decide +kernel
theorem dX4_runEnd_12 : decode cX4_runEnd 12 = .ok (.aload_n 0, 1) := by decide +kernel
theorem dX4_runEnd_13 : decode cX4_runEnd 13 = .ok (.getfield 11, 3) := by decide +kernel
theorem dX4_runEnd_16 : decode cX4_runEnd 16 = .ok (.iload 4, 2) := by decide +kernel
theorem dX4_runEnd_18 : decode cX4_runEnd 18 = .ok (.baload, 1) := by decide +kernel
theorem dX4_runEnd_19 : decode cX4_runEnd 19 = .ok (.iload_n 2, 1) := by decide +kernel
theorem dX4_runEnd_20 : decode cX4_runEnd 20 = .ok (.if_icmp .lt 20, 3) := by decide +kernel
theorem dX4_runEnd_23 : decode cX4_runEnd 23 = .ok (.aload_n 0, 1) := by decide +kernel
theorem dX4_runEnd_24 : decode cX4_runEnd 24 = .ok (.getfield 11, 3) := by decide +kernel
theorem dX4_runEnd_27 : decode cX4_runEnd 27 = .ok (.iload 4, 2) := by decide +kernel
theorem dX4_runEnd_29 : decode cX4_runEnd 29 = .ok (.baload, 1) := by decide +kernel
theorem dX4_runEnd_30 : decode cX4_runEnd 30 = .ok (.iload_n 3, 1) := by decide +kernel
theorem dX4_runEnd_31 : decode cX4_runEnd 31 = .ok (.if_icmp .gt 9, 3) := by decide +kernel
theorem dX4_runEnd_34 : decode cX4_runEnd 34 = .ok (.iinc 4 1, 3) := by decide +kernel
theorem dX4_runEnd_37 : decode cX4_runEnd 37 = .ok (.goto (-34), 3) := by decide +kernel
theorem dX4_runEnd_40 : decode cX4_runEnd 40 = .ok (.iload 4, 2) := by decide +kernel
theorem dX4_runEnd_42 : decode cX4_runEnd 42 = .ok (.ireturn, 1) := by decide +kernel
theorem dX4_spells_0 : decode cX4_spells 0 = .ok (.aload_n 0, 1) := by decide +kernel
theorem dX4_spells_1 : decode cX4_spells 1 = .ok (.getfield 19, 3) := by decide +kernel
theorem dX4_spells_4 : decode cX4_spells 4 = .ok (.iconst 1, 1) := by decide +kernel
theorem dX4_spells_5 : decode cX4_spells 5 = .ok (.if_icmp .ne 19, 3) := by decide +kernel
theorem dX4_spells_8 : decode cX4_spells 8 = .ok (.aload_n 0, 1) := by decide +kernel
theorem dX4_spells_9 : decode cX4_spells 9 = .ok (.getfield 25, 3) := by decide +kernel
theorem dX4_spells_12 : decode cX4_spells 12 = .ok (.aload_n 0, 1) := by decide +kernel
theorem dX4_spells_13 : decode cX4_spells 13 = .ok (.getfield 22, 3) := by decide +kernel
theorem dX4_spells_16 : decode cX4_spells 16 = .ok (.isub, 1) := by decide +kernel
theorem dX4_spells_17 : decode cX4_spells 17 = .ok (.aload_n 1, 1) := by decide +kernel
theorem dX4_spells_18 : decode cX4_spells 18 = .ok (.invokevirtual 38, 3) := by decide +kernel
theorem dX4_spells_21 : decode cX4_spells 21 = .ok (.if_icmp .eq 5, 3) := by decide +kernel
theorem dX4_spells_24 : decode cX4_spells 24 = .ok (.iconst 0, 1) := by decide +kernel
theorem dX4_spells_25 : decode cX4_spells 25 = .ok (.ireturn, 1) := by decide +kernel
theorem dX4_spells_26 : decode cX4_spells 26 = .ok (.iconst 0, 1) := by decide +kernel
theorem dX4_spells_27 : decode cX4_spells 27 = .ok (.istore_n 2, 1) := by decide +kernel
theorem dX4_spells_28 : decode cX4_spells 28 = .ok (.iload_n 2, 1) := by decide +kernel
theorem dX4_spells_29 : decode cX4_spells 29 = .ok (.aload_n 1, 1) := by decide +kernel
theorem dX4_spells_30 : decode cX4_spells 30 = .ok (.invokevirtual 38, 3) := by decide +kernel
theorem dX4_spells_33 : decode cX4_spells 33 = .ok (.if_icmp .ge 30, 3) := by decide +kernel
theorem dX4_spells_36 : decode cX4_spells 36 = .ok (.aload_n 0, 1) := by decide +kernel
theorem dX4_spells_37 : decode cX4_spells 37 = .ok (.getfield 11, 3) := by decide +kernel
theorem dX4_spells_40 : decode cX4_spells 40 = .ok (.aload_n 0, 1) := by decide +kernel
theorem dX4_spells_41 : decode cX4_spells 41 = .ok (.getfield 22, 3) := by decide +kernel
theorem dX4_spells_44 : decode cX4_spells 44 = .ok (.iload_n 2, 1) := by decide +kernel
theorem dX4_spells_45 : decode cX4_spells 45 = .ok (.iadd, 1) := by decide +kernel
theorem dX4_spells_46 : decode cX4_spells 46 = .ok (.baload, 1) := by decide +kernel
theorem dX4_spells_47 : decode cX4_spells 47 = .ok (.aload_n 1, 1) := by decide +kernel
theorem dX4_spells_48 : decode cX4_spells 48 = .ok (.iload_n 2, 1) := by decide +kernel
theorem dX4_spells_49 : decode cX4_spells 49 = .ok (.invokevirtual 44, 3) := by decide +kernel
theorem dX4_spells_52 : decode cX4_spells 52 = .ok (.if_icmp .eq 5, 3) := by decide +kernel
theorem dX4_spells_55 : decode cX4_spells 55 = .ok (.iconst 0, 1) := by decide +kernel
theorem dX4_spells_56 : decode cX4_spells 56 = .ok (.ireturn, 1) := by decide +kernel
theorem dX4_spells_57 : decode cX4_spells 57 = .ok (.iinc 2 1, 3) := by decide +kernel
theorem dX4_spells_60 : decode cX4_spells 60 = .ok (.goto (-32), 3) := by decide +kernel
theorem dX4_spells_63 : decode cX4_spells 63 = .ok (.iconst 1, 1) := by decide +kernel
theorem dX4_spells_64 : decode cX4_spells 64 = .ok (.ireturn, 1) := by decide +kernel
theorem dX5_init_0 : decode cX5_init 0 = .ok (.aload_n 0, 1) := by decide +kernel
theorem dX5_init_1 : decode cX5_init 1 = .ok (.invokespecial 3, 3) := by decide +kernel
theorem dX5_init_4 : decode cX5_init 4 = .ok (.aload_n 0, 1) := by decide +kernel
theorem dX5_init_5 : decode cX5_init 5 = .ok (.bipush 8, 2) := by decide +kernel
theorem dX5_init_7 : decode cX5_init 7 = .ok (.newarray .int, 2) := by decide +kernel
theorem dX5_init_9 : decode cX5_init 9 = .ok (.putfield 9, 3) := by decide +kernel
theorem dX5_init_12 : decode cX5_init 12 = .ok (.aload_n 0, 1) := by decide +kernel
theorem dX5_init_13 : decode cX5_init 13 = .ok (.bipush 8, 2) := by decide +kernel
theorem dX5_init_15 : decode cX5_init 15 = .ok (.newarray .int, 2) := by decide +kernel
theorem dX5_init_17 : decode cX5_init 17 = .ok (.putfield 15, 3) := by decide +kernel
theorem dX5_init_20 : decode cX5_init 20 = .ok (.aload_n 0, 1) := by decide +kernel
theorem dX5_init_21 : decode cX5_init 21 = .ok (.bipush 8, 2) := by decide +kernel
theorem dX5_init_23 : decode cX5_init 23 = .ok (.newarray .int, 2) := by decide +kernel
theorem dX5_init_25 : decode cX5_init 25 = .ok (.putfield 18, 3) := by decide +kernel
theorem dX5_init_28 : decode cX5_init 28 = .ok (.aload_n 0, 1) := by decide +kernel
theorem dX5_init_29 : decode cX5_init 29 = .ok (.bipush 8, 2) := by decide +kernel
theorem dX5_init_31 : decode cX5_init 31 = .ok (.newarray .int, 2) := by decide +kernel
theorem dX5_init_33 : decode cX5_init 33 = .ok (.putfield 21, 3) := by decide +kernel
theorem dX5_init_36 : decode cX5_init 36 = .ok (.aload_n 0, 1) := by decide +kernel
theorem dX5_init_37 : decode cX5_init 37 = .ok (.bipush 8, 2) := by decide +kernel
theorem dX5_init_39 : decode cX5_init 39 = .ok (.newarray .int, 2) := by decide +kernel
theorem dX5_init_41 : decode cX5_init 41 = .ok (.putfield 24, 3) := by decide +kernel
theorem dX5_init_44 : decode cX5_init 44 = .ok (.aload_n 0, 1) := by decide +kernel
theorem dX5_init_45 : decode cX5_init 45 = .ok (.bipush 8, 2) := by decide +kernel
theorem dX5_init_47 : decode cX5_init 47 = .ok (.newarray .int, 2) := by decide +kernel
theorem dX5_init_49 : decode cX5_init 49 = .ok (.putfield 27, 3) := by decide +kernel
theorem dX5_init_52 : decode cX5_init 52 = .ok (.aload_n 0, 1) := by decide +kernel
theorem dX5_init_53 : decode cX5_init 53 = .ok (.bipush 8, 2) := by decide +kernel
theorem dX5_init_55 : decode cX5_init 55 = .ok (.newarray .int, 2) := by decide +kernel
theorem dX5_init_57 : decode cX5_init 57 = .ok (.putfield 30, 3) := by decide +kernel
theorem dX5_init_60 : decode cX5_init 60 = .ok (.aload_n 0, 1) := by decide +kernel
theorem dX5_init_61 : decode cX5_init 61 = .ok (.invokevirtual 33, 3) := by decide +kernel
theorem dX5_init_64 : decode cX5_init 64 = .ok (.return_, 1) := by decide +kernel
theorem dX5_clear_0 : decode cX5_clear 0 = .ok (.iconst 0, 1) := by decide +kernel
theorem dX5_clear_1 : decode cX5_clear 1 = .ok (.istore_n 1, 1) := by decide +kernel
theorem dX5_clear_2 : decode cX5_clear 2 = .ok (.iload_n 1, 1) := by decide +kernel
theorem dX5_clear_3 : decode cX5_clear 3 = .ok (.bipush 8, 2) := by decide +kernel
theorem dX5_clear_5 : decode cX5_clear 5 = .ok (.if_icmp .ge 30, 3) := by decide +kernel
theorem dX5_clear_8 : decode cX5_clear 8 = .ok (.aload_n 0, 1) := by decide +kernel
theorem dX5_clear_9 : decode cX5_clear 9 = .ok (.getfield 24, 3) := by decide +kernel
theorem dX5_clear_12 : decode cX5_clear 12 = .ok (.iload_n 1, 1) := by decide +kernel
theorem dX5_clear_13 : decode cX5_clear 13 = .ok (.iload_n 1, 1) := by decide +kernel
theorem dX5_clear_14 : decode cX5_clear 14 = .ok (.iastore, 1) := by decide +kernel
theorem dX5_clear_15 : decode cX5_clear 15 = .ok (.aload_n 0, 1) := by decide +kernel
theorem dX5_clear_16 : decode cX5_clear 16 = .ok (.getfield 27, 3) := by decide +kernel
theorem dX5_clear_19 : decode cX5_clear 19 = .ok (.iload_n 1, 1) := by decide +kernel
theorem dX5_clear_20 : decode cX5_clear 20 = .ok (.iconst (-1), 1) := by decide +kernel
theorem dX5_clear_21 : decode cX5_clear 21 = .ok (.iastore, 1) := by decide +kernel
theorem dX5_clear_22 : decode cX5_clear 22 = .ok (.aload_n 0, 1) := by decide +kernel
theorem dX5_clear_23 : decode cX5_clear 23 = .ok (.getfield 30, 3) := by decide +kernel
theorem dX5_clear_26 : decode cX5_clear 26 = .ok (.iload_n 1, 1) := by decide +kernel
theorem dX5_clear_27 : decode cX5_clear 27 = .ok (.iconst 0, 1) := by decide +kernel
theorem dX5_clear_28 : decode cX5_clear 28 = .ok (.iastore, 1) := by decide +kernel
theorem dX5_clear_29 : decode cX5_clear 29 = .ok (.iinc 1 1, 3) := by decide +kernel
theorem dX5_clear_32 : decode cX5_clear 32 = .ok (.goto (-30), 3) := by decide +kernel
theorem dX5_clear_35 : decode cX5_clear 35 = .ok (.aload_n 0, 1) := by decide +kernel
theorem dX5_clear_36 : decode cX5_clear 36 = .ok (.iconst 0, 1) := by decide +kernel
theorem dX5_clear_37 : decode cX5_clear 37 = .ok (.putfield 36, 3) := by decide +kernel
theorem dX5_clear_40 : decode cX5_clear 40 = .ok (.aload_n 0, 1) := by decide +kernel
theorem dX5_clear_41 : decode cX5_clear 41 = .ok (.iconst 0, 1) := by decide +kernel
theorem dX5_clear_42 : decode cX5_clear 42 = .ok (.putfield 40, 3) := by decide +kernel
theorem dX5_clear_45 : decode cX5_clear 45 = .ok (.aload_n 0, 1) := by decide +kernel
theorem dX5_clear_46 : decode cX5_clear 46 = .ok (.iconst 0, 1) := by decide +kernel
theorem dX5_clear_47 : decode cX5_clear 47 = .ok (.putfield 43, 3) := by decide +kernel
theorem dX5_clear_50 : decode cX5_clear 50 = .ok (.aload_n 0, 1) := by decide +kernel
theorem dX5_clear_51 : decode cX5_clear 51 = .ok (.iconst 0, 1) := by decide +kernel
theorem dX5_clear_52 : decode cX5_clear 52 = .ok (.putfield 46, 3) := by decide +kernel
theorem dX5_clear_55 : decode cX5_clear 55 = .ok (.return_, 1) := by decide +kernel
theorem dX5_become_0 : decode cX5_become 0 = .ok (.aload_n 1, 1) := by decide +kernel
theorem dX5_become_1 : decode cX5_become 1 = .ok (.getfield 9, 3) := by decide +kernel
theorem dX5_become_4 : decode cX5_become 4 = .ok (.iconst 0, 1) := by decide +kernel
theorem dX5_become_5 : decode cX5_become 5 = .ok (.aload_n 0, 1) := by decide +kernel
theorem dX5_become_6 : decode cX5_become 6 = .ok (.getfield 9, 3) := by decide +kernel
theorem dX5_become_9 : decode cX5_become 9 = .ok (.iconst 0, 1) := by decide +kernel
theorem dX5_become_10 : decode cX5_become 10 = .ok (.bipush 8, 2) := by decide +kernel
theorem dX5_become_12 : decode cX5_become 12 = .ok (.invokestatic 49, 3) := by decide +kernel
theorem dX5_become_15 : decode cX5_become 15 = .ok (.aload_n 1, 1) := by decide +kernel
theorem dX5_become_16 : decode cX5_become 16 = .ok (.getfield 15, 3) := by decide +kernel
theorem dX5_become_19 : decode cX5_become 19 = .ok (.iconst 0, 1) := by decide +kernel
theorem dX5_become_20 : decode cX5_become 20 = .ok (.aload_n 0, 1) := by decide +kernel
theorem dX5_become_21 : decode cX5_become 21 = .ok (.getfield 15, 3) := by decide +kernel
theorem dX5_become_24 : decode cX5_become 24 = .ok (.iconst 0, 1) := by decide +kernel
theorem dX5_become_25 : decode cX5_become 25 = .ok (.bipush 8, 2) := by decide +kernel
theorem dX5_become_27 : decode cX5_become 27 = .ok (.invokestatic 49, 3) := by decide +kernel
theorem dX5_become_30 : decode cX5_become 30 = .ok (.aload_n 1, 1) := by decide +kernel
theorem dX5_become_31 : decode cX5_become 31 = .ok (.getfield 18, 3) := by decide +kernel
theorem dX5_become_34 : decode cX5_become 34 = .ok (.iconst 0, 1) := by decide +kernel
theorem dX5_become_35 : decode cX5_become 35 = .ok (.aload_n 0, 1) := by decide +kernel
theorem dX5_become_36 : decode cX5_become 36 = .ok (.getfield 18, 3) := by decide +kernel
theorem dX5_become_39 : decode cX5_become 39 = .ok (.iconst 0, 1) := by decide +kernel
theorem dX5_become_40 : decode cX5_become 40 = .ok (.bipush 8, 2) := by decide +kernel
theorem dX5_become_42 : decode cX5_become 42 = .ok (.invokestatic 49, 3) := by decide +kernel
theorem dX5_become_45 : decode cX5_become 45 = .ok (.aload_n 1, 1) := by decide +kernel
theorem dX5_become_46 : decode cX5_become 46 = .ok (.getfield 21, 3) := by decide +kernel
theorem dX5_become_49 : decode cX5_become 49 = .ok (.iconst 0, 1) := by decide +kernel
theorem dX5_become_50 : decode cX5_become 50 = .ok (.aload_n 0, 1) := by decide +kernel
theorem dX5_become_51 : decode cX5_become 51 = .ok (.getfield 21, 3) := by decide +kernel
theorem dX5_become_54 : decode cX5_become 54 = .ok (.iconst 0, 1) := by decide +kernel
theorem dX5_become_55 : decode cX5_become 55 = .ok (.bipush 8, 2) := by decide +kernel
theorem dX5_become_57 : decode cX5_become 57 = .ok (.invokestatic 49, 3) := by decide +kernel
theorem dX5_become_60 : decode cX5_become 60 = .ok (.aload_n 1, 1) := by decide +kernel
theorem dX5_become_61 : decode cX5_become 61 = .ok (.getfield 24, 3) := by decide +kernel
theorem dX5_become_64 : decode cX5_become 64 = .ok (.iconst 0, 1) := by decide +kernel
theorem dX5_become_65 : decode cX5_become 65 = .ok (.aload_n 0, 1) := by decide +kernel
theorem dX5_become_66 : decode cX5_become 66 = .ok (.getfield 24, 3) := by decide +kernel
theorem dX5_become_69 : decode cX5_become 69 = .ok (.iconst 0, 1) := by decide +kernel
theorem dX5_become_70 : decode cX5_become 70 = .ok (.bipush 8, 2) := by decide +kernel
theorem dX5_become_72 : decode cX5_become 72 = .ok (.invokestatic 49, 3) := by decide +kernel
theorem dX5_become_75 : decode cX5_become 75 = .ok (.aload_n 1, 1) := by decide +kernel
theorem dX5_become_76 : decode cX5_become 76 = .ok (.getfield 27, 3) := by decide +kernel
theorem dX5_become_79 : decode cX5_become 79 = .ok (.iconst 0, 1) := by decide +kernel
theorem dX5_become_80 : decode cX5_become 80 = .ok (.aload_n 0, 1) := by decide +kernel
theorem dX5_become_81 : decode cX5_become 81 = .ok (.getfield 27, 3) := by decide +kernel
theorem dX5_become_84 : decode cX5_become 84 = .ok (.iconst 0, 1) := by decide +kernel
theorem dX5_become_85 : decode cX5_become 85 = .ok (.bipush 8, 2) := by decide +kernel
theorem dX5_become_87 : decode cX5_become 87 = .ok (.invokestatic 49, 3) := by decide +kernel
theorem dX5_become_90 : decode cX5_become 90 = .ok (.aload_n 1, 1) := by decide +kernel
theorem dX5_become_91 : decode cX5_become 91 = .ok (.getfield 30, 3) := by decide +kernel
theorem dX5_become_94 : decode cX5_become 94 = .ok (.iconst 0, 1) := by decide +kernel
theorem dX5_become_95 : decode cX5_become 95 = .ok (.aload_n 0, 1) := by decide +kernel
theorem dX5_become_96 : decode cX5_become 96 = .ok (.getfield 30, 3) := by decide +kernel
theorem dX5_become_99 : decode cX5_become 99 = .ok (.iconst 0, 1) := by decide +kernel
theorem dX5_become_100 : decode cX5_become 100 = .ok (.bipush 8, 2) := by decide +kernel
theorem dX5_become_102 : decode cX5_become 102 = .ok (.invokestatic 49, 3) := by decide +kernel
theorem dX5_become_105 : decode cX5_become 105 = .ok (.aload_n 0, 1) := by decide +kernel
theorem dX5_become_106 : decode cX5_become 106 = .ok (.aload_n 1, 1) := by decide +kernel
theorem dX5_become_107 : decode cX5_become 107 = .ok (.getfield 36, 3) := by decide +kernel
theorem dX5_become_110 : decode cX5_become 110 = .ok (.putfield 36, 3) := by decide +kernel
theorem dX5_become_113 : decode cX5_become 113 = .ok (.aload_n 0, 1) := by decide +kernel
theorem dX5_become_114 : decode cX5_become 114 = .ok (.aload_n 1, 1) := by decide +kernel
theorem dX5_become_115 : decode cX5_become 115 = .ok (.getfield 40, 3) := by decide +kernel
theorem dX5_become_118 : decode cX5_become 118 = .ok (.putfield 40, 3) := by decide +kernel
theorem dX5_become_121 : decode cX5_become 121 = .ok (.aload_n 0, 1) := by decide +kernel
theorem dX5_become_122 : decode cX5_become 122 = .ok (.aload_n 1, 1) := by decide +kernel
theorem dX5_become_123 : decode cX5_become 123 = .ok (.getfield 43, 3) := by decide +kernel
theorem dX5_become_126 : decode cX5_become 126 = .ok (.putfield 43, 3) := by decide +kernel
theorem dX5_become_129 : decode cX5_become 129 = .ok (.aload_n 0, 1) := by decide +kernel
theorem dX5_become_130 : decode cX5_become 130 = .ok (.aload_n 1, 1) := by decide +kernel
theorem dX5_become_131 : decode cX5_become 131 = .ok (.getfield 46, 3) := by decide +kernel
theorem dX5_become_134 : decode cX5_become 134 = .ok (.putfield 46, 3) := by decide +kernel
theorem dX5_become_137 : decode cX5_become 137 = .ok (.return_, 1) := by decide +kernel
theorem dX5_isLeft_0 : decode cX5_isLeft 0 = .ok (.iload_n 1, 1) := by decide +kernel
theorem dX5_isLeft_1 : decode cX5_isLeft 1 = .ok (.ifCond .lt 15, 3) := by decide +kernel
theorem dX5_isLeft_4 : decode cX5_isLeft 4 = .ok (.iload_n 1, 1) := by decide +kernel
theorem dX5_isLeft_5 : decode cX5_isLeft 5 = .ok (.aload_n 0, 1) := by decide +kernel
theorem dX5_isLeft_6 : decode cX5_isLeft 6 = .ok (.getfield 36, 3) := by decide +kernel
theorem dX5_isLeft_9 : decode cX5_isLeft 9 = .ok (.if_icmp .ge 7, 3) := by decide +kernel
theorem dX5_isLeft_12 : decode cX5_isLeft 12 = .ok (.iconst 1, 1) := by decide +kernel
theorem dX5_isLeft_13 : decode cX5_isLeft 13 = .ok (.goto 4, 3) := by decide +kernel
theorem dX5_isLeft_16 : decode cX5_isLeft 16 = .ok (.iconst 0, 1) := by decide +kernel
theorem dX5_isLeft_17 : decode cX5_isLeft 17 = .ok (.ireturn, 1) := by decide +kernel
theorem dX5_isRight_0 : decode cX5_isRight 0 = .ok (.iload_n 1, 1) := by decide +kernel
theorem dX5_isRight_1 : decode cX5_isRight 1 = .ok (.iconst 4, 1) := by decide +kernel
theorem dX5_isRight_2 : decode cX5_isRight 2 = .ok (.if_icmp .lt 17, 3) := by decide +kernel
theorem dX5_isRight_5 : decode cX5_isRight 5 = .ok (.iload_n 1, 1) := by decide +kernel
theorem dX5_isRight_6 : decode cX5_isRight 6 = .ok (.iconst 4, 1) := by decide +kernel
theorem dX5_isRight_7 : decode cX5_isRight 7 = .ok (.aload_n 0, 1) := by decide +kernel
theorem dX5_isRight_8 : decode cX5_isRight 8 = .ok (.getfield 40, 3) := by decide +kernel
theorem dX5_isRight_11 : decode cX5_isRight 11 = .ok (.iadd, 1) := by decide +kernel
theorem dX5_isRight_12 : decode cX5_isRight 12 = .ok (.if_icmp .ge 7, 3) := by decide +kernel
theorem dX5_isRight_15 : decode cX5_isRight 15 = .ok (.iconst 1, 1) := by decide +kernel
theorem dX5_isRight_16 : decode cX5_isRight 16 = .ok (.goto 4, 3) := by decide +kernel
theorem dX5_isRight_19 : decode cX5_isRight 19 = .ok (.iconst 0, 1) := by decide +kernel
theorem dX5_isRight_20 : decode cX5_isRight 20 = .ok (.ireturn, 1) := by decide +kernel
theorem dX5_isHand_0 : decode cX5_isHand 0 = .ok (.iload_n 1, 1) := by decide +kernel
theorem dX5_isHand_1 : decode cX5_isHand 1 = .ok (.ifCond .lt 11, 3) := by decide +kernel
theorem dX5_isHand_4 : decode cX5_isHand 4 = .ok (.iload_n 1, 1) := by decide +kernel
theorem dX5_isHand_5 : decode cX5_isHand 5 = .ok (.aload_n 0, 1) := by decide +kernel
theorem dX5_isHand_6 : decode cX5_isHand 6 = .ok (.getfield 36, 3) := by decide +kernel
theorem dX5_isHand_9 : decode cX5_isHand 9 = .ok (.if_icmp .lt 18, 3) := by decide +kernel
theorem dX5_isHand_12 : decode cX5_isHand 12 = .ok (.iload_n 1, 1) := by decide +kernel
theorem dX5_isHand_13 : decode cX5_isHand 13 = .ok (.iconst 4, 1) := by decide +kernel
theorem dX5_isHand_14 : decode cX5_isHand 14 = .ok (.if_icmp .lt 17, 3) := by decide +kernel
theorem dX5_isHand_17 : decode cX5_isHand 17 = .ok (.iload_n 1, 1) := by decide +kernel
theorem dX5_isHand_18 : decode cX5_isHand 18 = .ok (.iconst 4, 1) := by decide +kernel
theorem dX5_isHand_19 : decode cX5_isHand 19 = .ok (.aload_n 0, 1) := by decide +kernel
theorem dX5_isHand_20 : decode cX5_isHand 20 = .ok (.getfield 40, 3) := by decide +kernel
theorem dX5_isHand_23 : decode cX5_isHand 23 = .ok (.iadd, 1) := by decide +kernel
theorem dX5_isHand_24 : decode cX5_isHand 24 = .ok (.if_icmp .ge 7, 3) := by decide +kernel
theorem dX5_isHand_27 : decode cX5_isHand 27 = .ok (.iconst 1, 1) := by decide +kernel
theorem dX5_isHand_28 : decode cX5_isHand 28 = .ok (.goto 4, 3) := by decide +kernel
theorem dX5_isHand_31 : decode cX5_isHand 31 = .ok (.iconst 0, 1) := by decide +kernel
theorem dX5_isHand_32 : decode cX5_isHand 32 = .ok (.ireturn, 1) := by decide +kernel
theorem dX5_sameSide_0 : decode cX5_sameSide 0 = .ok (.iload_n 0, 1) := by decide +kernel
theorem dX5_sameSide_1 : decode cX5_sameSide 1 = .ok (.iconst 4, 1) := by decide +kernel
theorem dX5_sameSide_2 : decode cX5_sameSide 2 = .ok (.if_icmp .ge 7, 3) := by decide +kernel
theorem dX5_sameSide_5 : decode cX5_sameSide 5 = .ok (.iconst 1, 1) := by decide +kernel
theorem dX5_sameSide_6 : decode cX5_sameSide 6 = .ok (.goto 4, 3) := by decide +kernel
theorem dX5_sameSide_9 : decode cX5_sameSide 9 = .ok (.iconst 0, 1) := by decide +kernel
theorem dX5_sameSide_10 : decode cX5_sameSide 10 = .ok (.iload_n 1, 1) := by decide +kernel
theorem dX5_sameSide_11 : decode cX5_sameSide 11 = .ok (.iconst 4, 1) := by decide +kernel
theorem dX5_sameSide_12 : decode cX5_sameSide 12 = .ok (.if_icmp .ge 7, 3) := by decide +kernel
theorem dX5_sameSide_15 : decode cX5_sameSide 15 = .ok (.iconst 1, 1) := by decide +kernel
theorem dX5_sameSide_16 : decode cX5_sameSide 16 = .ok (.goto 4, 3) := by decide +kernel
theorem dX5_sameSide_19 : decode cX5_sameSide 19 = .ok (.iconst 0, 1) := by decide +kernel
theorem dX5_sameSide_20 : decode cX5_sameSide 20 = .ok (.if_icmp .ne 7, 3) := by decide +kernel
theorem dX5_sameSide_23 : decode cX5_sameSide 23 = .ok (.iconst 1, 1) := by decide +kernel
theorem dX5_sameSide_24 : decode cX5_sameSide 24 = .ok (.goto 4, 3) := by decide +kernel
theorem dX5_sameSide_27 : decode cX5_sameSide 27 = .ok (.iconst 0, 1) := by decide +kernel
theorem dX5_sameSide_28 : decode cX5_sameSide 28 = .ok (.ireturn, 1) := by decide +kernel
theorem dX5_size_0 : decode cX5_size 0 = .ok (.aload_n 0, 1) := by decide +kernel
theorem dX5_size_1 : decode cX5_size 1 = .ok (.getfield 36, 3) := by decide +kernel
theorem dX5_size_4 : decode cX5_size 4 = .ok (.aload_n 0, 1) := by decide +kernel
theorem dX5_size_5 : decode cX5_size 5 = .ok (.getfield 40, 3) := by decide +kernel
theorem dX5_size_8 : decode cX5_size 8 = .ok (.iadd, 1) := by decide +kernel
theorem dX5_size_9 : decode cX5_size 9 = .ok (.ireturn, 1) := by decide +kernel
theorem dX5_handBits_0 : decode cX5_handBits 0 = .ok (.iconst 1, 1) := by decide +kernel
theorem dX5_handBits_1 : decode cX5_handBits 1 = .ok (.aload_n 0, 1) := by decide +kernel
theorem dX5_handBits_2 : decode cX5_handBits 2 = .ok (.getfield 36, 3) := by decide +kernel
theorem dX5_handBits_5 : decode cX5_handBits 5 = .ok (.ishl, 1) := by decide +kernel
theorem dX5_handBits_6 : decode cX5_handBits 6 = .ok (.iconst 1, 1) := by decide +kernel
theorem dX5_handBits_7 : decode cX5_handBits 7 = .ok (.isub, 1) := by decide +kernel
theorem dX5_handBits_8 : decode cX5_handBits 8 = .ok (.iconst 1, 1) := by decide +kernel
theorem dX5_handBits_9 : decode cX5_handBits 9 = .ok (.aload_n 0, 1) := by decide +kernel
theorem dX5_handBits_10 : decode cX5_handBits 10 = .ok (.getfield 40, 3) := by decide +kernel
theorem dX5_handBits_13 : decode cX5_handBits 13 = .ok (.ishl, 1) := by decide +kernel
theorem dX5_handBits_14 : decode cX5_handBits 14 = .ok (.iconst 1, 1) := by decide +kernel
theorem dX5_handBits_15 : decode cX5_handBits 15 = .ok (.isub, 1) := by decide +kernel
theorem dX5_handBits_16 : decode cX5_handBits 16 = .ok (.iconst 4, 1) := by decide +kernel
theorem dX5_handBits_17 : decode cX5_handBits 17 = .ok (.ishl, 1) := by decide +kernel
theorem dX5_handBits_18 : decode cX5_handBits 18 = .ok (.ior, 1) := by decide +kernel
theorem dX5_handBits_19 : decode cX5_handBits 19 = .ok (.ireturn, 1) := by decide +kernel
theorem dX5_byOrder_0 : decode cX5_byOrder 0 = .ok (.iload_n 1, 1) := by decide +kernel
theorem dX5_byOrder_1 : decode cX5_byOrder 1 = .ok (.aload_n 0, 1) := by decide +kernel
theorem dX5_byOrder_2 : decode cX5_byOrder 2 = .ok (.getfield 36, 3) := by decide +kernel
theorem dX5_byOrder_5 : decode cX5_byOrder 5 = .ok (.if_icmp .ge 7, 3) := by decide +kernel
theorem dX5_byOrder_8 : decode cX5_byOrder 8 = .ok (.iload_n 1, 1) := by decide +kernel
theorem dX5_byOrder_9 : decode cX5_byOrder 9 = .ok (.goto 11, 3) := by decide +kernel
theorem dX5_byOrder_12 : decode cX5_byOrder 12 = .ok (.iconst 4, 1) := by decide +kernel
theorem dX5_byOrder_13 : decode cX5_byOrder 13 = .ok (.iload_n 1, 1) := by decide +kernel
theorem dX5_byOrder_14 : decode cX5_byOrder 14 = .ok (.iadd, 1) := by decide +kernel
theorem dX5_byOrder_15 : decode cX5_byOrder 15 = .ok (.aload_n 0, 1) := by decide +kernel
theorem dX5_byOrder_16 : decode cX5_byOrder 16 = .ok (.getfield 36, 3) := by decide +kernel
theorem dX5_byOrder_19 : decode cX5_byOrder 19 = .ok (.isub, 1) := by decide +kernel
theorem dX5_byOrder_20 : decode cX5_byOrder 20 = .ok (.ireturn, 1) := by decide +kernel
theorem dX5_isFull_0 : decode cX5_isFull 0 = .ok (.iload_n 1, 1) := by decide +kernel
theorem dX5_isFull_1 : decode cX5_isFull 1 = .ok (.ifCond .ne 10, 3) := by decide +kernel
theorem dX5_isFull_4 : decode cX5_isFull 4 = .ok (.aload_n 0, 1) := by decide +kernel
theorem dX5_isFull_5 : decode cX5_isFull 5 = .ok (.getfield 36, 3) := by decide +kernel
theorem dX5_isFull_8 : decode cX5_isFull 8 = .ok (.goto 7, 3) := by decide +kernel
theorem dX5_isFull_11 : decode cX5_isFull 11 = .ok (.aload_n 0, 1) := by decide +kernel
theorem dX5_isFull_12 : decode cX5_isFull 12 = .ok (.getfield 40, 3) := by decide +kernel
theorem dX5_isFull_15 : decode cX5_isFull 15 = .ok (.iconst 4, 1) := by decide +kernel
theorem dX5_isFull_16 : decode cX5_isFull 16 = .ok (.if_icmp .lt 7, 3) := by decide +kernel
theorem dX5_isFull_19 : decode cX5_isFull 19 = .ok (.iconst 1, 1) := by decide +kernel
theorem dX5_isFull_20 : decode cX5_isFull 20 = .ok (.goto 4, 3) := by decide +kernel
theorem dX5_isFull_23 : decode cX5_isFull 23 = .ok (.iconst 0, 1) := by decide +kernel
theorem dX5_isFull_24 : decode cX5_isFull 24 = .ok (.ireturn, 1) := by decide +kernel
theorem dX5_add_0 : decode cX5_add 0 = .ok (.aload_n 0, 1) := by decide +kernel
theorem dX5_add_1 : decode cX5_add 1 = .ok (.iload_n 1, 1) := by decide +kernel
theorem dX5_add_2 : decode cX5_add 2 = .ok (.invokevirtual 55, 3) := by decide +kernel
theorem dX5_add_5 : decode cX5_add 5 = .ok (.ifCond .eq 4, 3) := by decide +kernel
theorem dX5_add_8 : decode cX5_add 8 = .ok (.return_, 1) := by decide +kernel
theorem dX5_add_9 : decode cX5_add 9 = .ok (.iload_n 1, 1) := by decide +kernel
theorem dX5_add_10 : decode cX5_add 10 = .ok (.ifCond .ne 10, 3) := by decide +kernel
theorem dX5_add_13 : decode cX5_add 13 = .ok (.aload_n 0, 1) := by decide +kernel
theorem dX5_add_14 : decode cX5_add 14 = .ok (.getfield 36, 3) := by decide +kernel
theorem dX5_add_17 : decode cX5_add 17 = .ok (.goto 9, 3) := by decide +kernel
theorem dX5_add_20 : decode cX5_add 20 = .ok (.iconst 4, 1) := by decide +kernel
theorem dX5_add_21 : decode cX5_add 21 = .ok (.aload_n 0, 1) := by decide +kernel
theorem dX5_add_22 : decode cX5_add 22 = .ok (.getfield 40, 3) := by decide +kernel
theorem dX5_add_25 : decode cX5_add 25 = .ok (.iadd, 1) := by decide +kernel
theorem dX5_add_26 : decode cX5_add 26 = .ok (.istore 6, 2) := by decide +kernel
theorem dX5_add_28 : decode cX5_add 28 = .ok (.iload_n 1, 1) := by decide +kernel
theorem dX5_add_29 : decode cX5_add 29 = .ok (.ifCond .ne 16, 3) := by decide +kernel
theorem dX5_add_32 : decode cX5_add 32 = .ok (.aload_n 0, 1) := by decide +kernel
theorem dX5_add_33 : decode cX5_add 33 = .ok (.dup, 1) := by decide +kernel
theorem dX5_add_34 : decode cX5_add 34 = .ok (.getfield 36, 3) := by decide +kernel
theorem dX5_add_37 : decode cX5_add 37 = .ok (.iconst 1, 1) := by decide +kernel
theorem dX5_add_38 : decode cX5_add 38 = .ok (.iadd, 1) := by decide +kernel
theorem dX5_add_39 : decode cX5_add 39 = .ok (.putfield 36, 3) := by decide +kernel
theorem dX5_add_42 : decode cX5_add 42 = .ok (.goto 13, 3) := by decide +kernel
theorem dX5_add_45 : decode cX5_add 45 = .ok (.aload_n 0, 1) := by decide +kernel
theorem dX5_add_46 : decode cX5_add 46 = .ok (.dup, 1) := by decide +kernel
theorem dX5_add_47 : decode cX5_add 47 = .ok (.getfield 40, 3) := by decide +kernel
theorem dX5_add_50 : decode cX5_add 50 = .ok (.iconst 1, 1) := by decide +kernel
theorem dX5_add_51 : decode cX5_add 51 = .ok (.iadd, 1) := by decide +kernel
theorem dX5_add_52 : decode cX5_add 52 = .ok (.putfield 40, 3) := by decide +kernel
theorem dX5_add_55 : decode cX5_add 55 = .ok (.aload_n 0, 1) := by decide +kernel
theorem dX5_add_56 : decode cX5_add 56 = .ok (.getfield 9, 3) := by decide +kernel
theorem dX5_add_59 : decode cX5_add 59 = .ok (.iload 6, 2) := by decide +kernel
theorem dX5_add_61 : decode cX5_add 61 = .ok (.iload_n 2, 1) := by decide +kernel
theorem dX5_add_62 : decode cX5_add 62 = .ok (.iastore, 1) := by decide +kernel
theorem dX5_add_63 : decode cX5_add 63 = .ok (.aload_n 0, 1) := by decide +kernel
theorem dX5_add_64 : decode cX5_add 64 = .ok (.getfield 15, 3) := by decide +kernel
theorem dX5_add_67 : decode cX5_add 67 = .ok (.iload 6, 2) := by decide +kernel
theorem dX5_add_69 : decode cX5_add 69 = .ok (.iload_n 3, 1) := by decide +kernel
theorem dX5_add_70 : decode cX5_add 70 = .ok (.iastore, 1) := by decide +kernel
theorem dX5_add_71 : decode cX5_add 71 = .ok (.aload_n 0, 1) := by decide +kernel
theorem dX5_add_72 : decode cX5_add 72 = .ok (.getfield 18, 3) := by decide +kernel
theorem dX5_add_75 : decode cX5_add 75 = .ok (.iload 6, 2) := by decide +kernel
theorem dX5_add_77 : decode cX5_add 77 = .ok (.iload 4, 2) := by decide +kernel
theorem dX5_add_79 : decode cX5_add 79 = .ok (.iastore, 1) := by decide +kernel
theorem dX5_add_80 : decode cX5_add 80 = .ok (.aload_n 0, 1) := by decide +kernel
theorem dX5_add_81 : decode cX5_add 81 = .ok (.getfield 21, 3) := by decide +kernel
theorem dX5_add_84 : decode cX5_add 84 = .ok (.iload 6, 2) := by decide +kernel
theorem dX5_add_86 : decode cX5_add 86 = .ok (.iload 5, 2) := by decide +kernel
theorem dX5_add_88 : decode cX5_add 88 = .ok (.iastore, 1) := by decide +kernel
theorem dX5_add_89 : decode cX5_add 89 = .ok (.return_, 1) := by decide +kernel
theorem dX5_isRun_0 : decode cX5_isRun 0 = .ok (.aload_n 0, 1) := by decide +kernel
theorem dX5_isRun_1 : decode cX5_isRun 1 = .ok (.getfield 43, 3) := by decide +kernel
theorem dX5_isRun_4 : decode cX5_isRun 4 = .ok (.iload_n 1, 1) := by decide +kernel
theorem dX5_isRun_5 : decode cX5_isRun 5 = .ok (.ishr, 1) := by decide +kernel
theorem dX5_isRun_6 : decode cX5_isRun 6 = .ok (.iconst 1, 1) := by decide +kernel
theorem dX5_isRun_7 : decode cX5_isRun 7 = .ok (.iand, 1) := by decide +kernel
theorem dX5_isRun_8 : decode cX5_isRun 8 = .ok (.iconst 1, 1) := by decide +kernel
theorem dX5_isRun_9 : decode cX5_isRun 9 = .ok (.if_icmp .ne 7, 3) := by decide +kernel
theorem dX5_isRun_12 : decode cX5_isRun 12 = .ok (.iconst 1, 1) := by decide +kernel
theorem dX5_isRun_13 : decode cX5_isRun 13 = .ok (.goto 4, 3) := by decide +kernel
theorem dX5_isRun_16 : decode cX5_isRun 16 = .ok (.iconst 0, 1) := by decide +kernel
theorem dX5_isRun_17 : decode cX5_isRun 17 = .ok (.ireturn, 1) := by decide +kernel
theorem dX5_setRun_0 : decode cX5_setRun 0 = .ok (.aload_n 0, 1) := by decide +kernel
theorem dX5_setRun_1 : decode cX5_setRun 1 = .ok (.aload_n 0, 1) := by decide +kernel
theorem dX5_setRun_2 : decode cX5_setRun 2 = .ok (.getfield 43, 3) := by decide +kernel
theorem dX5_setRun_5 : decode cX5_setRun 5 = .ok (.iload_n 1, 1) := by decide +kernel
theorem dX5_setRun_6 : decode cX5_setRun 6 = .ok (.iload_n 2, 1) := by decide +kernel
theorem dX5_setRun_7 : decode cX5_setRun 7 = .ok (.invokestatic 59, 3) := by decide +kernel
theorem dX5_setRun_10 : decode cX5_setRun 10 = .ok (.putfield 43, 3) := by decide +kernel
theorem dX5_setRun_13 : decode cX5_setRun 13 = .ok (.return_, 1) := by decide +kernel
theorem dX5_areFolded_0 : decode cX5_areFolded 0 = .ok (.aload_n 0, 1) := by decide +kernel
theorem dX5_areFolded_1 : decode cX5_areFolded 1 = .ok (.getfield 30, 3) := by decide +kernel
theorem dX5_areFolded_4 : decode cX5_areFolded 4 = .ok (.iload_n 1, 1) := by decide +kernel
theorem dX5_areFolded_5 : decode cX5_areFolded 5 = .ok (.iaload, 1) := by decide +kernel
theorem dX5_areFolded_6 : decode cX5_areFolded 6 = .ok (.iload_n 2, 1) := by decide +kernel
theorem dX5_areFolded_7 : decode cX5_areFolded 7 = .ok (.ishr, 1) := by decide +kernel
theorem dX5_areFolded_8 : decode cX5_areFolded 8 = .ok (.iconst 1, 1) := by decide +kernel
theorem dX5_areFolded_9 : decode cX5_areFolded 9 = .ok (.iand, 1) := by decide +kernel
theorem dX5_areFolded_10 : decode cX5_areFolded 10 = .ok (.iconst 1, 1) := by decide +kernel
theorem dX5_areFolded_11 : decode cX5_areFolded 11 = .ok (.if_icmp .ne 7, 3) := by decide +kernel
theorem dX5_areFolded_14 : decode cX5_areFolded 14 = .ok (.iconst 1, 1) := by decide +kernel
theorem dX5_areFolded_15 : decode cX5_areFolded 15 = .ok (.goto 4, 3) := by decide +kernel
theorem dX5_areFolded_18 : decode cX5_areFolded 18 = .ok (.iconst 0, 1) := by decide +kernel
theorem dX5_areFolded_19 : decode cX5_areFolded 19 = .ok (.ireturn, 1) := by decide +kernel
theorem dX5_setFolded_0 : decode cX5_setFolded 0 = .ok (.aload_n 0, 1) := by decide +kernel
theorem dX5_setFolded_1 : decode cX5_setFolded 1 = .ok (.getfield 30, 3) := by decide +kernel
theorem dX5_setFolded_4 : decode cX5_setFolded 4 = .ok (.iload_n 1, 1) := by decide +kernel
theorem dX5_setFolded_5 : decode cX5_setFolded 5 = .ok (.aload_n 0, 1) := by decide +kernel
theorem dX5_setFolded_6 : decode cX5_setFolded 6 = .ok (.getfield 30, 3) := by decide +kernel
theorem dX5_setFolded_9 : decode cX5_setFolded 9 = .ok (.iload_n 1, 1) := by decide +kernel
theorem dX5_setFolded_10 : decode cX5_setFolded 10 = .ok (.iaload, 1) := by decide +kernel
theorem dX5_setFolded_11 : decode cX5_setFolded 11 = .ok (.iload_n 2, 1) := by decide +kernel
theorem dX5_setFolded_12 : decode cX5_setFolded 12 = .ok (.iload_n 3, 1) := by decide +kernel
theorem dX5_setFolded_13 : decode cX5_setFolded 13 = .ok (.invokestatic 59, 3) := by decide +kernel
theorem dX5_setFolded_16 : decode cX5_setFolded 16 = .ok (.iastore, 1) := by decide +kernel
theorem dX5_setFolded_17 : decode cX5_setFolded 17 = .ok (.aload_n 0, 1) := by decide +kernel
theorem dX5_setFolded_18 : decode cX5_setFolded 18 = .ok (.getfield 30, 3) := by decide +kernel
theorem dX5_setFolded_21 : decode cX5_setFolded 21 = .ok (.iload_n 2, 1) := by decide +kernel
theorem dX5_setFolded_22 : decode cX5_setFolded 22 = .ok (.aload_n 0, 1) := by decide +kernel
theorem dX5_setFolded_23 : decode cX5_setFolded 23 = .ok (.getfield 30, 3) := by decide +kernel
theorem dX5_setFolded_26 : decode cX5_setFolded 26 = .ok (.iload_n 2, 1) := by decide +kernel
theorem dX5_setFolded_27 : decode cX5_setFolded 27 = .ok (.iaload, 1) := by decide +kernel
theorem dX5_setFolded_28 : decode cX5_setFolded 28 = .ok (.iload_n 1, 1) := by decide +kernel
theorem dX5_setFolded_29 : decode cX5_setFolded 29 = .ok (.iload_n 3, 1) := by decide +kernel
theorem dX5_setFolded_30 : decode cX5_setFolded 30 = .ok (.invokestatic 59, 3) := by decide +kernel
theorem dX5_setFolded_33 : decode cX5_setFolded 33 = .ok (.iastore, 1) := by decide +kernel
theorem dX5_setFolded_34 : decode cX5_setFolded 34 = .ok (.return_, 1) := by decide +kernel
theorem dX5_withBit_0 : decode cX5_withBit 0 = .ok (.iload_n 2, 1) := by decide +kernel
theorem dX5_withBit_1 : decode cX5_withBit 1 = .ok (.ifCond .eq 11, 3) := by decide +kernel
theorem dX5_withBit_4 : decode cX5_withBit 4 = .ok (.iload_n 0, 1) := by decide +kernel
theorem dX5_withBit_5 : decode cX5_withBit 5 = .ok (.iconst 1, 1) := by decide +kernel
theorem dX5_withBit_6 : decode cX5_withBit 6 = .ok (.iload_n 1, 1) := by decide +kernel
theorem dX5_withBit_7 : decode cX5_withBit 7 = .ok (.ishl, 1) := by decide +kernel
theorem dX5_withBit_8 : decode cX5_withBit 8 = .ok (.ior, 1) := by decide +kernel
theorem dX5_withBit_9 : decode cX5_withBit 9 = .ok (.goto 10, 3) := by decide +kernel
theorem dX5_withBit_12 : decode cX5_withBit 12 = .ok (.iload_n 0, 1) := by decide +kernel
theorem dX5_withBit_13 : decode cX5_withBit 13 = .ok (.iconst 1, 1) := by decide +kernel
theorem dX5_withBit_14 : decode cX5_withBit 14 = .ok (.iload_n 1, 1) := by decide +kernel
theorem dX5_withBit_15 : decode cX5_withBit 15 = .ok (.ishl, 1) := by decide +kernel
theorem dX5_withBit_16 : decode cX5_withBit 16 = .ok (.iconst (-1), 1) := by decide +kernel
theorem dX5_withBit_17 : decode cX5_withBit 17 = .ok (.ixor, 1) := by decide +kernel
theorem dX5_withBit_18 : decode cX5_withBit 18 = .ok (.iand, 1) := by decide +kernel
theorem dX5_withBit_19 : decode cX5_withBit 19 = .ok (.ireturn, 1) := by decide +kernel
theorem dX5_isWed_0 : decode cX5_isWed 0 = .ok (.aload_n 0, 1) := by decide +kernel
theorem dX5_isWed_1 : decode cX5_isWed 1 = .ok (.getfield 27, 3) := by decide +kernel
theorem dX5_isWed_4 : decode cX5_isWed 4 = .ok (.iload_n 1, 1) := by decide +kernel
theorem dX5_isWed_5 : decode cX5_isWed 5 = .ok (.iaload, 1) := by decide +kernel
theorem dX5_isWed_6 : decode cX5_isWed 6 = .ok (.iconst (-1), 1) := by decide +kernel
theorem dX5_isWed_7 : decode cX5_isWed 7 = .ok (.if_icmp .eq 7, 3) := by decide +kernel
theorem dX5_isWed_10 : decode cX5_isWed 10 = .ok (.iconst 1, 1) := by decide +kernel
theorem dX5_isWed_11 : decode cX5_isWed 11 = .ok (.goto 4, 3) := by decide +kernel
theorem dX5_isWed_14 : decode cX5_isWed 14 = .ok (.iconst 0, 1) := by decide +kernel
theorem dX5_isWed_15 : decode cX5_isWed 15 = .ok (.ireturn, 1) := by decide +kernel
theorem dX5_join_0 : decode cX5_join 0 = .ok (.aload_n 0, 1) := by decide +kernel
theorem dX5_join_1 : decode cX5_join 1 = .ok (.getfield 27, 3) := by decide +kernel
theorem dX5_join_4 : decode cX5_join 4 = .ok (.iload_n 1, 1) := by decide +kernel
theorem dX5_join_5 : decode cX5_join 5 = .ok (.iload_n 2, 1) := by decide +kernel
theorem dX5_join_6 : decode cX5_join 6 = .ok (.iastore, 1) := by decide +kernel
theorem dX5_join_7 : decode cX5_join 7 = .ok (.aload_n 0, 1) := by decide +kernel
theorem dX5_join_8 : decode cX5_join 8 = .ok (.getfield 27, 3) := by decide +kernel
theorem dX5_join_11 : decode cX5_join 11 = .ok (.iload_n 2, 1) := by decide +kernel
theorem dX5_join_12 : decode cX5_join 12 = .ok (.iload_n 1, 1) := by decide +kernel
theorem dX5_join_13 : decode cX5_join 13 = .ok (.iastore, 1) := by decide +kernel
theorem dX5_join_14 : decode cX5_join 14 = .ok (.return_, 1) := by decide +kernel
theorem dX5_divorce_0 : decode cX5_divorce 0 = .ok (.aload_n 0, 1) := by decide +kernel
theorem dX5_divorce_1 : decode cX5_divorce 1 = .ok (.getfield 27, 3) := by decide +kernel
theorem dX5_divorce_4 : decode cX5_divorce 4 = .ok (.iload_n 1, 1) := by decide +kernel
theorem dX5_divorce_5 : decode cX5_divorce 5 = .ok (.iconst (-1), 1) := by decide +kernel
theorem dX5_divorce_6 : decode cX5_divorce 6 = .ok (.iastore, 1) := by decide +kernel
theorem dX5_divorce_7 : decode cX5_divorce 7 = .ok (.aload_n 0, 1) := by decide +kernel
theorem dX5_divorce_8 : decode cX5_divorce 8 = .ok (.getfield 27, 3) := by decide +kernel
theorem dX5_divorce_11 : decode cX5_divorce 11 = .ok (.iload_n 2, 1) := by decide +kernel
theorem dX5_divorce_12 : decode cX5_divorce 12 = .ok (.iconst (-1), 1) := by decide +kernel
theorem dX5_divorce_13 : decode cX5_divorce 13 = .ok (.iastore, 1) := by decide +kernel
theorem dX5_divorce_14 : decode cX5_divorce 14 = .ok (.return_, 1) := by decide +kernel
theorem dX5_wedBits_0 : decode cX5_wedBits 0 = .ok (.iconst 0, 1) := by decide +kernel
theorem dX5_wedBits_1 : decode cX5_wedBits 1 = .ok (.istore_n 1, 1) := by decide +kernel
theorem dX5_wedBits_2 : decode cX5_wedBits 2 = .ok (.iconst 0, 1) := by decide +kernel
theorem dX5_wedBits_3 : decode cX5_wedBits 3 = .ok (.istore_n 2, 1) := by decide +kernel
theorem dX5_wedBits_4 : decode cX5_wedBits 4 = .ok (.iload_n 2, 1) := by decide +kernel
theorem dX5_wedBits_5 : decode cX5_wedBits 5 = .ok (.bipush 8, 2) := by decide +kernel
theorem dX5_wedBits_7 : decode cX5_wedBits 7 = .ok (.if_icmp .ge 23, 3) := by decide +kernel
theorem dX5_wedBits_10 : decode cX5_wedBits 10 = .ok (.aload_n 0, 1) := by decide +kernel
theorem dX5_wedBits_11 : decode cX5_wedBits 11 = .ok (.iload_n 2, 1) := by decide +kernel
theorem dX5_wedBits_12 : decode cX5_wedBits 12 = .ok (.invokevirtual 63, 3) := by decide +kernel
theorem dX5_wedBits_15 : decode cX5_wedBits 15 = .ok (.ifCond .eq 9, 3) := by decide +kernel
theorem dX5_wedBits_18 : decode cX5_wedBits 18 = .ok (.iload_n 1, 1) := by decide +kernel
theorem dX5_wedBits_19 : decode cX5_wedBits 19 = .ok (.iconst 1, 1) := by decide +kernel
theorem dX5_wedBits_20 : decode cX5_wedBits 20 = .ok (.iload_n 2, 1) := by decide +kernel
theorem dX5_wedBits_21 : decode cX5_wedBits 21 = .ok (.ishl, 1) := by decide +kernel
theorem dX5_wedBits_22 : decode cX5_wedBits 22 = .ok (.ior, 1) := by decide +kernel
theorem dX5_wedBits_23 : decode cX5_wedBits 23 = .ok (.istore_n 1, 1) := by decide +kernel
theorem dX5_wedBits_24 : decode cX5_wedBits 24 = .ok (.iinc 2 1, 3) := by decide +kernel
theorem dX5_wedBits_27 : decode cX5_wedBits 27 = .ok (.goto (-23), 3) := by decide +kernel
theorem dX5_wedBits_30 : decode cX5_wedBits 30 = .ok (.iload_n 1, 1) := by decide +kernel
theorem dX5_wedBits_31 : decode cX5_wedBits 31 = .ok (.ireturn, 1) := by decide +kernel
theorem dX5_couples_0 : decode cX5_couples 0 = .ok (.aload_n 0, 1) := by decide +kernel
theorem dX5_couples_1 : decode cX5_couples 1 = .ok (.invokevirtual 66, 3) := by decide +kernel
theorem dX5_couples_4 : decode cX5_couples 4 = .ok (.bipush 15, 2) := by decide +kernel
theorem dX5_couples_6 : decode cX5_couples 6 = .ok (.iand, 1) := by decide +kernel
theorem dX5_couples_7 : decode cX5_couples 7 = .ok (.invokestatic 70, 3) := by decide +kernel
theorem dX5_couples_10 : decode cX5_couples 10 = .ok (.ireturn, 1) := by decide +kernel
theorem dX5_foldings_0 : decode cX5_foldings 0 = .ok (.iconst 0, 1) := by decide +kernel
theorem dX5_foldings_1 : decode cX5_foldings 1 = .ok (.istore_n 1, 1) := by decide +kernel
theorem dX5_foldings_2 : decode cX5_foldings 2 = .ok (.iconst 0, 1) := by decide +kernel
theorem dX5_foldings_3 : decode cX5_foldings 3 = .ok (.istore_n 2, 1) := by decide +kernel
theorem dX5_foldings_4 : decode cX5_foldings 4 = .ok (.iload_n 2, 1) := by decide +kernel
theorem dX5_foldings_5 : decode cX5_foldings 5 = .ok (.iconst 4, 1) := by decide +kernel
theorem dX5_foldings_6 : decode cX5_foldings 6 = .ok (.if_icmp .ge 21, 3) := by decide +kernel
theorem dX5_foldings_9 : decode cX5_foldings 9 = .ok (.iload_n 1, 1) := by decide +kernel
theorem dX5_foldings_10 : decode cX5_foldings 10 = .ok (.aload_n 0, 1) := by decide +kernel
theorem dX5_foldings_11 : decode cX5_foldings 11 = .ok (.getfield 30, 3) := by decide +kernel
theorem dX5_foldings_14 : decode cX5_foldings 14 = .ok (.iload_n 2, 1) := by decide +kernel
theorem dX5_foldings_15 : decode cX5_foldings 15 = .ok (.iaload, 1) := by decide +kernel
theorem dX5_foldings_16 : decode cX5_foldings 16 = .ok (.invokestatic 70, 3) := by decide +kernel
theorem dX5_foldings_19 : decode cX5_foldings 19 = .ok (.iadd, 1) := by decide +kernel
theorem dX5_foldings_20 : decode cX5_foldings 20 = .ok (.istore_n 1, 1) := by decide +kernel
theorem dX5_foldings_21 : decode cX5_foldings 21 = .ok (.iinc 2 1, 3) := by decide +kernel
theorem dX5_foldings_24 : decode cX5_foldings 24 = .ok (.goto (-20), 3) := by decide +kernel
theorem dX5_foldings_27 : decode cX5_foldings 27 = .ok (.iload_n 1, 1) := by decide +kernel
theorem dX5_foldings_28 : decode cX5_foldings 28 = .ok (.ireturn, 1) := by decide +kernel
theorem dX5_swapPens_0 : decode cX5_swapPens 0 = .ok (.aload_n 0, 1) := by decide +kernel
theorem dX5_swapPens_1 : decode cX5_swapPens 1 = .ok (.getfield 24, 3) := by decide +kernel
theorem dX5_swapPens_4 : decode cX5_swapPens 4 = .ok (.iload_n 1, 1) := by decide +kernel
theorem dX5_swapPens_5 : decode cX5_swapPens 5 = .ok (.iaload, 1) := by decide +kernel
theorem dX5_swapPens_6 : decode cX5_swapPens 6 = .ok (.istore_n 3, 1) := by decide +kernel
theorem dX5_swapPens_7 : decode cX5_swapPens 7 = .ok (.aload_n 0, 1) := by decide +kernel
theorem dX5_swapPens_8 : decode cX5_swapPens 8 = .ok (.getfield 24, 3) := by decide +kernel
theorem dX5_swapPens_11 : decode cX5_swapPens 11 = .ok (.iload_n 1, 1) := by decide +kernel
theorem dX5_swapPens_12 : decode cX5_swapPens 12 = .ok (.aload_n 0, 1) := by decide +kernel
theorem dX5_swapPens_13 : decode cX5_swapPens 13 = .ok (.getfield 24, 3) := by decide +kernel
theorem dX5_swapPens_16 : decode cX5_swapPens 16 = .ok (.iload_n 2, 1) := by decide +kernel
theorem dX5_swapPens_17 : decode cX5_swapPens 17 = .ok (.iaload, 1) := by decide +kernel
theorem dX5_swapPens_18 : decode cX5_swapPens 18 = .ok (.iastore, 1) := by decide +kernel
theorem dX5_swapPens_19 : decode cX5_swapPens 19 = .ok (.aload_n 0, 1) := by decide +kernel
theorem dX5_swapPens_20 : decode cX5_swapPens 20 = .ok (.getfield 24, 3) := by decide +kernel
theorem dX5_swapPens_23 : decode cX5_swapPens 23 = .ok (.iload_n 2, 1) := by decide +kernel
theorem dX5_swapPens_24 : decode cX5_swapPens 24 = .ok (.iload_n 3, 1) := by decide +kernel
theorem dX5_swapPens_25 : decode cX5_swapPens 25 = .ok (.iastore, 1) := by decide +kernel
theorem dX5_swapPens_26 : decode cX5_swapPens 26 = .ok (.return_, 1) := by decide +kernel
theorem dX5_shows_0 : decode cX5_shows 0 = .ok (.iload_n 2, 1) := by decide +kernel
theorem dX5_shows_1 : decode cX5_shows 1 = .ok (.iconst 2, 1) := by decide +kernel
theorem dX5_shows_2 : decode cX5_shows 2 = .ok (.if_icmp .ne 15, 3) := by decide +kernel
theorem dX5_shows_5 : decode cX5_shows 5 = .ok (.aload_n 0, 1) := by decide +kernel
theorem dX5_shows_6 : decode cX5_shows 6 = .ok (.getfield 21, 3) := by decide +kernel
theorem dX5_shows_9 : decode cX5_shows 9 = .ok (.aload_n 0, 1) := by decide +kernel
theorem dX5_shows_10 : decode cX5_shows 10 = .ok (.getfield 24, 3) := by decide +kernel
theorem dX5_shows_13 : decode cX5_shows 13 = .ok (.iload_n 1, 1) := by decide +kernel
theorem dX5_shows_14 : decode cX5_shows 14 = .ok (.iaload, 1) := by decide +kernel
theorem dX5_shows_15 : decode cX5_shows 15 = .ok (.iaload, 1) := by decide +kernel
theorem dX5_shows_16 : decode cX5_shows 16 = .ok (.ireturn, 1) := by decide +kernel
theorem dX5_shows_17 : decode cX5_shows 17 = .ok (.iload_n 2, 1) := by decide +kernel
theorem dX5_shows_18 : decode cX5_shows 18 = .ok (.ifCond .ne 10, 3) := by decide +kernel
theorem dX5_shows_21 : decode cX5_shows 21 = .ok (.aload_n 0, 1) := by decide +kernel
theorem dX5_shows_22 : decode cX5_shows 22 = .ok (.getfield 15, 3) := by decide +kernel
theorem dX5_shows_25 : decode cX5_shows 25 = .ok (.goto 7, 3) := by decide +kernel
theorem dX5_shows_28 : decode cX5_shows 28 = .ok (.aload_n 0, 1) := by decide +kernel
theorem dX5_shows_29 : decode cX5_shows 29 = .ok (.getfield 18, 3) := by decide +kernel
theorem dX5_shows_32 : decode cX5_shows 32 = .ok (.astore_n 3, 1) := by decide +kernel
theorem dX5_shows_33 : decode cX5_shows 33 = .ok (.aload_n 0, 1) := by decide +kernel
theorem dX5_shows_34 : decode cX5_shows 34 = .ok (.iload_n 1, 1) := by decide +kernel
theorem dX5_shows_35 : decode cX5_shows 35 = .ok (.invokevirtual 76, 3) := by decide +kernel
theorem dX5_shows_38 : decode cX5_shows 38 = .ok (.istore 4, 2) := by decide +kernel
theorem dX5_shows_40 : decode cX5_shows 40 = .ok (.aload_n 3, 1) := by decide +kernel
theorem dX5_shows_41 : decode cX5_shows 41 = .ok (.aload_n 0, 1) := by decide +kernel
theorem dX5_shows_42 : decode cX5_shows 42 = .ok (.getfield 24, 3) := by decide +kernel
theorem dX5_shows_45 : decode cX5_shows 45 = .ok (.iload_n 1, 1) := by decide +kernel
theorem dX5_shows_46 : decode cX5_shows 46 = .ok (.iaload, 1) := by decide +kernel
theorem dX5_shows_47 : decode cX5_shows 47 = .ok (.iaload, 1) := by decide +kernel
theorem dX5_shows_48 : decode cX5_shows 48 = .ok (.istore 5, 2) := by decide +kernel
theorem dX5_shows_50 : decode cX5_shows 50 = .ok (.iload 4, 2) := by decide +kernel
theorem dX5_shows_52 : decode cX5_shows 52 = .ok (.iconst (-1), 1) := by decide +kernel
theorem dX5_shows_53 : decode cX5_shows 53 = .ok (.if_icmp .ne 8, 3) := by decide +kernel
theorem dX5_shows_56 : decode cX5_shows 56 = .ok (.iload 5, 2) := by decide +kernel
theorem dX5_shows_58 : decode cX5_shows 58 = .ok (.goto 17, 3) := by decide +kernel
theorem dX5_shows_61 : decode cX5_shows 61 = .ok (.iload 5, 2) := by decide +kernel
theorem dX5_shows_63 : decode cX5_shows 63 = .ok (.aload_n 3, 1) := by decide +kernel
theorem dX5_shows_64 : decode cX5_shows 64 = .ok (.aload_n 0, 1) := by decide +kernel
theorem dX5_shows_65 : decode cX5_shows 65 = .ok (.getfield 24, 3) := by decide +kernel
theorem dX5_shows_68 : decode cX5_shows 68 = .ok (.iload 4, 2) := by decide +kernel
theorem dX5_shows_70 : decode cX5_shows 70 = .ok (.iaload, 1) := by decide +kernel
theorem dX5_shows_71 : decode cX5_shows 71 = .ok (.iaload, 1) := by decide +kernel
theorem dX5_shows_72 : decode cX5_shows 72 = .ok (.iadd, 1) := by decide +kernel
theorem dX5_shows_73 : decode cX5_shows 73 = .ok (.iconst 2, 1) := by decide +kernel
theorem dX5_shows_74 : decode cX5_shows 74 = .ok (.idiv, 1) := by decide +kernel
theorem dX5_shows_75 : decode cX5_shows 75 = .ok (.ireturn, 1) := by decide +kernel
theorem dX5_runsWith_0 : decode cX5_runsWith 0 = .ok (.aload_n 0, 1) := by decide +kernel
theorem dX5_runsWith_1 : decode cX5_runsWith 1 = .ok (.iload_n 1, 1) := by decide +kernel
theorem dX5_runsWith_2 : decode cX5_runsWith 2 = .ok (.iconst 1, 1) := by decide +kernel
theorem dX5_runsWith_3 : decode cX5_runsWith 3 = .ok (.isub, 1) := by decide +kernel
theorem dX5_runsWith_4 : decode cX5_runsWith 4 = .ok (.invokevirtual 79, 3) := by decide +kernel
theorem dX5_runsWith_7 : decode cX5_runsWith 7 = .ok (.ifCond .eq 27, 3) := by decide +kernel
theorem dX5_runsWith_10 : decode cX5_runsWith 10 = .ok (.iload_n 1, 1) := by decide +kernel
theorem dX5_runsWith_11 : decode cX5_runsWith 11 = .ok (.iconst 1, 1) := by decide +kernel
theorem dX5_runsWith_12 : decode cX5_runsWith 12 = .ok (.isub, 1) := by decide +kernel
theorem dX5_runsWith_13 : decode cX5_runsWith 13 = .ok (.iload_n 1, 1) := by decide +kernel
theorem dX5_runsWith_14 : decode cX5_runsWith 14 = .ok (.invokestatic 82, 3) := by decide +kernel
theorem dX5_runsWith_17 : decode cX5_runsWith 17 = .ok (.ifCond .eq 17, 3) := by decide +kernel
theorem dX5_runsWith_20 : decode cX5_runsWith 20 = .ok (.aload_n 0, 1) := by decide +kernel
theorem dX5_runsWith_21 : decode cX5_runsWith 21 = .ok (.iload_n 1, 1) := by decide +kernel
theorem dX5_runsWith_22 : decode cX5_runsWith 22 = .ok (.iconst 1, 1) := by decide +kernel
theorem dX5_runsWith_23 : decode cX5_runsWith 23 = .ok (.isub, 1) := by decide +kernel
theorem dX5_runsWith_24 : decode cX5_runsWith 24 = .ok (.invokevirtual 86, 3) := by decide +kernel
theorem dX5_runsWith_27 : decode cX5_runsWith 27 = .ok (.ifCond .eq 7, 3) := by decide +kernel
theorem dX5_runsWith_30 : decode cX5_runsWith 30 = .ok (.iload_n 1, 1) := by decide +kernel
theorem dX5_runsWith_31 : decode cX5_runsWith 31 = .ok (.iconst 1, 1) := by decide +kernel
theorem dX5_runsWith_32 : decode cX5_runsWith 32 = .ok (.isub, 1) := by decide +kernel
theorem dX5_runsWith_33 : decode cX5_runsWith 33 = .ok (.ireturn, 1) := by decide +kernel
theorem dX5_runsWith_34 : decode cX5_runsWith 34 = .ok (.aload_n 0, 1) := by decide +kernel
theorem dX5_runsWith_35 : decode cX5_runsWith 35 = .ok (.iload_n 1, 1) := by decide +kernel
theorem dX5_runsWith_36 : decode cX5_runsWith 36 = .ok (.invokevirtual 86, 3) := by decide +kernel
theorem dX5_runsWith_39 : decode cX5_runsWith 39 = .ok (.ifCond .eq 27, 3) := by decide +kernel
theorem dX5_runsWith_42 : decode cX5_runsWith 42 = .ok (.aload_n 0, 1) := by decide +kernel
theorem dX5_runsWith_43 : decode cX5_runsWith 43 = .ok (.iload_n 1, 1) := by decide +kernel
theorem dX5_runsWith_44 : decode cX5_runsWith 44 = .ok (.iconst 1, 1) := by decide +kernel
theorem dX5_runsWith_45 : decode cX5_runsWith 45 = .ok (.iadd, 1) := by decide +kernel
theorem dX5_runsWith_46 : decode cX5_runsWith 46 = .ok (.invokevirtual 79, 3) := by decide +kernel
theorem dX5_runsWith_49 : decode cX5_runsWith 49 = .ok (.ifCond .eq 17, 3) := by decide +kernel
theorem dX5_runsWith_52 : decode cX5_runsWith 52 = .ok (.iload_n 1, 1) := by decide +kernel
theorem dX5_runsWith_53 : decode cX5_runsWith 53 = .ok (.iload_n 1, 1) := by decide +kernel
theorem dX5_runsWith_54 : decode cX5_runsWith 54 = .ok (.iconst 1, 1) := by decide +kernel
theorem dX5_runsWith_55 : decode cX5_runsWith 55 = .ok (.iadd, 1) := by decide +kernel
theorem dX5_runsWith_56 : decode cX5_runsWith 56 = .ok (.invokestatic 82, 3) := by decide +kernel
theorem dX5_runsWith_59 : decode cX5_runsWith 59 = .ok (.ifCond .eq 7, 3) := by decide +kernel
theorem dX5_runsWith_62 : decode cX5_runsWith 62 = .ok (.iload_n 1, 1) := by decide +kernel
theorem dX5_runsWith_63 : decode cX5_runsWith 63 = .ok (.iconst 1, 1) := by decide +kernel
theorem dX5_runsWith_64 : decode cX5_runsWith 64 = .ok (.iadd, 1) := by decide +kernel
theorem dX5_runsWith_65 : decode cX5_runsWith 65 = .ok (.ireturn, 1) := by decide +kernel
theorem dX5_runsWith_66 : decode cX5_runsWith 66 = .ok (.iconst (-1), 1) := by decide +kernel
theorem dX5_runsWith_67 : decode cX5_runsWith 67 = .ok (.ireturn, 1) := by decide +kernel
theorem dX5_unlike_0 : decode cX5_unlike 0 = .ok (.aload_n 0, 1) := by decide +kernel
theorem dX5_unlike_1 : decode cX5_unlike 1 = .ok (.getfield 15, 3) := by decide +kernel
theorem dX5_unlike_4 : decode cX5_unlike 4 = .ok (.iload_n 1, 1) := by decide +kernel
theorem dX5_unlike_5 : decode cX5_unlike 5 = .ok (.iaload, 1) := by decide +kernel
theorem dX5_unlike_6 : decode cX5_unlike 6 = .ok (.aload_n 0, 1) := by decide +kernel
theorem dX5_unlike_7 : decode cX5_unlike 7 = .ok (.getfield 15, 3) := by decide +kernel
theorem dX5_unlike_10 : decode cX5_unlike 10 = .ok (.iload_n 2, 1) := by decide +kernel
theorem dX5_unlike_11 : decode cX5_unlike 11 = .ok (.iaload, 1) := by decide +kernel
theorem dX5_unlike_12 : decode cX5_unlike 12 = .ok (.isub, 1) := by decide +kernel
theorem dX5_unlike_13 : decode cX5_unlike 13 = .ok (.invokestatic 89, 3) := by decide +kernel
theorem dX5_unlike_16 : decode cX5_unlike 16 = .ok (.aload_n 0, 1) := by decide +kernel
theorem dX5_unlike_17 : decode cX5_unlike 17 = .ok (.getfield 18, 3) := by decide +kernel
theorem dX5_unlike_20 : decode cX5_unlike 20 = .ok (.iload_n 1, 1) := by decide +kernel
theorem dX5_unlike_21 : decode cX5_unlike 21 = .ok (.iaload, 1) := by decide +kernel
theorem dX5_unlike_22 : decode cX5_unlike 22 = .ok (.aload_n 0, 1) := by decide +kernel
theorem dX5_unlike_23 : decode cX5_unlike 23 = .ok (.getfield 18, 3) := by decide +kernel
theorem dX5_unlike_26 : decode cX5_unlike 26 = .ok (.iload_n 2, 1) := by decide +kernel
theorem dX5_unlike_27 : decode cX5_unlike 27 = .ok (.iaload, 1) := by decide +kernel
theorem dX5_unlike_28 : decode cX5_unlike 28 = .ok (.isub, 1) := by decide +kernel
theorem dX5_unlike_29 : decode cX5_unlike 29 = .ok (.invokestatic 89, 3) := by decide +kernel
theorem dX5_unlike_32 : decode cX5_unlike 32 = .ok (.iadd, 1) := by decide +kernel
theorem dX5_unlike_33 : decode cX5_unlike 33 = .ok (.ireturn, 1) := by decide +kernel
theorem dX5_couplesAlike_0 : decode cX5_couplesAlike 0 = .ok (.iconst 0, 1) := by decide +kernel
theorem dX5_couplesAlike_1 : decode cX5_couplesAlike 1 = .ok (.istore_n 1, 1) := by decide +kernel
theorem dX5_couplesAlike_2 : decode cX5_couplesAlike 2 = .ok (.iload_n 1, 1) := by decide +kernel
theorem dX5_couplesAlike_3 : decode cX5_couplesAlike 3 = .ok (.iconst 4, 1) := by decide +kernel
theorem dX5_couplesAlike_4 : decode cX5_couplesAlike 4 = .ok (.if_icmp .ge 33, 3) := by decide +kernel
theorem dX5_couplesAlike_7 : decode cX5_couplesAlike 7 = .ok (.aload_n 0, 1) := by decide +kernel
theorem dX5_couplesAlike_8 : decode cX5_couplesAlike 8 = .ok (.iload_n 1, 1) := by decide +kernel
theorem dX5_couplesAlike_9 : decode cX5_couplesAlike 9 = .ok (.invokevirtual 63, 3) := by decide +kernel
theorem dX5_couplesAlike_12 : decode cX5_couplesAlike 12 = .ok (.ifCond .eq 19, 3) := by decide +kernel
theorem dX5_couplesAlike_15 : decode cX5_couplesAlike 15 = .ok (.aload_n 0, 1) := by decide +kernel
theorem dX5_couplesAlike_16 : decode cX5_couplesAlike 16 = .ok (.iload_n 1, 1) := by decide +kernel
theorem dX5_couplesAlike_17 : decode cX5_couplesAlike 17 = .ok (.aload_n 0, 1) := by decide +kernel
theorem dX5_couplesAlike_18 : decode cX5_couplesAlike 18 = .ok (.getfield 27, 3) := by decide +kernel
theorem dX5_couplesAlike_21 : decode cX5_couplesAlike 21 = .ok (.iload_n 1, 1) := by decide +kernel
theorem dX5_couplesAlike_22 : decode cX5_couplesAlike 22 = .ok (.iaload, 1) := by decide +kernel
theorem dX5_couplesAlike_23 : decode cX5_couplesAlike 23 = .ok (.invokevirtual 94, 3) := by decide +kernel
theorem dX5_couplesAlike_26 : decode cX5_couplesAlike 26 = .ok (.ifCond .eq 5, 3) := by decide +kernel
theorem dX5_couplesAlike_29 : decode cX5_couplesAlike 29 = .ok (.iconst 0, 1) := by decide +kernel
theorem dX5_couplesAlike_30 : decode cX5_couplesAlike 30 = .ok (.ireturn, 1) := by decide +kernel
theorem dX5_couplesAlike_31 : decode cX5_couplesAlike 31 = .ok (.iinc 1 1, 3) := by decide +kernel
theorem dX5_couplesAlike_34 : decode cX5_couplesAlike 34 = .ok (.goto (-32), 3) := by decide +kernel
theorem dX5_couplesAlike_37 : decode cX5_couplesAlike 37 = .ok (.iconst 1, 1) := by decide +kernel
theorem dX5_couplesAlike_38 : decode cX5_couplesAlike 38 = .ok (.ireturn, 1) := by decide +kernel
theorem dX5_passYear_0 : decode cX5_passYear 0 = .ok (.iconst 0, 1) := by decide +kernel
theorem dX5_passYear_1 : decode cX5_passYear 1 = .ok (.istore_n 1, 1) := by decide +kernel
theorem dX5_passYear_2 : decode cX5_passYear 2 = .ok (.iload_n 1, 1) := by decide +kernel
theorem dX5_passYear_3 : decode cX5_passYear 3 = .ok (.iconst 4, 1) := by decide +kernel
theorem dX5_passYear_4 : decode cX5_passYear 4 = .ok (.if_icmp .ge 45, 3) := by decide +kernel
theorem dX5_passYear_7 : decode cX5_passYear 7 = .ok (.aload_n 0, 1) := by decide +kernel
theorem dX5_passYear_8 : decode cX5_passYear 8 = .ok (.iload_n 1, 1) := by decide +kernel
theorem dX5_passYear_9 : decode cX5_passYear 9 = .ok (.invokevirtual 63, 3) := by decide +kernel
theorem dX5_passYear_12 : decode cX5_passYear 12 = .ok (.ifCond .eq 31, 3) := by decide +kernel
theorem dX5_passYear_15 : decode cX5_passYear 15 = .ok (.aload_n 0, 1) := by decide +kernel
theorem dX5_passYear_16 : decode cX5_passYear 16 = .ok (.getfield 15, 3) := by decide +kernel
theorem dX5_passYear_19 : decode cX5_passYear 19 = .ok (.iload_n 1, 1) := by decide +kernel
theorem dX5_passYear_20 : decode cX5_passYear 20 = .ok (.aload_n 0, 1) := by decide +kernel
theorem dX5_passYear_21 : decode cX5_passYear 21 = .ok (.getfield 27, 3) := by decide +kernel
theorem dX5_passYear_24 : decode cX5_passYear 24 = .ok (.iload_n 1, 1) := by decide +kernel
theorem dX5_passYear_25 : decode cX5_passYear 25 = .ok (.iaload, 1) := by decide +kernel
theorem dX5_passYear_26 : decode cX5_passYear 26 = .ok (.invokestatic 98, 3) := by decide +kernel
theorem dX5_passYear_29 : decode cX5_passYear 29 = .ok (.aload_n 0, 1) := by decide +kernel
theorem dX5_passYear_30 : decode cX5_passYear 30 = .ok (.getfield 18, 3) := by decide +kernel
theorem dX5_passYear_33 : decode cX5_passYear 33 = .ok (.iload_n 1, 1) := by decide +kernel
theorem dX5_passYear_34 : decode cX5_passYear 34 = .ok (.aload_n 0, 1) := by decide +kernel
theorem dX5_passYear_35 : decode cX5_passYear 35 = .ok (.getfield 27, 3) := by decide +kernel
theorem dX5_passYear_38 : decode cX5_passYear 38 = .ok (.iload_n 1, 1) := by decide +kernel
theorem dX5_passYear_39 : decode cX5_passYear 39 = .ok (.iaload, 1) := by decide +kernel
theorem dX5_passYear_40 : decode cX5_passYear 40 = .ok (.invokestatic 98, 3) := by decide +kernel
theorem dX5_passYear_43 : decode cX5_passYear 43 = .ok (.iinc 1 1, 3) := by decide +kernel
theorem dX5_passYear_46 : decode cX5_passYear 46 = .ok (.goto (-44), 3) := by decide +kernel
theorem dX5_passYear_49 : decode cX5_passYear 49 = .ok (.aload_n 0, 1) := by decide +kernel
theorem dX5_passYear_50 : decode cX5_passYear 50 = .ok (.dup, 1) := by decide +kernel
theorem dX5_passYear_51 : decode cX5_passYear 51 = .ok (.getfield 46, 3) := by decide +kernel
theorem dX5_passYear_54 : decode cX5_passYear 54 = .ok (.iconst 1, 1) := by decide +kernel
theorem dX5_passYear_55 : decode cX5_passYear 55 = .ok (.iadd, 1) := by decide +kernel
theorem dX5_passYear_56 : decode cX5_passYear 56 = .ok (.putfield 46, 3) := by decide +kernel
theorem dX5_passYear_59 : decode cX5_passYear 59 = .ok (.return_, 1) := by decide +kernel
theorem dX5_comeNearer_0 : decode cX5_comeNearer 0 = .ok (.aload_n 0, 1) := by decide +kernel
theorem dX5_comeNearer_1 : decode cX5_comeNearer 1 = .ok (.iload_n 1, 1) := by decide +kernel
theorem dX5_comeNearer_2 : decode cX5_comeNearer 2 = .ok (.iaload, 1) := by decide +kernel
theorem dX5_comeNearer_3 : decode cX5_comeNearer 3 = .ok (.aload_n 0, 1) := by decide +kernel
theorem dX5_comeNearer_4 : decode cX5_comeNearer 4 = .ok (.iload_n 2, 1) := by decide +kernel
theorem dX5_comeNearer_5 : decode cX5_comeNearer 5 = .ok (.iaload, 1) := by decide +kernel
theorem dX5_comeNearer_6 : decode cX5_comeNearer 6 = .ok (.if_icmp .ge 7, 3) := by decide +kernel
theorem dX5_comeNearer_9 : decode cX5_comeNearer 9 = .ok (.iload_n 1, 1) := by decide +kernel
theorem dX5_comeNearer_10 : decode cX5_comeNearer 10 = .ok (.goto 4, 3) := by decide +kernel
theorem dX5_comeNearer_13 : decode cX5_comeNearer 13 = .ok (.iload_n 2, 1) := by decide +kernel
theorem dX5_comeNearer_14 : decode cX5_comeNearer 14 = .ok (.istore_n 3, 1) := by decide +kernel
theorem dX5_comeNearer_15 : decode cX5_comeNearer 15 = .ok (.iload_n 3, 1) := by decide +kernel
theorem dX5_comeNearer_16 : decode cX5_comeNearer 16 = .ok (.iload_n 1, 1) := by decide +kernel
theorem dX5_comeNearer_17 : decode cX5_comeNearer 17 = .ok (.if_icmp .ne 7, 3) := by decide +kernel
theorem dX5_comeNearer_20 : decode cX5_comeNearer 20 = .ok (.iload_n 2, 1) := by decide +kernel
theorem dX5_comeNearer_21 : decode cX5_comeNearer 21 = .ok (.goto 4, 3) := by decide +kernel
theorem dX5_comeNearer_24 : decode cX5_comeNearer 24 = .ok (.iload_n 1, 1) := by decide +kernel
theorem dX5_comeNearer_25 : decode cX5_comeNearer 25 = .ok (.istore 4, 2) := by decide +kernel
theorem dX5_comeNearer_27 : decode cX5_comeNearer 27 = .ok (.aload_n 0, 1) := by decide +kernel
theorem dX5_comeNearer_28 : decode cX5_comeNearer 28 = .ok (.iload 4, 2) := by decide +kernel
theorem dX5_comeNearer_30 : decode cX5_comeNearer 30 = .ok (.iaload, 1) := by decide +kernel
theorem dX5_comeNearer_31 : decode cX5_comeNearer 31 = .ok (.aload_n 0, 1) := by decide +kernel
theorem dX5_comeNearer_32 : decode cX5_comeNearer 32 = .ok (.iload_n 3, 1) := by decide +kernel
theorem dX5_comeNearer_33 : decode cX5_comeNearer 33 = .ok (.iaload, 1) := by decide +kernel
theorem dX5_comeNearer_34 : decode cX5_comeNearer 34 = .ok (.isub, 1) := by decide +kernel
theorem dX5_comeNearer_35 : decode cX5_comeNearer 35 = .ok (.istore 5, 2) := by decide +kernel
theorem dX5_comeNearer_37 : decode cX5_comeNearer 37 = .ok (.iload 5, 2) := by decide +kernel
theorem dX5_comeNearer_39 : decode cX5_comeNearer 39 = .ok (.iconst 2, 1) := by decide +kernel
theorem dX5_comeNearer_40 : decode cX5_comeNearer 40 = .ok (.if_icmp .lt 21, 3) := by decide +kernel
theorem dX5_comeNearer_43 : decode cX5_comeNearer 43 = .ok (.aload_n 0, 1) := by decide +kernel
theorem dX5_comeNearer_44 : decode cX5_comeNearer 44 = .ok (.iload_n 3, 1) := by decide +kernel
theorem dX5_comeNearer_45 : decode cX5_comeNearer 45 = .ok (.dup2, 1) := by decide +kernel
theorem dX5_comeNearer_46 : decode cX5_comeNearer 46 = .ok (.iaload, 1) := by decide +kernel
theorem dX5_comeNearer_47 : decode cX5_comeNearer 47 = .ok (.iconst 1, 1) := by decide +kernel
theorem dX5_comeNearer_48 : decode cX5_comeNearer 48 = .ok (.iadd, 1) := by decide +kernel
theorem dX5_comeNearer_49 : decode cX5_comeNearer 49 = .ok (.iastore, 1) := by decide +kernel
theorem dX5_comeNearer_50 : decode cX5_comeNearer 50 = .ok (.aload_n 0, 1) := by decide +kernel
theorem dX5_comeNearer_51 : decode cX5_comeNearer 51 = .ok (.iload 4, 2) := by decide +kernel
theorem dX5_comeNearer_53 : decode cX5_comeNearer 53 = .ok (.dup2, 1) := by decide +kernel
theorem dX5_comeNearer_54 : decode cX5_comeNearer 54 = .ok (.iaload, 1) := by decide +kernel
theorem dX5_comeNearer_55 : decode cX5_comeNearer 55 = .ok (.iconst 1, 1) := by decide +kernel
theorem dX5_comeNearer_56 : decode cX5_comeNearer 56 = .ok (.isub, 1) := by decide +kernel
theorem dX5_comeNearer_57 : decode cX5_comeNearer 57 = .ok (.iastore, 1) := by decide +kernel
theorem dX5_comeNearer_58 : decode cX5_comeNearer 58 = .ok (.goto 16, 3) := by decide +kernel
theorem dX5_comeNearer_61 : decode cX5_comeNearer 61 = .ok (.iload 5, 2) := by decide +kernel
theorem dX5_comeNearer_63 : decode cX5_comeNearer 63 = .ok (.iconst 1, 1) := by decide +kernel
theorem dX5_comeNearer_64 : decode cX5_comeNearer 64 = .ok (.if_icmp .ne 10, 3) := by decide +kernel
theorem dX5_comeNearer_67 : decode cX5_comeNearer 67 = .ok (.aload_n 0, 1) := by decide +kernel
theorem dX5_comeNearer_68 : decode cX5_comeNearer 68 = .ok (.iload_n 3, 1) := by decide +kernel
theorem dX5_comeNearer_69 : decode cX5_comeNearer 69 = .ok (.dup2, 1) := by decide +kernel
theorem dX5_comeNearer_70 : decode cX5_comeNearer 70 = .ok (.iaload, 1) := by decide +kernel
theorem dX5_comeNearer_71 : decode cX5_comeNearer 71 = .ok (.iconst 1, 1) := by decide +kernel
theorem dX5_comeNearer_72 : decode cX5_comeNearer 72 = .ok (.iadd, 1) := by decide +kernel
theorem dX5_comeNearer_73 : decode cX5_comeNearer 73 = .ok (.iastore, 1) := by decide +kernel
theorem dX5_comeNearer_74 : decode cX5_comeNearer 74 = .ok (.return_, 1) := by decide +kernel
theorem dJ6_bitCount_0f7a4_0 : decode cJ6_bitCount_0f7a4 0 = .ok (.iload_n 0, 1) := by decide +kernel
theorem dJ6_bitCount_0f7a4_1 : decode cJ6_bitCount_0f7a4 1 = .ok (.iload_n 0, 1) := by decide +kernel
theorem dJ6_bitCount_0f7a4_2 : decode cJ6_bitCount_0f7a4 2 = .ok (.iconst 1, 1) := by decide +kernel
theorem dJ6_bitCount_0f7a4_3 : decode cJ6_bitCount_0f7a4 3 = .ok (.iushr, 1) := by decide +kernel
theorem dJ6_bitCount_0f7a4_4 : decode cJ6_bitCount_0f7a4 4 = .ok (.ldc_w 265, 3) := by decide +kernel
theorem dJ6_bitCount_0f7a4_7 : decode cJ6_bitCount_0f7a4 7 = .ok (.iand, 1) := by decide +kernel
theorem dJ6_bitCount_0f7a4_8 : decode cJ6_bitCount_0f7a4 8 = .ok (.isub, 1) := by decide +kernel
theorem dJ6_bitCount_0f7a4_9 : decode cJ6_bitCount_0f7a4 9 = .ok (.istore_n 0, 1) := by decide +kernel
theorem dJ6_bitCount_0f7a4_10 : decode cJ6_bitCount_0f7a4 10 = .ok (.iload_n 0, 1) := by decide +kernel
theorem dJ6_bitCount_0f7a4_11 : decode cJ6_bitCount_0f7a4 11 = .ok (.ldc_w 266, 3) := by decide +kernel
theorem dJ6_bitCount_0f7a4_14 : decode cJ6_bitCount_0f7a4 14 = .ok (.iand, 1) := by decide +kernel
theorem dJ6_bitCount_0f7a4_15 : decode cJ6_bitCount_0f7a4 15 = .ok (.iload_n 0, 1) := by decide +kernel
theorem dJ6_bitCount_0f7a4_16 : decode cJ6_bitCount_0f7a4 16 = .ok (.iconst 2, 1) := by decide +kernel
theorem dJ6_bitCount_0f7a4_17 : decode cJ6_bitCount_0f7a4 17 = .ok (.iushr, 1) := by decide +kernel
theorem dJ6_bitCount_0f7a4_18 : decode cJ6_bitCount_0f7a4 18 = .ok (.ldc_w 266, 3) := by decide +kernel
theorem dJ6_bitCount_0f7a4_21 : decode cJ6_bitCount_0f7a4 21 = .ok (.iand, 1) := by decide +kernel
theorem dJ6_bitCount_0f7a4_22 : decode cJ6_bitCount_0f7a4 22 = .ok (.iadd, 1) := by decide +kernel
theorem dJ6_bitCount_0f7a4_23 : decode cJ6_bitCount_0f7a4 23 = .ok (.istore_n 0, 1) := by decide +kernel
theorem dJ6_bitCount_0f7a4_24 : decode cJ6_bitCount_0f7a4 24 = .ok (.iload_n 0, 1) := by decide +kernel
theorem dJ6_bitCount_0f7a4_25 : decode cJ6_bitCount_0f7a4 25 = .ok (.iload_n 0, 1) := by decide +kernel
theorem dJ6_bitCount_0f7a4_26 : decode cJ6_bitCount_0f7a4 26 = .ok (.iconst 4, 1) := by decide +kernel
theorem dJ6_bitCount_0f7a4_27 : decode cJ6_bitCount_0f7a4 27 = .ok (.iushr, 1) := by decide +kernel
theorem dJ6_bitCount_0f7a4_28 : decode cJ6_bitCount_0f7a4 28 = .ok (.iadd, 1) := by decide +kernel
theorem dJ6_bitCount_0f7a4_29 : decode cJ6_bitCount_0f7a4 29 = .ok (.ldc_w 267, 3) := by decide +kernel
theorem dJ6_bitCount_0f7a4_32 : decode cJ6_bitCount_0f7a4 32 = .ok (.iand, 1) := by decide +kernel
theorem dJ6_bitCount_0f7a4_33 : decode cJ6_bitCount_0f7a4 33 = .ok (.istore_n 0, 1) := by decide +kernel
theorem dJ6_bitCount_0f7a4_34 : decode cJ6_bitCount_0f7a4 34 = .ok (.iload_n 0, 1) := by decide +kernel
theorem dJ6_bitCount_0f7a4_35 : decode cJ6_bitCount_0f7a4 35 = .ok (.iload_n 0, 1) := by decide +kernel
theorem dJ6_bitCount_0f7a4_36 : decode cJ6_bitCount_0f7a4 36 = .ok (.bipush 8, 2) := by decide +kernel
theorem dJ6_bitCount_0f7a4_38 : decode cJ6_bitCount_0f7a4 38 = .ok (.iushr, 1) := by decide +kernel
theorem dJ6_bitCount_0f7a4_39 : decode cJ6_bitCount_0f7a4 39 = .ok (.iadd, 1) := by decide +kernel
theorem dJ6_bitCount_0f7a4_40 : decode cJ6_bitCount_0f7a4 40 = .ok (.istore_n 0, 1) := by decide +kernel
theorem dJ6_bitCount_0f7a4_41 : decode cJ6_bitCount_0f7a4 41 = .ok (.iload_n 0, 1) := by decide +kernel
theorem dJ6_bitCount_0f7a4_42 : decode cJ6_bitCount_0f7a4 42 = .ok (.iload_n 0, 1) := by decide +kernel
theorem dJ6_bitCount_0f7a4_43 : decode cJ6_bitCount_0f7a4 43 = .ok (.bipush 16, 2) := by decide +kernel
theorem dJ6_bitCount_0f7a4_45 : decode cJ6_bitCount_0f7a4 45 = .ok (.iushr, 1) := by decide +kernel
theorem dJ6_bitCount_0f7a4_46 : decode cJ6_bitCount_0f7a4 46 = .ok (.iadd, 1) := by decide +kernel
theorem dJ6_bitCount_0f7a4_47 : decode cJ6_bitCount_0f7a4 47 = .ok (.istore_n 0, 1) := by decide +kernel
theorem dJ6_bitCount_0f7a4_48 : decode cJ6_bitCount_0f7a4 48 = .ok (.iload_n 0, 1) := by decide +kernel
theorem dJ6_bitCount_0f7a4_49 : decode cJ6_bitCount_0f7a4 49 = .ok (.bipush 63, 2) := by decide +kernel
theorem dJ6_bitCount_0f7a4_51 : decode cJ6_bitCount_0f7a4 51 = .ok (.iand, 1) := by decide +kernel
theorem dJ6_bitCount_0f7a4_52 : decode cJ6_bitCount_0f7a4 52 = .ok (.ireturn, 1) := by decide +kernel
theorem dJ9_abs_0f7a4_0 : decode cJ9_abs_0f7a4 0 = .ok (.iload_n 0, 1) := by decide +kernel
theorem dJ9_abs_0f7a4_1 : decode cJ9_abs_0f7a4 1 = .ok (.ifCond .ge 8, 3) := by decide +kernel
theorem dJ9_abs_0f7a4_4 : decode cJ9_abs_0f7a4 4 = .ok (.iload_n 0, 1) := by decide +kernel
theorem dJ9_abs_0f7a4_5 : decode cJ9_abs_0f7a4 5 = .ok (.ineg, 1) := by decide +kernel
theorem dJ9_abs_0f7a4_6 : decode cJ9_abs_0f7a4 6 = .ok (.goto 4, 3) := by decide +kernel
theorem dJ9_abs_0f7a4_9 : decode cJ9_abs_0f7a4 9 = .ok (.iload_n 0, 1) := by decide +kernel
theorem dJ9_abs_0f7a4_10 : decode cJ9_abs_0f7a4 10 = .ok (.ireturn, 1) := by decide +kernel
theorem dJ9_max_7cf53_0 : decode cJ9_max_7cf53 0 = .ok (.iload_n 0, 1) := by decide +kernel
theorem dJ9_max_7cf53_1 : decode cJ9_max_7cf53 1 = .ok (.iload_n 1, 1) := by decide +kernel
theorem dJ9_max_7cf53_2 : decode cJ9_max_7cf53 2 = .ok (.if_icmp .lt 7, 3) := by decide +kernel
theorem dJ9_max_7cf53_5 : decode cJ9_max_7cf53 5 = .ok (.iload_n 0, 1) := by decide +kernel
theorem dJ9_max_7cf53_6 : decode cJ9_max_7cf53 6 = .ok (.goto 4, 3) := by decide +kernel
theorem dJ9_max_7cf53_9 : decode cJ9_max_7cf53 9 = .ok (.iload_n 1, 1) := by decide +kernel
theorem dJ9_max_7cf53_10 : decode cJ9_max_7cf53 10 = .ok (.ireturn, 1) := by decide +kernel
theorem dJ9_min_7cf53_0 : decode cJ9_min_7cf53 0 = .ok (.iload_n 0, 1) := by decide +kernel
theorem dJ9_min_7cf53_1 : decode cJ9_min_7cf53 1 = .ok (.iload_n 1, 1) := by decide +kernel
theorem dJ9_min_7cf53_2 : decode cJ9_min_7cf53 2 = .ok (.if_icmp .gt 7, 3) := by decide +kernel
theorem dJ9_min_7cf53_5 : decode cJ9_min_7cf53 5 = .ok (.iload_n 0, 1) := by decide +kernel
theorem dJ9_min_7cf53_6 : decode cJ9_min_7cf53 6 = .ok (.goto 4, 3) := by decide +kernel
theorem dJ9_min_7cf53_9 : decode cJ9_min_7cf53 9 = .ok (.iload_n 1, 1) := by decide +kernel
theorem dJ9_min_7cf53_10 : decode cJ9_min_7cf53 10 = .ok (.ireturn, 1) := by decide +kernel
theorem dJ0_length_8abf5_0 : decode cJ0_length_8abf5 0 = .ok (.aload_n 0, 1) := by decide +kernel
theorem dJ0_length_8abf5_1 : decode cJ0_length_8abf5 1 = .ok (.getfield 9, 3) := by decide +kernel
theorem dJ0_length_8abf5_4 : decode cJ0_length_8abf5 4 = .ok (.arraylength, 1) := by decide +kernel
theorem dJ0_length_8abf5_5 : decode cJ0_length_8abf5 5 = .ok (.aload_n 0, 1) := by decide +kernel
theorem dJ0_length_8abf5_6 : decode cJ0_length_8abf5 6 = .ok (.invokevirtual 335, 3) := by decide +kernel
theorem dJ0_length_8abf5_9 : decode cJ0_length_8abf5 9 = .ok (.ishr, 1) := by decide +kernel
theorem dJ0_length_8abf5_10 : decode cJ0_length_8abf5 10 = .ok (.ireturn, 1) := by decide +kernel
theorem dJ0_charAt_5068e_0 : decode cJ0_charAt_5068e 0 = .ok (.aload_n 0, 1) := by decide +kernel
theorem dJ0_charAt_5068e_1 : decode cJ0_charAt_5068e 1 = .ok (.invokevirtual 492, 3) := by decide +kernel
theorem dJ0_charAt_5068e_4 : decode cJ0_charAt_5068e 4 = .ok (.ifCond .eq 12, 3) := by decide +kernel
theorem dJ0_charAt_5068e_7 : decode cJ0_charAt_5068e 7 = .ok (.aload_n 0, 1) := by decide +kernel
theorem dJ0_charAt_5068e_8 : decode cJ0_charAt_5068e 8 = .ok (.getfield 9, 3) := by decide +kernel
theorem dJ0_charAt_5068e_11 : decode cJ0_charAt_5068e 11 = .ok (.iload_n 1, 1) := by decide +kernel
theorem dJ0_charAt_5068e_12 : decode cJ0_charAt_5068e 12 = .ok (.invokestatic 495, 3) := by decide +kernel
theorem dJ0_charAt_5068e_15 : decode cJ0_charAt_5068e 15 = .ok (.ireturn, 1) := by decide +kernel
theorem dJ0_charAt_5068e_16 : decode cJ0_charAt_5068e 16 = .ok (.aload_n 0, 1) := by decide +kernel
theorem dJ0_charAt_5068e_17 : decode cJ0_charAt_5068e 17 = .ok (.getfield 9, 3) := by decide +kernel
theorem dJ0_charAt_5068e_20 : decode cJ0_charAt_5068e 20 = .ok (.iload_n 1, 1) := by decide +kernel
theorem dJ0_charAt_5068e_21 : decode cJ0_charAt_5068e 21 = .ok (.invokestatic 498, 3) := by decide +kernel
theorem dJ0_charAt_5068e_24 : decode cJ0_charAt_5068e 24 = .ok (.ireturn, 1) := by decide +kernel
theorem dJ0_coder_7d493_0 : decode cJ0_coder_7d493 0 = .ok (.getstatic 38, 3) := by decide +kernel
theorem dJ0_coder_7d493_3 : decode cJ0_coder_7d493 3 = .ok (.ifCond .eq 10, 3) := by decide +kernel
theorem dJ0_coder_7d493_6 : decode cJ0_coder_7d493 6 = .ok (.aload_n 0, 1) := by decide +kernel
theorem dJ0_coder_7d493_7 : decode cJ0_coder_7d493 7 = .ok (.getfield 15, 3) := by decide +kernel
theorem dJ0_coder_7d493_10 : decode cJ0_coder_7d493 10 = .ok (.goto 4, 3) := by decide +kernel
theorem dJ0_coder_7d493_13 : decode cJ0_coder_7d493 13 = .ok (.iconst 1, 1) := by decide +kernel
theorem dJ0_coder_7d493_14 : decode cJ0_coder_7d493 14 = .ok (.ireturn, 1) := by decide +kernel
theorem dJ0_isLatin1_aae02_0 : decode cJ0_isLatin1_aae02 0 = .ok (.getstatic 38, 3) := by decide +kernel
theorem dJ0_isLatin1_aae02_3 : decode cJ0_isLatin1_aae02 3 = .ok (.ifCond .eq 14, 3) := by decide +kernel
theorem dJ0_isLatin1_aae02_6 : decode cJ0_isLatin1_aae02 6 = .ok (.aload_n 0, 1) := by decide +kernel
theorem dJ0_isLatin1_aae02_7 : decode cJ0_isLatin1_aae02 7 = .ok (.getfield 15, 3) := by decide +kernel
theorem dJ0_isLatin1_aae02_10 : decode cJ0_isLatin1_aae02 10 = .ok (.ifCond .ne 7, 3) := by decide +kernel
theorem dJ0_isLatin1_aae02_13 : decode cJ0_isLatin1_aae02 13 = .ok (.iconst 1, 1) := by decide +kernel
theorem dJ0_isLatin1_aae02_14 : decode cJ0_isLatin1_aae02 14 = .ok (.goto 4, 3) := by decide +kernel
theorem dJ0_isLatin1_aae02_17 : decode cJ0_isLatin1_aae02 17 = .ok (.iconst 0, 1) := by decide +kernel
theorem dJ0_isLatin1_aae02_18 : decode cJ0_isLatin1_aae02 18 = .ok (.ireturn, 1) := by decide +kernel
theorem dJ0_checkIndex_df160_0 : decode cJ0_checkIndex_df160 0 = .ok (.iload_n 0, 1) := by decide +kernel
theorem dJ0_checkIndex_df160_1 : decode cJ0_checkIndex_df160 1 = .ok (.iload_n 1, 1) := by decide +kernel
theorem dJ0_checkIndex_df160_2 : decode cJ0_checkIndex_df160 2 = .ok (.getstatic 1053, 3) := by decide +kernel
theorem dJ0_checkIndex_df160_5 : decode cJ0_checkIndex_df160 5 = .ok (.invokestatic 1059, 3) := by decide +kernel
theorem dJ0_checkIndex_df160_8 : decode cJ0_checkIndex_df160 8 = .ok (.pop, 1) := by decide +kernel
theorem dJ0_checkIndex_df160_9 : decode cJ0_checkIndex_df160 9 = .ok (.return_, 1) := by decide +kernel
theorem dJ1_charAt_3b067_0 : decode cJ1_charAt_3b067 0 = .ok (.iload_n 1, 1) := by decide +kernel
theorem dJ1_charAt_3b067_1 : decode cJ1_charAt_3b067 1 = .ok (.aload_n 0, 1) := by decide +kernel
theorem dJ1_charAt_3b067_2 : decode cJ1_charAt_3b067 2 = .ok (.arraylength, 1) := by decide +kernel
theorem dJ1_charAt_3b067_3 : decode cJ1_charAt_3b067 3 = .ok (.invokestatic 9, 3) := by decide +kernel
theorem dJ1_charAt_3b067_6 : decode cJ1_charAt_3b067 6 = .ok (.aload_n 0, 1) := by decide +kernel
theorem dJ1_charAt_3b067_7 : decode cJ1_charAt_3b067 7 = .ok (.iload_n 1, 1) := by decide +kernel
theorem dJ1_charAt_3b067_8 : decode cJ1_charAt_3b067 8 = .ok (.baload, 1) := by decide +kernel
theorem dJ1_charAt_3b067_9 : decode cJ1_charAt_3b067 9 = .ok (.sipush 255, 3) := by decide +kernel
theorem dJ1_charAt_3b067_12 : decode cJ1_charAt_3b067 12 = .ok (.iand, 1) := by decide +kernel
theorem dJ1_charAt_3b067_13 : decode cJ1_charAt_3b067 13 = .ok (.i2c, 1) := by decide +kernel
theorem dJ1_charAt_3b067_14 : decode cJ1_charAt_3b067 14 = .ok (.ireturn, 1) := by decide +kernel
theorem dJ2_getChar_3b067_0 : decode cJ2_getChar_3b067 0 = .ok (.getstatic 44, 3) := by decide +kernel
theorem dJ2_getChar_3b067_3 : decode cJ2_getChar_3b067 3 = .ok (.ifCond .ne 25, 3) := by decide +kernel
theorem dJ2_getChar_3b067_6 : decode cJ2_getChar_3b067 6 = .ok (.iload_n 1, 1) := by decide +kernel
theorem dJ2_getChar_3b067_7 : decode cJ2_getChar_3b067 7 = .ok (.ifCond .lt 11, 3) := by decide +kernel
theorem dJ2_getChar_3b067_10 : decode cJ2_getChar_3b067 10 = .ok (.iload_n 1, 1) := by decide +kernel
theorem dJ2_getChar_3b067_11 : decode cJ2_getChar_3b067 11 = .ok (.aload_n 0, 1) := by decide +kernel
theorem dJ2_getChar_3b067_12 : decode cJ2_getChar_3b067 12 = .ok (.invokestatic 48, 3) := by decide +kernel
theorem dJ2_getChar_3b067_15 : decode cJ2_getChar_3b067 15 = .ok (.if_icmp .lt 13, 3) := by decide +kernel
theorem dJ2_getChar_3b067_18 : decode cJ2_getChar_3b067 18 = .ok (.new 52, 3) := by decide +kernel
theorem dJ2_getChar_3b067_21 : decode cJ2_getChar_3b067 21 = .ok (.dup, 1) := by decide +kernel
theorem dJ2_getChar_3b067_22 : decode cJ2_getChar_3b067 22 = .ok (.ldc 54, 2) := by decide +kernel
theorem dJ2_getChar_3b067_24 : decode cJ2_getChar_3b067 24 = .ok (.invokespecial 56, 3) := by decide +kernel
theorem dJ2_getChar_3b067_27 : decode cJ2_getChar_3b067 27 = .ok (.athrow, 1) := by decide +kernel
theorem dJ2_getChar_3b067_28 : decode cJ2_getChar_3b067 28 = .ok (.iload_n 1, 1) := by decide +kernel
theorem dJ2_getChar_3b067_29 : decode cJ2_getChar_3b067 29 = .ok (.iconst 1, 1) := by decide +kernel
theorem dJ2_getChar_3b067_30 : decode cJ2_getChar_3b067 30 = .ok (.ishl, 1) := by decide +kernel
theorem dJ2_getChar_3b067_31 : decode cJ2_getChar_3b067 31 = .ok (.istore_n 1, 1) := by decide +kernel
theorem dJ2_getChar_3b067_32 : decode cJ2_getChar_3b067 32 = .ok (.aload_n 0, 1) := by decide +kernel
theorem dJ2_getChar_3b067_33 : decode cJ2_getChar_3b067 33 = .ok (.iload_n 1, 1) := by decide +kernel
theorem dJ2_getChar_3b067_34 : decode cJ2_getChar_3b067 34 = .ok (.iinc 1 1, 3) := by decide +kernel
theorem dJ2_getChar_3b067_37 : decode cJ2_getChar_3b067 37 = .ok (.baload, 1) := by decide +kernel
theorem dJ2_getChar_3b067_38 : decode cJ2_getChar_3b067 38 = .ok (.sipush 255, 3) := by decide +kernel
theorem dJ2_getChar_3b067_41 : decode cJ2_getChar_3b067 41 = .ok (.iand, 1) := by decide +kernel
theorem dJ2_getChar_3b067_42 : decode cJ2_getChar_3b067 42 = .ok (.getstatic 59, 3) := by decide +kernel
theorem dJ2_getChar_3b067_45 : decode cJ2_getChar_3b067 45 = .ok (.ishl, 1) := by decide +kernel
theorem dJ2_getChar_3b067_46 : decode cJ2_getChar_3b067 46 = .ok (.aload_n 0, 1) := by decide +kernel
theorem dJ2_getChar_3b067_47 : decode cJ2_getChar_3b067 47 = .ok (.iload_n 1, 1) := by decide +kernel
theorem dJ2_getChar_3b067_48 : decode cJ2_getChar_3b067 48 = .ok (.baload, 1) := by decide +kernel
theorem dJ2_getChar_3b067_49 : decode cJ2_getChar_3b067 49 = .ok (.sipush 255, 3) := by decide +kernel
theorem dJ2_getChar_3b067_52 : decode cJ2_getChar_3b067 52 = .ok (.iand, 1) := by decide +kernel
theorem dJ2_getChar_3b067_53 : decode cJ2_getChar_3b067 53 = .ok (.getstatic 63, 3) := by decide +kernel
theorem dJ2_getChar_3b067_56 : decode cJ2_getChar_3b067 56 = .ok (.ishl, 1) := by decide +kernel
theorem dJ2_getChar_3b067_57 : decode cJ2_getChar_3b067 57 = .ok (.ior, 1) := by decide +kernel
theorem dJ2_getChar_3b067_58 : decode cJ2_getChar_3b067 58 = .ok (.i2c, 1) := by decide +kernel
theorem dJ2_getChar_3b067_59 : decode cJ2_getChar_3b067 59 = .ok (.ireturn, 1) := by decide +kernel
theorem dJ2_length_9d52b_0 : decode cJ2_length_9d52b 0 = .ok (.aload_n 0, 1) := by decide +kernel
theorem dJ2_length_9d52b_1 : decode cJ2_length_9d52b 1 = .ok (.arraylength, 1) := by decide +kernel
theorem dJ2_length_9d52b_2 : decode cJ2_length_9d52b 2 = .ok (.iconst 1, 1) := by decide +kernel
theorem dJ2_length_9d52b_3 : decode cJ2_length_9d52b 3 = .ok (.ishr, 1) := by decide +kernel
theorem dJ2_length_9d52b_4 : decode cJ2_length_9d52b 4 = .ok (.ireturn, 1) := by decide +kernel
theorem dJ2_charAt_3b067_0 : decode cJ2_charAt_3b067 0 = .ok (.iload_n 1, 1) := by decide +kernel
theorem dJ2_charAt_3b067_1 : decode cJ2_charAt_3b067 1 = .ok (.aload_n 0, 1) := by decide +kernel
theorem dJ2_charAt_3b067_2 : decode cJ2_charAt_3b067 2 = .ok (.invokestatic 67, 3) := by decide +kernel
theorem dJ2_charAt_3b067_5 : decode cJ2_charAt_3b067 5 = .ok (.aload_n 0, 1) := by decide +kernel
theorem dJ2_charAt_3b067_6 : decode cJ2_charAt_3b067 6 = .ok (.iload_n 1, 1) := by decide +kernel
theorem dJ2_charAt_3b067_7 : decode cJ2_charAt_3b067 7 = .ok (.invokestatic 71, 3) := by decide +kernel
theorem dJ2_charAt_3b067_10 : decode cJ2_charAt_3b067 10 = .ok (.ireturn, 1) := by decide +kernel
theorem dJ2_checkIndex_2214a_0 : decode cJ2_checkIndex_2214a 0 = .ok (.iload_n 0, 1) := by decide +kernel
theorem dJ2_checkIndex_2214a_1 : decode cJ2_checkIndex_2214a 1 = .ok (.aload_n 1, 1) := by decide +kernel
theorem dJ2_checkIndex_2214a_2 : decode cJ2_checkIndex_2214a 2 = .ok (.invokestatic 48, 3) := by decide +kernel
theorem dJ2_checkIndex_2214a_5 : decode cJ2_checkIndex_2214a 5 = .ok (.invokestatic 414, 3) := by decide +kernel
theorem dJ2_checkIndex_2214a_8 : decode cJ2_checkIndex_2214a 8 = .ok (.return_, 1) := by decide +kernel
theorem dJ7_fill_53178_0 : decode cJ7_fill_53178 0 = .ok (.iconst 0, 1) := by decide +kernel
theorem dJ7_fill_53178_1 : decode cJ7_fill_53178 1 = .ok (.istore_n 2, 1) := by decide +kernel
theorem dJ7_fill_53178_2 : decode cJ7_fill_53178 2 = .ok (.aload_n 0, 1) := by decide +kernel
theorem dJ7_fill_53178_3 : decode cJ7_fill_53178 3 = .ok (.arraylength, 1) := by decide +kernel
theorem dJ7_fill_53178_4 : decode cJ7_fill_53178 4 = .ok (.istore_n 3, 1) := by decide +kernel
theorem dJ7_fill_53178_5 : decode cJ7_fill_53178 5 = .ok (.iload_n 2, 1) := by decide +kernel
theorem dJ7_fill_53178_6 : decode cJ7_fill_53178 6 = .ok (.iload_n 3, 1) := by decide +kernel
theorem dJ7_fill_53178_7 : decode cJ7_fill_53178 7 = .ok (.if_icmp .ge 13, 3) := by decide +kernel
theorem dJ7_fill_53178_10 : decode cJ7_fill_53178 10 = .ok (.aload_n 0, 1) := by decide +kernel
theorem dJ7_fill_53178_11 : decode cJ7_fill_53178 11 = .ok (.iload_n 2, 1) := by decide +kernel
theorem dJ7_fill_53178_12 : decode cJ7_fill_53178 12 = .ok (.iload_n 1, 1) := by decide +kernel
theorem dJ7_fill_53178_13 : decode cJ7_fill_53178 13 = .ok (.iastore, 1) := by decide +kernel
theorem dJ7_fill_53178_14 : decode cJ7_fill_53178 14 = .ok (.iinc 2 1, 3) := by decide +kernel
theorem dJ7_fill_53178_17 : decode cJ7_fill_53178 17 = .ok (.goto (-12), 3) := by decide +kernel
theorem dJ7_fill_53178_20 : decode cJ7_fill_53178 20 = .ok (.return_, 1) := by decide +kernel
theorem dJ3_checkIndex_8e157_0 : decode cJ3_checkIndex_8e157 0 = .ok (.iload_n 0, 1) := by decide +kernel
theorem dJ3_checkIndex_8e157_1 : decode cJ3_checkIndex_8e157 1 = .ok (.ifCond .lt 8, 3) := by decide +kernel
theorem dJ3_checkIndex_8e157_4 : decode cJ3_checkIndex_8e157 4 = .ok (.iload_n 0, 1) := by decide +kernel
theorem dJ3_checkIndex_8e157_5 : decode cJ3_checkIndex_8e157 5 = .ok (.iload_n 1, 1) := by decide +kernel
theorem dJ3_checkIndex_8e157_6 : decode cJ3_checkIndex_8e157 6 = .ok (.if_icmp .lt 10, 3) := by decide +kernel
theorem dJ3_checkIndex_8e157_9 : decode cJ3_checkIndex_8e157 9 = .ok (.aload_n 2, 1) := by decide +kernel
theorem dJ3_checkIndex_8e157_10 : decode cJ3_checkIndex_8e157 10 = .ok (.iload_n 0, 1) := by decide +kernel
theorem dJ3_checkIndex_8e157_11 : decode cJ3_checkIndex_8e157 11 = .ok (.iload_n 1, 1) := by decide +kernel
theorem dJ3_checkIndex_8e157_12 : decode cJ3_checkIndex_8e157 12 = .ok (.invokestatic 95, 3) := by decide +kernel
theorem dJ3_checkIndex_8e157_15 : decode cJ3_checkIndex_8e157 15 = .ok (.athrow, 1) := by decide +kernel
theorem dJ3_checkIndex_8e157_16 : decode cJ3_checkIndex_8e157 16 = .ok (.iload_n 0, 1) := by decide +kernel
theorem dJ3_checkIndex_8e157_17 : decode cJ3_checkIndex_8e157 17 = .ok (.ireturn, 1) := by decide +kernel
end
section
theorem dX6_init_0 : decode cX6_init 0 = .ok (.aload_n 0, 1) := by decide +kernel
theorem dX6_init_1 : decode cX6_init 1 = .ok (.invokespecial 1, 3) := by decide +kernel
theorem dX6_init_4 : decode cX6_init 4 = .ok (.aload_n 0, 1) := by decide +kernel
theorem dX6_init_5 : decode cX6_init 5 = .ok (.new 7, 3) := by decide +kernel
theorem dX6_init_8 : decode cX6_init 8 = .ok (.dup, 1) := by decide +kernel
theorem dX6_init_9 : decode cX6_init 9 = .ok (.invokespecial 9, 3) := by decide +kernel
theorem dX6_init_12 : decode cX6_init 12 = .ok (.putfield 10, 3) := by decide +kernel
theorem dX6_init_15 : decode cX6_init 15 = .ok (.aload_n 0, 1) := by decide +kernel
theorem dX6_init_16 : decode cX6_init 16 = .ok (.new 7, 3) := by decide +kernel
theorem dX6_init_19 : decode cX6_init 19 = .ok (.dup, 1) := by decide +kernel
theorem dX6_init_20 : decode cX6_init 20 = .ok (.invokespecial 9, 3) := by decide +kernel
theorem dX6_init_23 : decode cX6_init 23 = .ok (.putfield 16, 3) := by decide +kernel
theorem dX6_init_26 : decode cX6_init 26 = .ok (.aload_n 0, 1) := by decide +kernel
theorem dX6_init_27 : decode cX6_init 27 = .ok (.new 7, 3) := by decide +kernel
theorem dX6_init_30 : decode cX6_init 30 = .ok (.dup, 1) := by decide +kernel
theorem dX6_init_31 : decode cX6_init 31 = .ok (.invokespecial 9, 3) := by decide +kernel
theorem dX6_init_34 : decode cX6_init 34 = .ok (.putfield 19, 3) := by decide +kernel
theorem dX6_init_37 : decode cX6_init 37 = .ok (.aload_n 0, 1) := by decide +kernel
theorem dX6_init_38 : decode cX6_init 38 = .ok (.new 7, 3) := by decide +kernel
theorem dX6_init_41 : decode cX6_init 41 = .ok (.dup, 1) := by decide +kernel
theorem dX6_init_42 : decode cX6_init 42 = .ok (.invokespecial 9, 3) := by decide +kernel
theorem dX6_init_45 : decode cX6_init 45 = .ok (.putfield 22, 3) := by decide +kernel
theorem dX6_init_48 : decode cX6_init 48 = .ok (.aload_n 0, 1) := by decide +kernel
theorem dX6_init_49 : decode cX6_init 49 = .ok (.new 25, 3) := by decide +kernel
theorem dX6_init_52 : decode cX6_init 52 = .ok (.dup, 1) := by decide +kernel
theorem dX6_init_53 : decode cX6_init 53 = .ok (.invokespecial 27, 3) := by decide +kernel
theorem dX6_init_56 : decode cX6_init 56 = .ok (.putfield 28, 3) := by decide +kernel
theorem dX6_init_59 : decode cX6_init 59 = .ok (.aload_n 0, 1) := by decide +kernel
theorem dX6_init_60 : decode cX6_init 60 = .ok (.new 32, 3) := by decide +kernel
theorem dX6_init_63 : decode cX6_init 63 = .ok (.dup, 1) := by decide +kernel
theorem dX6_init_64 : decode cX6_init 64 = .ok (.aload_n 0, 1) := by decide +kernel
theorem dX6_init_65 : decode cX6_init 65 = .ok (.getfield 28, 3) := by decide +kernel
theorem dX6_init_68 : decode cX6_init 68 = .ok (.invokespecial 34, 3) := by decide +kernel
theorem dX6_init_71 : decode cX6_init 71 = .ok (.putfield 37, 3) := by decide +kernel
theorem dX6_init_74 : decode cX6_init 74 = .ok (.aload_n 0, 1) := by decide +kernel
theorem dX6_init_75 : decode cX6_init 75 = .ok (.new 41, 3) := by decide +kernel
theorem dX6_init_78 : decode cX6_init 78 = .ok (.dup, 1) := by decide +kernel
theorem dX6_init_79 : decode cX6_init 79 = .ok (.invokespecial 43, 3) := by decide +kernel
theorem dX6_init_82 : decode cX6_init 82 = .ok (.putfield 44, 3) := by decide +kernel
theorem dX6_init_85 : decode cX6_init 85 = .ok (.aload_n 0, 1) := by decide +kernel
theorem dX6_init_86 : decode cX6_init 86 = .ok (.new 48, 3) := by decide +kernel
theorem dX6_init_89 : decode cX6_init 89 = .ok (.dup, 1) := by decide +kernel
theorem dX6_init_90 : decode cX6_init 90 = .ok (.invokespecial 50, 3) := by decide +kernel
theorem dX6_init_93 : decode cX6_init 93 = .ok (.putfield 51, 3) := by decide +kernel
theorem dX6_init_96 : decode cX6_init 96 = .ok (.aload_n 0, 1) := by decide +kernel
theorem dX6_init_97 : decode cX6_init 97 = .ok (.bipush 10, 2) := by decide +kernel
theorem dX6_init_99 : decode cX6_init 99 = .ok (.newarray .int, 2) := by decide +kernel
theorem dX6_init_101 : decode cX6_init 101 = .ok (.putfield 55, 3) := by decide +kernel
theorem dX6_init_104 : decode cX6_init 104 = .ok (.aload_n 0, 1) := by decide +kernel
theorem dX6_init_105 : decode cX6_init 105 = .ok (.iconst 4, 1) := by decide +kernel
theorem dX6_init_106 : decode cX6_init 106 = .ok (.anewarray 59, 3) := by decide +kernel
theorem dX6_init_109 : decode cX6_init 109 = .ok (.putfield 61, 3) := by decide +kernel
theorem dX6_init_112 : decode cX6_init 112 = .ok (.iconst 0, 1) := by decide +kernel
theorem dX6_init_113 : decode cX6_init 113 = .ok (.istore_n 1, 1) := by decide +kernel
theorem dX6_init_114 : decode cX6_init 114 = .ok (.iload_n 1, 1) := by decide +kernel
theorem dX6_init_115 : decode cX6_init 115 = .ok (.iconst 4, 1) := by decide +kernel
theorem dX6_init_116 : decode cX6_init 116 = .ok (.if_icmp .ge 22, 3) := by decide +kernel
theorem dX6_init_119 : decode cX6_init 119 = .ok (.aload_n 0, 1) := by decide +kernel
theorem dX6_init_120 : decode cX6_init 120 = .ok (.getfield 61, 3) := by decide +kernel
theorem dX6_init_123 : decode cX6_init 123 = .ok (.iload_n 1, 1) := by decide +kernel
theorem dX6_init_124 : decode cX6_init 124 = .ok (.new 59, 3) := by decide +kernel
theorem dX6_init_127 : decode cX6_init 127 = .ok (.dup, 1) := by decide +kernel
theorem dX6_init_128 : decode cX6_init 128 = .ok (.invokespecial 65, 3) := by decide +kernel
theorem dX6_init_131 : decode cX6_init 131 = .ok (.aastore, 1) := by decide +kernel
theorem dX6_init_132 : decode cX6_init 132 = .ok (.iinc 1 1, 3) := by decide +kernel
theorem dX6_init_135 : decode cX6_init 135 = .ok (.goto (-21), 3) := by decide +kernel
theorem dX6_init_138 : decode cX6_init 138 = .ok (.return_, 1) := by decide +kernel
theorem dX6_feed_0 : decode cX6_feed 0 = .ok (.iload_n 1, 1) := by decide +kernel
theorem dX6_feed_1 : decode cX6_feed 1 = .ok (.ifCond .lt 9, 3) := by decide +kernel
theorem dX6_feed_4 : decode cX6_feed 4 = .ok (.iload_n 1, 1) := by decide +kernel
theorem dX6_feed_5 : decode cX6_feed 5 = .ok (.bipush 127, 2) := by decide +kernel
theorem dX6_feed_7 : decode cX6_feed 7 = .ok (.if_icmp .le 5, 3) := by decide +kernel
theorem dX6_feed_10 : decode cX6_feed 10 = .ok (.iconst (-1), 1) := by decide +kernel
theorem dX6_feed_11 : decode cX6_feed 11 = .ok (.ireturn, 1) := by decide +kernel
theorem dX6_feed_12 : decode cX6_feed 12 = .ok (.aload_n 0, 1) := by decide +kernel
theorem dX6_feed_13 : decode cX6_feed 13 = .ok (.getfield 28, 3) := by decide +kernel
theorem dX6_feed_16 : decode cX6_feed 16 = .ok (.iload_n 1, 1) := by decide +kernel
theorem dX6_feed_17 : decode cX6_feed 17 = .ok (.invokevirtual 66, 3) := by decide +kernel
theorem dX6_feed_20 : decode cX6_feed 20 = .ok (.ifCond .eq 13, 3) := by decide +kernel
theorem dX6_feed_23 : decode cX6_feed 23 = .ok (.aload_n 0, 1) := by decide +kernel
theorem dX6_feed_24 : decode cX6_feed 24 = .ok (.getfield 28, 3) := by decide +kernel
theorem dX6_feed_27 : decode cX6_feed 27 = .ok (.getfield 70, 3) := by decide +kernel
theorem dX6_feed_30 : decode cX6_feed 30 = .ok (.goto 5, 3) := by decide +kernel
theorem dX6_feed_33 : decode cX6_feed 33 = .ok (.bipush (-3), 2) := by decide +kernel
theorem dX6_feed_35 : decode cX6_feed 35 = .ok (.ireturn, 1) := by decide +kernel
theorem dX6_end_0 : decode cX6_end 0 = .ok (.aload_n 0, 1) := by decide +kernel
theorem dX6_end_1 : decode cX6_end 1 = .ok (.getfield 28, 3) := by decide +kernel
theorem dX6_end_4 : decode cX6_end 4 = .ok (.getfield 70, 3) := by decide +kernel
theorem dX6_end_7 : decode cX6_end 7 = .ok (.istore_n 2, 1) := by decide +kernel
theorem dX6_end_8 : decode cX6_end 8 = .ok (.iload_n 1, 1) := by decide +kernel
theorem dX6_end_9 : decode cX6_end 9 = .ok (.ifCond .lt 8, 3) := by decide +kernel
theorem dX6_end_12 : decode cX6_end 12 = .ok (.iload_n 1, 1) := by decide +kernel
theorem dX6_end_13 : decode cX6_end 13 = .ok (.iload_n 2, 1) := by decide +kernel
theorem dX6_end_14 : decode cX6_end 14 = .ok (.if_icmp .le 5, 3) := by decide +kernel
theorem dX6_end_17 : decode cX6_end 17 = .ok (.iconst (-1), 1) := by decide +kernel
theorem dX6_end_18 : decode cX6_end 18 = .ok (.ireturn, 1) := by decide +kernel
theorem dX6_end_19 : decode cX6_end 19 = .ok (.aload_n 0, 1) := by decide +kernel
theorem dX6_end_20 : decode cX6_end 20 = .ok (.getfield 28, 3) := by decide +kernel
theorem dX6_end_23 : decode cX6_end 23 = .ok (.iload_n 1, 1) := by decide +kernel
theorem dX6_end_24 : decode cX6_end 24 = .ok (.putfield 70, 3) := by decide +kernel
theorem dX6_end_27 : decode cX6_end 27 = .ok (.iload_n 2, 1) := by decide +kernel
theorem dX6_end_28 : decode cX6_end 28 = .ok (.ireturn, 1) := by decide +kernel
theorem dX6_text_0 : decode cX6_text 0 = .ok (.aload_n 0, 1) := by decide +kernel
theorem dX6_text_1 : decode cX6_text 1 = .ok (.getfield 37, 3) := by decide +kernel
theorem dX6_text_4 : decode cX6_text 4 = .ok (.invokevirtual 74, 3) := by decide +kernel
theorem dX6_text_7 : decode cX6_text 7 = .ok (.aload_n 0, 1) := by decide +kernel
theorem dX6_text_8 : decode cX6_text 8 = .ok (.getfield 28, 3) := by decide +kernel
theorem dX6_text_11 : decode cX6_text 11 = .ok (.iconst 0, 1) := by decide +kernel
theorem dX6_text_12 : decode cX6_text 12 = .ok (.putfield 70, 3) := by decide +kernel
theorem dX6_text_15 : decode cX6_text 15 = .ok (.aload_n 0, 1) := by decide +kernel
theorem dX6_text_16 : decode cX6_text 16 = .ok (.getfield 37, 3) := by decide +kernel
theorem dX6_text_19 : decode cX6_text 19 = .ok (.getfield 77, 3) := by decide +kernel
theorem dX6_text_22 : decode cX6_text 22 = .ok (.ifCond .eq 14, 3) := by decide +kernel
theorem dX6_text_25 : decode cX6_text 25 = .ok (.bipush (-10), 2) := by decide +kernel
theorem dX6_text_27 : decode cX6_text 27 = .ok (.aload_n 0, 1) := by decide +kernel
theorem dX6_text_28 : decode cX6_text 28 = .ok (.getfield 37, 3) := by decide +kernel
theorem dX6_text_31 : decode cX6_text 31 = .ok (.getfield 80, 3) := by decide +kernel
theorem dX6_text_34 : decode cX6_text 34 = .ok (.isub, 1) := by decide +kernel
theorem dX6_text_35 : decode cX6_text 35 = .ok (.ireturn, 1) := by decide +kernel
theorem dX6_text_36 : decode cX6_text 36 = .ok (.aload_n 0, 1) := by decide +kernel
theorem dX6_text_37 : decode cX6_text 37 = .ok (.getfield 10, 3) := by decide +kernel
theorem dX6_text_40 : decode cX6_text 40 = .ok (.aload_n 0, 1) := by decide +kernel
theorem dX6_text_41 : decode cX6_text 41 = .ok (.getfield 37, 3) := by decide +kernel
theorem dX6_text_44 : decode cX6_text 44 = .ok (.getfield 83, 3) := by decide +kernel
theorem dX6_text_47 : decode cX6_text 47 = .ok (.invokevirtual 86, 3) := by decide +kernel
theorem dX6_text_50 : decode cX6_text 50 = .ok (.aload_n 0, 1) := by decide +kernel
theorem dX6_text_51 : decode cX6_text 51 = .ok (.getfield 51, 3) := by decide +kernel
theorem dX6_text_54 : decode cX6_text 54 = .ok (.iconst 0, 1) := by decide +kernel
theorem dX6_text_55 : decode cX6_text 55 = .ok (.putfield 90, 3) := by decide +kernel
theorem dX6_text_58 : decode cX6_text 58 = .ok (.aload_n 0, 1) := by decide +kernel
theorem dX6_text_59 : decode cX6_text 59 = .ok (.iconst 0, 1) := by decide +kernel
theorem dX6_text_60 : decode cX6_text 60 = .ok (.putfield 91, 3) := by decide +kernel
theorem dX6_text_63 : decode cX6_text 63 = .ok (.aload_n 0, 1) := by decide +kernel
theorem dX6_text_64 : decode cX6_text 64 = .ok (.getfield 37, 3) := by decide +kernel
theorem dX6_text_67 : decode cX6_text 67 = .ok (.getfield 94, 3) := by decide +kernel
theorem dX6_text_70 : decode cX6_text 70 = .ok (.ireturn, 1) := by decide +kernel
theorem dX6_fault_0 : decode cX6_fault 0 = .ok (.aload_n 0, 1) := by decide +kernel
theorem dX6_fault_1 : decode cX6_fault 1 = .ok (.getfield 37, 3) := by decide +kernel
theorem dX6_fault_4 : decode cX6_fault 4 = .ok (.getfield 77, 3) := by decide +kernel
theorem dX6_fault_7 : decode cX6_fault 7 = .ok (.ireturn, 1) := by decide +kernel
theorem dX6_rule_0 : decode cX6_rule 0 = .ok (.iload_n 1, 1) := by decide +kernel
theorem dX6_rule_1 : decode cX6_rule 1 = .ok (.tableswitch 75 0 4 #[35, 43, 51, 59, 67], 35) := by decide +kernel
theorem dX6_rule_36 : decode cX6_rule 36 = .ok (.aload_n 0, 1) := by decide +kernel
theorem dX6_rule_37 : decode cX6_rule 37 = .ok (.getfield 10, 3) := by decide +kernel
theorem dX6_rule_40 : decode cX6_rule 40 = .ok (.getfield 97, 3) := by decide +kernel
theorem dX6_rule_43 : decode cX6_rule 43 = .ok (.ireturn, 1) := by decide +kernel
theorem dX6_rule_44 : decode cX6_rule 44 = .ok (.aload_n 0, 1) := by decide +kernel
theorem dX6_rule_45 : decode cX6_rule 45 = .ok (.getfield 10, 3) := by decide +kernel
theorem dX6_rule_48 : decode cX6_rule 48 = .ok (.getfield 100, 3) := by decide +kernel
theorem dX6_rule_51 : decode cX6_rule 51 = .ok (.ireturn, 1) := by decide +kernel
theorem dX6_rule_52 : decode cX6_rule 52 = .ok (.aload_n 0, 1) := by decide +kernel
theorem dX6_rule_53 : decode cX6_rule 53 = .ok (.getfield 10, 3) := by decide +kernel
theorem dX6_rule_56 : decode cX6_rule 56 = .ok (.getfield 103, 3) := by decide +kernel
theorem dX6_rule_59 : decode cX6_rule 59 = .ok (.ireturn, 1) := by decide +kernel
theorem dX6_rule_60 : decode cX6_rule 60 = .ok (.aload_n 0, 1) := by decide +kernel
theorem dX6_rule_61 : decode cX6_rule 61 = .ok (.getfield 10, 3) := by decide +kernel
theorem dX6_rule_64 : decode cX6_rule 64 = .ok (.invokevirtual 106, 3) := by decide +kernel
theorem dX6_rule_67 : decode cX6_rule 67 = .ok (.ireturn, 1) := by decide +kernel
theorem dX6_rule_68 : decode cX6_rule 68 = .ok (.aload_n 0, 1) := by decide +kernel
theorem dX6_rule_69 : decode cX6_rule 69 = .ok (.getfield 10, 3) := by decide +kernel
theorem dX6_rule_72 : decode cX6_rule 72 = .ok (.getfield 110, 3) := by decide +kernel
theorem dX6_rule_75 : decode cX6_rule 75 = .ok (.ireturn, 1) := by decide +kernel
theorem dX6_rule_76 : decode cX6_rule 76 = .ok (.iconst (-1), 1) := by decide +kernel
theorem dX6_rule_77 : decode cX6_rule 77 = .ok (.ireturn, 1) := by decide +kernel
theorem dX6_hand_0 : decode cX6_hand 0 = .ok (.aload_n 0, 1) := by decide +kernel
theorem dX6_hand_1 : decode cX6_hand 1 = .ok (.getfield 10, 3) := by decide +kernel
theorem dX6_hand_4 : decode cX6_hand 4 = .ok (.iload_n 1, 1) := by decide +kernel
theorem dX6_hand_5 : decode cX6_hand 5 = .ok (.invokevirtual 113, 3) := by decide +kernel
theorem dX6_hand_8 : decode cX6_hand 8 = .ok (.ifCond .ne 5, 3) := by decide +kernel
theorem dX6_hand_11 : decode cX6_hand 11 = .ok (.iconst (-1), 1) := by decide +kernel
theorem dX6_hand_12 : decode cX6_hand 12 = .ok (.ireturn, 1) := by decide +kernel
theorem dX6_hand_13 : decode cX6_hand 13 = .ok (.iload_n 2, 1) := by decide +kernel
theorem dX6_hand_14 : decode cX6_hand 14 = .ok (.tableswitch 115 0 6 #[42, 52, 62, 72, 82, 92, 105], 42) := by decide +kernel
theorem dX6_hand_56 : decode cX6_hand 56 = .ok (.aload_n 0, 1) := by decide +kernel
theorem dX6_hand_57 : decode cX6_hand 57 = .ok (.getfield 10, 3) := by decide +kernel
theorem dX6_hand_60 : decode cX6_hand 60 = .ok (.getfield 116, 3) := by decide +kernel
theorem dX6_hand_63 : decode cX6_hand 63 = .ok (.iload_n 1, 1) := by decide +kernel
theorem dX6_hand_64 : decode cX6_hand 64 = .ok (.iaload, 1) := by decide +kernel
theorem dX6_hand_65 : decode cX6_hand 65 = .ok (.ireturn, 1) := by decide +kernel
theorem dX6_hand_66 : decode cX6_hand 66 = .ok (.aload_n 0, 1) := by decide +kernel
theorem dX6_hand_67 : decode cX6_hand 67 = .ok (.getfield 10, 3) := by decide +kernel
theorem dX6_hand_70 : decode cX6_hand 70 = .ok (.getfield 119, 3) := by decide +kernel
theorem dX6_hand_73 : decode cX6_hand 73 = .ok (.iload_n 1, 1) := by decide +kernel
theorem dX6_hand_74 : decode cX6_hand 74 = .ok (.iaload, 1) := by decide +kernel
theorem dX6_hand_75 : decode cX6_hand 75 = .ok (.ireturn, 1) := by decide +kernel
theorem dX6_hand_76 : decode cX6_hand 76 = .ok (.aload_n 0, 1) := by decide +kernel
theorem dX6_hand_77 : decode cX6_hand 77 = .ok (.getfield 10, 3) := by decide +kernel
theorem dX6_hand_80 : decode cX6_hand 80 = .ok (.getfield 122, 3) := by decide +kernel
theorem dX6_hand_83 : decode cX6_hand 83 = .ok (.iload_n 1, 1) := by decide +kernel
theorem dX6_hand_84 : decode cX6_hand 84 = .ok (.iaload, 1) := by decide +kernel
theorem dX6_hand_85 : decode cX6_hand 85 = .ok (.ireturn, 1) := by decide +kernel
theorem dX6_hand_86 : decode cX6_hand 86 = .ok (.aload_n 0, 1) := by decide +kernel
theorem dX6_hand_87 : decode cX6_hand 87 = .ok (.getfield 10, 3) := by decide +kernel
theorem dX6_hand_90 : decode cX6_hand 90 = .ok (.getfield 125, 3) := by decide +kernel
theorem dX6_hand_93 : decode cX6_hand 93 = .ok (.iload_n 1, 1) := by decide +kernel
theorem dX6_hand_94 : decode cX6_hand 94 = .ok (.iaload, 1) := by decide +kernel
theorem dX6_hand_95 : decode cX6_hand 95 = .ok (.ireturn, 1) := by decide +kernel
theorem dX6_hand_96 : decode cX6_hand 96 = .ok (.aload_n 0, 1) := by decide +kernel
theorem dX6_hand_97 : decode cX6_hand 97 = .ok (.getfield 10, 3) := by decide +kernel
theorem dX6_hand_100 : decode cX6_hand 100 = .ok (.getfield 128, 3) := by decide +kernel
theorem dX6_hand_103 : decode cX6_hand 103 = .ok (.iload_n 1, 1) := by decide +kernel
theorem dX6_hand_104 : decode cX6_hand 104 = .ok (.iaload, 1) := by decide +kernel
theorem dX6_hand_105 : decode cX6_hand 105 = .ok (.ireturn, 1) := by decide +kernel
theorem dX6_hand_106 : decode cX6_hand 106 = .ok (.aload_n 0, 1) := by decide +kernel
theorem dX6_hand_107 : decode cX6_hand 107 = .ok (.getfield 10, 3) := by decide +kernel
theorem dX6_hand_110 : decode cX6_hand 110 = .ok (.getfield 131, 3) := by decide +kernel
theorem dX6_hand_113 : decode cX6_hand 113 = .ok (.iload_n 1, 1) := by decide +kernel
theorem dX6_hand_114 : decode cX6_hand 114 = .ok (.iaload, 1) := by decide +kernel
theorem dX6_hand_115 : decode cX6_hand 115 = .ok (.invokestatic 134, 3) := by decide +kernel
theorem dX6_hand_118 : decode cX6_hand 118 = .ok (.ireturn, 1) := by decide +kernel
theorem dX6_hand_119 : decode cX6_hand 119 = .ok (.aload_n 0, 1) := by decide +kernel
theorem dX6_hand_120 : decode cX6_hand 120 = .ok (.getfield 10, 3) := by decide +kernel
theorem dX6_hand_123 : decode cX6_hand 123 = .ok (.getfield 138, 3) := by decide +kernel
theorem dX6_hand_126 : decode cX6_hand 126 = .ok (.iload_n 1, 1) := by decide +kernel
theorem dX6_hand_127 : decode cX6_hand 127 = .ok (.iaload, 1) := by decide +kernel
theorem dX6_hand_128 : decode cX6_hand 128 = .ok (.ireturn, 1) := by decide +kernel
theorem dX6_hand_129 : decode cX6_hand 129 = .ok (.iconst (-1), 1) := by decide +kernel
theorem dX6_hand_130 : decode cX6_hand 130 = .ok (.ireturn, 1) := by decide +kernel
theorem dX6_page_0 : decode cX6_page 0 = .ok (.aload_n 0, 1) := by decide +kernel
theorem dX6_page_1 : decode cX6_page 1 = .ok (.getfield 10, 3) := by decide +kernel
theorem dX6_page_4 : decode cX6_page 4 = .ok (.iload_n 1, 1) := by decide +kernel
theorem dX6_page_5 : decode cX6_page 5 = .ok (.invokevirtual 113, 3) := by decide +kernel
theorem dX6_page_8 : decode cX6_page 8 = .ok (.ifCond .eq 10, 3) := by decide +kernel
theorem dX6_page_11 : decode cX6_page 11 = .ok (.iload_n 2, 1) := by decide +kernel
theorem dX6_page_12 : decode cX6_page 12 = .ok (.invokestatic 141, 3) := by decide +kernel
theorem dX6_page_15 : decode cX6_page 15 = .ok (.ifCond .ne 5, 3) := by decide +kernel
theorem dX6_page_18 : decode cX6_page 18 = .ok (.iconst (-1), 1) := by decide +kernel
theorem dX6_page_19 : decode cX6_page 19 = .ok (.ireturn, 1) := by decide +kernel
theorem dX6_page_20 : decode cX6_page 20 = .ok (.aload_n 0, 1) := by decide +kernel
theorem dX6_page_21 : decode cX6_page 21 = .ok (.getfield 10, 3) := by decide +kernel
theorem dX6_page_24 : decode cX6_page 24 = .ok (.iload_n 1, 1) := by decide +kernel
theorem dX6_page_25 : decode cX6_page 25 = .ok (.iload_n 2, 1) := by decide +kernel
theorem dX6_page_26 : decode cX6_page 26 = .ok (.invokevirtual 144, 3) := by decide +kernel
theorem dX6_page_29 : decode cX6_page 29 = .ok (.ireturn, 1) := by decide +kernel
theorem dX6_likes_0 : decode cX6_likes 0 = .ok (.aload_n 0, 1) := by decide +kernel
theorem dX6_likes_1 : decode cX6_likes 1 = .ok (.getfield 10, 3) := by decide +kernel
theorem dX6_likes_4 : decode cX6_likes 4 = .ok (.iload_n 1, 1) := by decide +kernel
theorem dX6_likes_5 : decode cX6_likes 5 = .ok (.invokevirtual 113, 3) := by decide +kernel
theorem dX6_likes_8 : decode cX6_likes 8 = .ok (.ifCond .eq 22, 3) := by decide +kernel
theorem dX6_likes_11 : decode cX6_likes 11 = .ok (.aload_n 0, 1) := by decide +kernel
theorem dX6_likes_12 : decode cX6_likes 12 = .ok (.getfield 10, 3) := by decide +kernel
theorem dX6_likes_15 : decode cX6_likes 15 = .ok (.iload_n 2, 1) := by decide +kernel
theorem dX6_likes_16 : decode cX6_likes 16 = .ok (.invokevirtual 113, 3) := by decide +kernel
theorem dX6_likes_19 : decode cX6_likes 19 = .ok (.ifCond .eq 11, 3) := by decide +kernel
theorem dX6_likes_22 : decode cX6_likes 22 = .ok (.iload_n 1, 1) := by decide +kernel
theorem dX6_likes_23 : decode cX6_likes 23 = .ok (.iload_n 2, 1) := by decide +kernel
theorem dX6_likes_24 : decode cX6_likes 24 = .ok (.invokestatic 148, 3) := by decide +kernel
theorem dX6_likes_27 : decode cX6_likes 27 = .ok (.ifCond .eq 5, 3) := by decide +kernel
theorem dX6_likes_30 : decode cX6_likes 30 = .ok (.iconst (-1), 1) := by decide +kernel
theorem dX6_likes_31 : decode cX6_likes 31 = .ok (.ireturn, 1) := by decide +kernel
theorem dX6_likes_32 : decode cX6_likes 32 = .ok (.aload_n 0, 1) := by decide +kernel
theorem dX6_likes_33 : decode cX6_likes 33 = .ok (.getfield 44, 3) := by decide +kernel
theorem dX6_likes_36 : decode cX6_likes 36 = .ok (.aload_n 0, 1) := by decide +kernel
theorem dX6_likes_37 : decode cX6_likes 37 = .ok (.getfield 10, 3) := by decide +kernel
theorem dX6_likes_40 : decode cX6_likes 40 = .ok (.invokevirtual 152, 3) := by decide +kernel
theorem dX6_likes_43 : decode cX6_likes 43 = .ok (.aload_n 0, 1) := by decide +kernel
theorem dX6_likes_44 : decode cX6_likes 44 = .ok (.getfield 44, 3) := by decide +kernel
theorem dX6_likes_47 : decode cX6_likes 47 = .ok (.iload_n 1, 1) := by decide +kernel
theorem dX6_likes_48 : decode cX6_likes 48 = .ok (.iload_n 2, 1) := by decide +kernel
theorem dX6_likes_49 : decode cX6_likes 49 = .ok (.invokevirtual 155, 3) := by decide +kernel
theorem dX6_likes_52 : decode cX6_likes 52 = .ok (.ireturn, 1) := by decide +kernel
theorem dX6_rather_0 : decode cX6_rather 0 = .ok (.aload_n 0, 1) := by decide +kernel
theorem dX6_rather_1 : decode cX6_rather 1 = .ok (.getfield 10, 3) := by decide +kernel
theorem dX6_rather_4 : decode cX6_rather 4 = .ok (.iload_n 1, 1) := by decide +kernel
theorem dX6_rather_5 : decode cX6_rather 5 = .ok (.invokevirtual 113, 3) := by decide +kernel
theorem dX6_rather_8 : decode cX6_rather 8 = .ok (.ifCond .eq 7, 3) := by decide +kernel
theorem dX6_rather_11 : decode cX6_rather 11 = .ok (.iload_n 2, 1) := by decide +kernel
theorem dX6_rather_12 : decode cX6_rather 12 = .ok (.ifCond .ge 5, 3) := by decide +kernel
theorem dX6_rather_15 : decode cX6_rather 15 = .ok (.iconst (-1), 1) := by decide +kernel
theorem dX6_rather_16 : decode cX6_rather 16 = .ok (.ireturn, 1) := by decide +kernel
theorem dX6_rather_17 : decode cX6_rather 17 = .ok (.aload_n 0, 1) := by decide +kernel
theorem dX6_rather_18 : decode cX6_rather 18 = .ok (.getfield 44, 3) := by decide +kernel
theorem dX6_rather_21 : decode cX6_rather 21 = .ok (.aload_n 0, 1) := by decide +kernel
theorem dX6_rather_22 : decode cX6_rather 22 = .ok (.getfield 10, 3) := by decide +kernel
theorem dX6_rather_25 : decode cX6_rather 25 = .ok (.invokevirtual 152, 3) := by decide +kernel
theorem dX6_rather_28 : decode cX6_rather 28 = .ok (.aload_n 0, 1) := by decide +kernel
theorem dX6_rather_29 : decode cX6_rather 29 = .ok (.getfield 44, 3) := by decide +kernel
theorem dX6_rather_32 : decode cX6_rather 32 = .ok (.iload_n 1, 1) := by decide +kernel
theorem dX6_rather_33 : decode cX6_rather 33 = .ok (.iload_n 2, 1) := by decide +kernel
theorem dX6_rather_34 : decode cX6_rather 34 = .ok (.invokevirtual 158, 3) := by decide +kernel
theorem dX6_rather_37 : decode cX6_rather 37 = .ok (.invokestatic 134, 3) := by decide +kernel
theorem dX6_rather_40 : decode cX6_rather 40 = .ok (.ireturn, 1) := by decide +kernel
theorem dX6_alter_0 : decode cX6_alter 0 = .ok (.aload_n 0, 1) := by decide +kernel
theorem dX6_alter_1 : decode cX6_alter 1 = .ok (.getfield 10, 3) := by decide +kernel
theorem dX6_alter_4 : decode cX6_alter 4 = .ok (.iload_n 1, 1) := by decide +kernel
theorem dX6_alter_5 : decode cX6_alter 5 = .ok (.invokevirtual 113, 3) := by decide +kernel
theorem dX6_alter_8 : decode cX6_alter 8 = .ok (.ifCond .ne 5, 3) := by decide +kernel
theorem dX6_alter_11 : decode cX6_alter 11 = .ok (.iconst (-1), 1) := by decide +kernel
theorem dX6_alter_12 : decode cX6_alter 12 = .ok (.ireturn, 1) := by decide +kernel
theorem dX6_alter_13 : decode cX6_alter 13 = .ok (.iload_n 2, 1) := by decide +kernel
theorem dX6_alter_14 : decode cX6_alter 14 = .ok (.tableswitch 143 0 4 #[34, 61, 78, 95, 122], 34) := by decide +kernel
theorem dX6_alter_48 : decode cX6_alter 48 = .ok (.aload_n 0, 1) := by decide +kernel
theorem dX6_alter_49 : decode cX6_alter 49 = .ok (.getfield 10, 3) := by decide +kernel
theorem dX6_alter_52 : decode cX6_alter 52 = .ok (.getfield 116, 3) := by decide +kernel
theorem dX6_alter_55 : decode cX6_alter 55 = .ok (.iload_n 1, 1) := by decide +kernel
theorem dX6_alter_56 : decode cX6_alter 56 = .ok (.iload_n 3, 1) := by decide +kernel
theorem dX6_alter_57 : decode cX6_alter 57 = .ok (.iload_n 3, 1) := by decide +kernel
theorem dX6_alter_58 : decode cX6_alter 58 = .ok (.ifCond .lt 12, 3) := by decide +kernel
theorem dX6_alter_61 : decode cX6_alter 61 = .ok (.iload_n 3, 1) := by decide +kernel
theorem dX6_alter_62 : decode cX6_alter 62 = .ok (.iconst 3, 1) := by decide +kernel
theorem dX6_alter_63 : decode cX6_alter 63 = .ok (.if_icmp .gt 7, 3) := by decide +kernel
theorem dX6_alter_66 : decode cX6_alter 66 = .ok (.iconst 1, 1) := by decide +kernel
theorem dX6_alter_67 : decode cX6_alter 67 = .ok (.goto 4, 3) := by decide +kernel
theorem dX6_alter_70 : decode cX6_alter 70 = .ok (.iconst 0, 1) := by decide +kernel
theorem dX6_alter_71 : decode cX6_alter 71 = .ok (.invokestatic 161, 3) := by decide +kernel
theorem dX6_alter_74 : decode cX6_alter 74 = .ok (.ireturn, 1) := by decide +kernel
theorem dX6_alter_75 : decode cX6_alter 75 = .ok (.aload_n 0, 1) := by decide +kernel
theorem dX6_alter_76 : decode cX6_alter 76 = .ok (.getfield 10, 3) := by decide +kernel
theorem dX6_alter_79 : decode cX6_alter 79 = .ok (.getfield 119, 3) := by decide +kernel
theorem dX6_alter_82 : decode cX6_alter 82 = .ok (.iload_n 1, 1) := by decide +kernel
theorem dX6_alter_83 : decode cX6_alter 83 = .ok (.iload_n 3, 1) := by decide +kernel
theorem dX6_alter_84 : decode cX6_alter 84 = .ok (.iload_n 3, 1) := by decide +kernel
theorem dX6_alter_85 : decode cX6_alter 85 = .ok (.invokestatic 165, 3) := by decide +kernel
theorem dX6_alter_88 : decode cX6_alter 88 = .ok (.invokestatic 161, 3) := by decide +kernel
theorem dX6_alter_91 : decode cX6_alter 91 = .ok (.ireturn, 1) := by decide +kernel
theorem dX6_alter_92 : decode cX6_alter 92 = .ok (.aload_n 0, 1) := by decide +kernel
theorem dX6_alter_93 : decode cX6_alter 93 = .ok (.getfield 10, 3) := by decide +kernel
theorem dX6_alter_96 : decode cX6_alter 96 = .ok (.getfield 122, 3) := by decide +kernel
theorem dX6_alter_99 : decode cX6_alter 99 = .ok (.iload_n 1, 1) := by decide +kernel
theorem dX6_alter_100 : decode cX6_alter 100 = .ok (.iload_n 3, 1) := by decide +kernel
theorem dX6_alter_101 : decode cX6_alter 101 = .ok (.iload_n 3, 1) := by decide +kernel
theorem dX6_alter_102 : decode cX6_alter 102 = .ok (.invokestatic 165, 3) := by decide +kernel
theorem dX6_alter_105 : decode cX6_alter 105 = .ok (.invokestatic 161, 3) := by decide +kernel
theorem dX6_alter_108 : decode cX6_alter 108 = .ok (.ireturn, 1) := by decide +kernel
theorem dX6_alter_109 : decode cX6_alter 109 = .ok (.aload_n 0, 1) := by decide +kernel
theorem dX6_alter_110 : decode cX6_alter 110 = .ok (.getfield 10, 3) := by decide +kernel
theorem dX6_alter_113 : decode cX6_alter 113 = .ok (.getfield 125, 3) := by decide +kernel
theorem dX6_alter_116 : decode cX6_alter 116 = .ok (.iload_n 1, 1) := by decide +kernel
theorem dX6_alter_117 : decode cX6_alter 117 = .ok (.iload_n 3, 1) := by decide +kernel
theorem dX6_alter_118 : decode cX6_alter 118 = .ok (.iload_n 3, 1) := by decide +kernel
theorem dX6_alter_119 : decode cX6_alter 119 = .ok (.ifCond .lt 12, 3) := by decide +kernel
theorem dX6_alter_122 : decode cX6_alter 122 = .ok (.iload_n 3, 1) := by decide +kernel
theorem dX6_alter_123 : decode cX6_alter 123 = .ok (.iconst 2, 1) := by decide +kernel
theorem dX6_alter_124 : decode cX6_alter 124 = .ok (.if_icmp .gt 7, 3) := by decide +kernel
theorem dX6_alter_127 : decode cX6_alter 127 = .ok (.iconst 1, 1) := by decide +kernel
theorem dX6_alter_128 : decode cX6_alter 128 = .ok (.goto 4, 3) := by decide +kernel
theorem dX6_alter_131 : decode cX6_alter 131 = .ok (.iconst 0, 1) := by decide +kernel
theorem dX6_alter_132 : decode cX6_alter 132 = .ok (.invokestatic 161, 3) := by decide +kernel
theorem dX6_alter_135 : decode cX6_alter 135 = .ok (.ireturn, 1) := by decide +kernel
theorem dX6_alter_136 : decode cX6_alter 136 = .ok (.aload_n 0, 1) := by decide +kernel
theorem dX6_alter_137 : decode cX6_alter 137 = .ok (.getfield 10, 3) := by decide +kernel
theorem dX6_alter_140 : decode cX6_alter 140 = .ok (.getfield 128, 3) := by decide +kernel
theorem dX6_alter_143 : decode cX6_alter 143 = .ok (.iload_n 1, 1) := by decide +kernel
theorem dX6_alter_144 : decode cX6_alter 144 = .ok (.iload_n 3, 1) := by decide +kernel
theorem dX6_alter_145 : decode cX6_alter 145 = .ok (.aload_n 0, 1) := by decide +kernel
theorem dX6_alter_146 : decode cX6_alter 146 = .ok (.getfield 10, 3) := by decide +kernel
theorem dX6_alter_149 : decode cX6_alter 149 = .ok (.iload_n 3, 1) := by decide +kernel
theorem dX6_alter_150 : decode cX6_alter 150 = .ok (.invokevirtual 113, 3) := by decide +kernel
theorem dX6_alter_153 : decode cX6_alter 153 = .ok (.invokestatic 161, 3) := by decide +kernel
theorem dX6_alter_156 : decode cX6_alter 156 = .ok (.ireturn, 1) := by decide +kernel
theorem dX6_alter_157 : decode cX6_alter 157 = .ok (.iconst (-1), 1) := by decide +kernel
theorem dX6_alter_158 : decode cX6_alter 158 = .ok (.ireturn, 1) := by decide +kernel
theorem dX6_run_0 : decode cX6_run 0 = .ok (.aload_n 0, 1) := by decide +kernel
theorem dX6_run_1 : decode cX6_run 1 = .ok (.getfield 10, 3) := by decide +kernel
theorem dX6_run_4 : decode cX6_run 4 = .ok (.iload_n 1, 1) := by decide +kernel
theorem dX6_run_5 : decode cX6_run 5 = .ok (.invokevirtual 113, 3) := by decide +kernel
theorem dX6_run_8 : decode cX6_run 8 = .ok (.ifCond .ne 5, 3) := by decide +kernel
theorem dX6_run_11 : decode cX6_run 11 = .ok (.iconst (-1), 1) := by decide +kernel
theorem dX6_run_12 : decode cX6_run 12 = .ok (.ireturn, 1) := by decide +kernel
theorem dX6_run_13 : decode cX6_run 13 = .ok (.aload_n 0, 1) := by decide +kernel
theorem dX6_run_14 : decode cX6_run 14 = .ok (.getfield 10, 3) := by decide +kernel
theorem dX6_run_17 : decode cX6_run 17 = .ok (.iload_n 1, 1) := by decide +kernel
theorem dX6_run_18 : decode cX6_run 18 = .ok (.invokevirtual 168, 3) := by decide +kernel
theorem dX6_run_21 : decode cX6_run 21 = .ok (.ifCond .eq 7, 3) := by decide +kernel
theorem dX6_run_24 : decode cX6_run 24 = .ok (.iconst 1, 1) := by decide +kernel
theorem dX6_run_25 : decode cX6_run 25 = .ok (.goto 4, 3) := by decide +kernel
theorem dX6_run_28 : decode cX6_run 28 = .ok (.iconst 0, 1) := by decide +kernel
theorem dX6_run_29 : decode cX6_run 29 = .ok (.istore_n 3, 1) := by decide +kernel
theorem dX6_run_30 : decode cX6_run 30 = .ok (.aload_n 0, 1) := by decide +kernel
theorem dX6_run_31 : decode cX6_run 31 = .ok (.getfield 10, 3) := by decide +kernel
theorem dX6_run_34 : decode cX6_run 34 = .ok (.iload_n 1, 1) := by decide +kernel
theorem dX6_run_35 : decode cX6_run 35 = .ok (.iload_n 2, 1) := by decide +kernel
theorem dX6_run_36 : decode cX6_run 36 = .ok (.invokevirtual 171, 3) := by decide +kernel
theorem dX6_run_39 : decode cX6_run 39 = .ok (.iload_n 3, 1) := by decide +kernel
theorem dX6_run_40 : decode cX6_run 40 = .ok (.ireturn, 1) := by decide +kernel
theorem dX6_fold_0 : decode cX6_fold 0 = .ok (.aload_n 0, 1) := by decide +kernel
theorem dX6_fold_1 : decode cX6_fold 1 = .ok (.getfield 10, 3) := by decide +kernel
theorem dX6_fold_4 : decode cX6_fold 4 = .ok (.iload_n 1, 1) := by decide +kernel
theorem dX6_fold_5 : decode cX6_fold 5 = .ok (.invokevirtual 175, 3) := by decide +kernel
theorem dX6_fold_8 : decode cX6_fold 8 = .ok (.ifCond .eq 14, 3) := by decide +kernel
theorem dX6_fold_11 : decode cX6_fold 11 = .ok (.aload_n 0, 1) := by decide +kernel
theorem dX6_fold_12 : decode cX6_fold 12 = .ok (.getfield 10, 3) := by decide +kernel
theorem dX6_fold_15 : decode cX6_fold 15 = .ok (.iload_n 2, 1) := by decide +kernel
theorem dX6_fold_16 : decode cX6_fold 16 = .ok (.invokevirtual 178, 3) := by decide +kernel
theorem dX6_fold_19 : decode cX6_fold 19 = .ok (.ifCond .ne 5, 3) := by decide +kernel
theorem dX6_fold_22 : decode cX6_fold 22 = .ok (.iconst (-1), 1) := by decide +kernel
theorem dX6_fold_23 : decode cX6_fold 23 = .ok (.ireturn, 1) := by decide +kernel
theorem dX6_fold_24 : decode cX6_fold 24 = .ok (.aload_n 0, 1) := by decide +kernel
theorem dX6_fold_25 : decode cX6_fold 25 = .ok (.getfield 10, 3) := by decide +kernel
theorem dX6_fold_28 : decode cX6_fold 28 = .ok (.iload_n 1, 1) := by decide +kernel
theorem dX6_fold_29 : decode cX6_fold 29 = .ok (.iload_n 2, 1) := by decide +kernel
theorem dX6_fold_30 : decode cX6_fold 30 = .ok (.invokevirtual 181, 3) := by decide +kernel
theorem dX6_fold_33 : decode cX6_fold 33 = .ok (.ifCond .eq 7, 3) := by decide +kernel
theorem dX6_fold_36 : decode cX6_fold 36 = .ok (.iconst 1, 1) := by decide +kernel
theorem dX6_fold_37 : decode cX6_fold 37 = .ok (.goto 4, 3) := by decide +kernel
theorem dX6_fold_40 : decode cX6_fold 40 = .ok (.iconst 0, 1) := by decide +kernel
theorem dX6_fold_41 : decode cX6_fold 41 = .ok (.istore 4, 2) := by decide +kernel
theorem dX6_fold_43 : decode cX6_fold 43 = .ok (.aload_n 0, 1) := by decide +kernel
theorem dX6_fold_44 : decode cX6_fold 44 = .ok (.getfield 10, 3) := by decide +kernel
theorem dX6_fold_47 : decode cX6_fold 47 = .ok (.iload_n 1, 1) := by decide +kernel
theorem dX6_fold_48 : decode cX6_fold 48 = .ok (.iload_n 2, 1) := by decide +kernel
theorem dX6_fold_49 : decode cX6_fold 49 = .ok (.iload_n 3, 1) := by decide +kernel
theorem dX6_fold_50 : decode cX6_fold 50 = .ok (.invokevirtual 184, 3) := by decide +kernel
theorem dX6_fold_53 : decode cX6_fold 53 = .ok (.iload 4, 2) := by decide +kernel
theorem dX6_fold_55 : decode cX6_fold 55 = .ok (.ireturn, 1) := by decide +kernel
theorem dX6_wed_0 : decode cX6_wed 0 = .ok (.aload_n 0, 1) := by decide +kernel
theorem dX6_wed_1 : decode cX6_wed 1 = .ok (.getfield 10, 3) := by decide +kernel
theorem dX6_wed_4 : decode cX6_wed 4 = .ok (.iload_n 1, 1) := by decide +kernel
theorem dX6_wed_5 : decode cX6_wed 5 = .ok (.invokevirtual 175, 3) := by decide +kernel
theorem dX6_wed_8 : decode cX6_wed 8 = .ok (.ifCond .eq 14, 3) := by decide +kernel
theorem dX6_wed_11 : decode cX6_wed 11 = .ok (.aload_n 0, 1) := by decide +kernel
theorem dX6_wed_12 : decode cX6_wed 12 = .ok (.getfield 10, 3) := by decide +kernel
theorem dX6_wed_15 : decode cX6_wed 15 = .ok (.iload_n 2, 1) := by decide +kernel
theorem dX6_wed_16 : decode cX6_wed 16 = .ok (.invokevirtual 178, 3) := by decide +kernel
theorem dX6_wed_19 : decode cX6_wed 19 = .ok (.ifCond .ne 5, 3) := by decide +kernel
theorem dX6_wed_22 : decode cX6_wed 22 = .ok (.iconst (-1), 1) := by decide +kernel
theorem dX6_wed_23 : decode cX6_wed 23 = .ok (.ireturn, 1) := by decide +kernel
theorem dX6_wed_24 : decode cX6_wed 24 = .ok (.aload_n 0, 1) := by decide +kernel
theorem dX6_wed_25 : decode cX6_wed 25 = .ok (.getfield 10, 3) := by decide +kernel
theorem dX6_wed_28 : decode cX6_wed 28 = .ok (.iload_n 1, 1) := by decide +kernel
theorem dX6_wed_29 : decode cX6_wed 29 = .ok (.invokevirtual 188, 3) := by decide +kernel
theorem dX6_wed_32 : decode cX6_wed 32 = .ok (.ifCond .ne 26, 3) := by decide +kernel
theorem dX6_wed_35 : decode cX6_wed 35 = .ok (.aload_n 0, 1) := by decide +kernel
theorem dX6_wed_36 : decode cX6_wed 36 = .ok (.getfield 10, 3) := by decide +kernel
theorem dX6_wed_39 : decode cX6_wed 39 = .ok (.iload_n 2, 1) := by decide +kernel
theorem dX6_wed_40 : decode cX6_wed 40 = .ok (.invokevirtual 188, 3) := by decide +kernel
theorem dX6_wed_43 : decode cX6_wed 43 = .ok (.ifCond .ne 15, 3) := by decide +kernel
theorem dX6_wed_46 : decode cX6_wed 46 = .ok (.aload_n 0, 1) := by decide +kernel
theorem dX6_wed_47 : decode cX6_wed 47 = .ok (.getfield 10, 3) := by decide +kernel
theorem dX6_wed_50 : decode cX6_wed 50 = .ok (.iload_n 1, 1) := by decide +kernel
theorem dX6_wed_51 : decode cX6_wed 51 = .ok (.iload_n 2, 1) := by decide +kernel
theorem dX6_wed_52 : decode cX6_wed 52 = .ok (.invokevirtual 181, 3) := by decide +kernel
theorem dX6_wed_55 : decode cX6_wed 55 = .ok (.ifCond .eq 6, 3) := by decide +kernel
theorem dX6_wed_58 : decode cX6_wed 58 = .ok (.bipush (-2), 2) := by decide +kernel
theorem dX6_wed_60 : decode cX6_wed 60 = .ok (.ireturn, 1) := by decide +kernel
theorem dX6_wed_61 : decode cX6_wed 61 = .ok (.aload_n 0, 1) := by decide +kernel
theorem dX6_wed_62 : decode cX6_wed 62 = .ok (.getfield 10, 3) := by decide +kernel
theorem dX6_wed_65 : decode cX6_wed 65 = .ok (.iload_n 1, 1) := by decide +kernel
theorem dX6_wed_66 : decode cX6_wed 66 = .ok (.iload_n 2, 1) := by decide +kernel
theorem dX6_wed_67 : decode cX6_wed 67 = .ok (.invokevirtual 191, 3) := by decide +kernel
theorem dX6_wed_70 : decode cX6_wed 70 = .ok (.aload_n 0, 1) := by decide +kernel
theorem dX6_wed_71 : decode cX6_wed 71 = .ok (.getfield 10, 3) := by decide +kernel
theorem dX6_wed_74 : decode cX6_wed 74 = .ok (.invokevirtual 195, 3) := by decide +kernel
theorem dX6_wed_77 : decode cX6_wed 77 = .ok (.ireturn, 1) := by decide +kernel
theorem dX6_part_0 : decode cX6_part 0 = .ok (.aload_n 0, 1) := by decide +kernel
theorem dX6_part_1 : decode cX6_part 1 = .ok (.getfield 10, 3) := by decide +kernel
theorem dX6_part_4 : decode cX6_part 4 = .ok (.iload_n 1, 1) := by decide +kernel
theorem dX6_part_5 : decode cX6_part 5 = .ok (.invokevirtual 113, 3) := by decide +kernel
theorem dX6_part_8 : decode cX6_part 8 = .ok (.ifCond .ne 5, 3) := by decide +kernel
theorem dX6_part_11 : decode cX6_part 11 = .ok (.iconst (-1), 1) := by decide +kernel
theorem dX6_part_12 : decode cX6_part 12 = .ok (.ireturn, 1) := by decide +kernel
theorem dX6_part_13 : decode cX6_part 13 = .ok (.aload_n 0, 1) := by decide +kernel
theorem dX6_part_14 : decode cX6_part 14 = .ok (.getfield 10, 3) := by decide +kernel
theorem dX6_part_17 : decode cX6_part 17 = .ok (.getfield 131, 3) := by decide +kernel
theorem dX6_part_20 : decode cX6_part 20 = .ok (.iload_n 1, 1) := by decide +kernel
theorem dX6_part_21 : decode cX6_part 21 = .ok (.iaload, 1) := by decide +kernel
theorem dX6_part_22 : decode cX6_part 22 = .ok (.istore_n 2, 1) := by decide +kernel
theorem dX6_part_23 : decode cX6_part 23 = .ok (.iload_n 2, 1) := by decide +kernel
theorem dX6_part_24 : decode cX6_part 24 = .ok (.iconst (-1), 1) := by decide +kernel
theorem dX6_part_25 : decode cX6_part 25 = .ok (.if_icmp .ne 6, 3) := by decide +kernel
theorem dX6_part_28 : decode cX6_part 28 = .ok (.bipush (-2), 2) := by decide +kernel
theorem dX6_part_30 : decode cX6_part 30 = .ok (.ireturn, 1) := by decide +kernel
theorem dX6_part_31 : decode cX6_part 31 = .ok (.aload_n 0, 1) := by decide +kernel
theorem dX6_part_32 : decode cX6_part 32 = .ok (.getfield 10, 3) := by decide +kernel
theorem dX6_part_35 : decode cX6_part 35 = .ok (.iload_n 1, 1) := by decide +kernel
theorem dX6_part_36 : decode cX6_part 36 = .ok (.iload_n 2, 1) := by decide +kernel
theorem dX6_part_37 : decode cX6_part 37 = .ok (.invokevirtual 198, 3) := by decide +kernel
theorem dX6_part_40 : decode cX6_part 40 = .ok (.iload_n 2, 1) := by decide +kernel
theorem dX6_part_41 : decode cX6_part 41 = .ok (.ireturn, 1) := by decide +kernel
theorem dX6_asked_0 : decode cX6_asked 0 = .ok (.iload_n 1, 1) := by decide +kernel
theorem dX6_asked_1 : decode cX6_asked 1 = .ok (.ifCond .lt 19, 3) := by decide +kernel
theorem dX6_asked_4 : decode cX6_asked 4 = .ok (.iload_n 1, 1) := by decide +kernel
theorem dX6_asked_5 : decode cX6_asked 5 = .ok (.iconst 1, 1) := by decide +kernel
theorem dX6_asked_6 : decode cX6_asked 6 = .ok (.if_icmp .gt 14, 3) := by decide +kernel
theorem dX6_asked_9 : decode cX6_asked 9 = .ok (.aload_n 0, 1) := by decide +kernel
theorem dX6_asked_10 : decode cX6_asked 10 = .ok (.getfield 10, 3) := by decide +kernel
theorem dX6_asked_13 : decode cX6_asked 13 = .ok (.iload_n 2, 1) := by decide +kernel
theorem dX6_asked_14 : decode cX6_asked 14 = .ok (.invokevirtual 113, 3) := by decide +kernel
theorem dX6_asked_17 : decode cX6_asked 17 = .ok (.ifCond .ne 5, 3) := by decide +kernel
theorem dX6_asked_20 : decode cX6_asked 20 = .ok (.iconst (-1), 1) := by decide +kernel
theorem dX6_asked_21 : decode cX6_asked 21 = .ok (.ireturn, 1) := by decide +kernel
theorem dX6_asked_22 : decode cX6_asked 22 = .ok (.aload_n 0, 1) := by decide +kernel
theorem dX6_asked_23 : decode cX6_asked 23 = .ok (.getfield 44, 3) := by decide +kernel
theorem dX6_asked_26 : decode cX6_asked 26 = .ok (.aload_n 0, 1) := by decide +kernel
theorem dX6_asked_27 : decode cX6_asked 27 = .ok (.getfield 10, 3) := by decide +kernel
theorem dX6_asked_30 : decode cX6_asked 30 = .ok (.iload_n 1, 1) := by decide +kernel
theorem dX6_asked_31 : decode cX6_asked 31 = .ok (.invokevirtual 201, 3) := by decide +kernel
theorem dX6_asked_34 : decode cX6_asked 34 = .ok (.aload_n 0, 1) := by decide +kernel
theorem dX6_asked_35 : decode cX6_asked 35 = .ok (.getfield 44, 3) := by decide +kernel
theorem dX6_asked_38 : decode cX6_asked 38 = .ok (.getfield 205, 3) := by decide +kernel
theorem dX6_asked_41 : decode cX6_asked 41 = .ok (.iload_n 2, 1) := by decide +kernel
theorem dX6_asked_42 : decode cX6_asked 42 = .ok (.iaload, 1) := by decide +kernel
theorem dX6_asked_43 : decode cX6_asked 43 = .ok (.invokestatic 134, 3) := by decide +kernel
theorem dX6_asked_46 : decode cX6_asked 46 = .ok (.ireturn, 1) := by decide +kernel
theorem dX6_sum_0 : decode cX6_sum 0 = .ok (.iload_n 1, 1) := by decide +kernel
theorem dX6_sum_1 : decode cX6_sum 1 = .ok (.ifCond .lt 8, 3) := by decide +kernel
theorem dX6_sum_4 : decode cX6_sum 4 = .ok (.iload_n 1, 1) := by decide +kernel
theorem dX6_sum_5 : decode cX6_sum 5 = .ok (.iconst 3, 1) := by decide +kernel
theorem dX6_sum_6 : decode cX6_sum 6 = .ok (.if_icmp .le 5, 3) := by decide +kernel
theorem dX6_sum_9 : decode cX6_sum 9 = .ok (.iconst (-1), 1) := by decide +kernel
theorem dX6_sum_10 : decode cX6_sum 10 = .ok (.ireturn, 1) := by decide +kernel
theorem dX6_sum_11 : decode cX6_sum 11 = .ok (.aload_n 0, 1) := by decide +kernel
theorem dX6_sum_12 : decode cX6_sum 12 = .ok (.getfield 44, 3) := by decide +kernel
theorem dX6_sum_15 : decode cX6_sum 15 = .ok (.aload_n 0, 1) := by decide +kernel
theorem dX6_sum_16 : decode cX6_sum 16 = .ok (.getfield 10, 3) := by decide +kernel
theorem dX6_sum_19 : decode cX6_sum 19 = .ok (.iload_n 1, 1) := by decide +kernel
theorem dX6_sum_20 : decode cX6_sum 20 = .ok (.iconst 2, 1) := by decide +kernel
theorem dX6_sum_21 : decode cX6_sum 21 = .ok (.idiv, 1) := by decide +kernel
theorem dX6_sum_22 : decode cX6_sum 22 = .ok (.invokevirtual 201, 3) := by decide +kernel
theorem dX6_sum_25 : decode cX6_sum 25 = .ok (.iload_n 1, 1) := by decide +kernel
theorem dX6_sum_26 : decode cX6_sum 26 = .ok (.iconst 2, 1) := by decide +kernel
theorem dX6_sum_27 : decode cX6_sum 27 = .ok (.irem, 1) := by decide +kernel
theorem dX6_sum_28 : decode cX6_sum 28 = .ok (.ifCond .ne 13, 3) := by decide +kernel
theorem dX6_sum_31 : decode cX6_sum 31 = .ok (.aload_n 0, 1) := by decide +kernel
theorem dX6_sum_32 : decode cX6_sum 32 = .ok (.getfield 44, 3) := by decide +kernel
theorem dX6_sum_35 : decode cX6_sum 35 = .ok (.invokevirtual 208, 3) := by decide +kernel
theorem dX6_sum_38 : decode cX6_sum 38 = .ok (.goto 10, 3) := by decide +kernel
theorem dX6_sum_41 : decode cX6_sum 41 = .ok (.aload_n 0, 1) := by decide +kernel
theorem dX6_sum_42 : decode cX6_sum 42 = .ok (.getfield 44, 3) := by decide +kernel
theorem dX6_sum_45 : decode cX6_sum 45 = .ok (.invokevirtual 211, 3) := by decide +kernel
theorem dX6_sum_48 : decode cX6_sum 48 = .ok (.ireturn, 1) := by decide +kernel
theorem dX6_hold_0 : decode cX6_hold 0 = .ok (.iload_n 1, 1) := by decide +kernel
theorem dX6_hold_1 : decode cX6_hold 1 = .ok (.bipush 10, 2) := by decide +kernel
theorem dX6_hold_3 : decode cX6_hold 3 = .ok (.isub, 1) := by decide +kernel
theorem dX6_hold_4 : decode cX6_hold 4 = .ok (.istore_n 2, 1) := by decide +kernel
theorem dX6_hold_5 : decode cX6_hold 5 = .ok (.iload_n 1, 1) := by decide +kernel
theorem dX6_hold_6 : decode cX6_hold 6 = .ok (.ifCond .eq 16, 3) := by decide +kernel
theorem dX6_hold_9 : decode cX6_hold 9 = .ok (.aload_n 0, 1) := by decide +kernel
theorem dX6_hold_10 : decode cX6_hold 10 = .ok (.getfield 10, 3) := by decide +kernel
theorem dX6_hold_13 : decode cX6_hold 13 = .ok (.iload_n 2, 1) := by decide +kernel
theorem dX6_hold_14 : decode cX6_hold 14 = .ok (.invokevirtual 113, 3) := by decide +kernel
theorem dX6_hold_17 : decode cX6_hold 17 = .ok (.ifCond .ne 5, 3) := by decide +kernel
theorem dX6_hold_20 : decode cX6_hold 20 = .ok (.iconst (-1), 1) := by decide +kernel
theorem dX6_hold_21 : decode cX6_hold 21 = .ok (.ireturn, 1) := by decide +kernel
theorem dX6_hold_22 : decode cX6_hold 22 = .ok (.aload_n 0, 1) := by decide +kernel
theorem dX6_hold_23 : decode cX6_hold 23 = .ok (.getfield 44, 3) := by decide +kernel
theorem dX6_hold_26 : decode cX6_hold 26 = .ok (.aload_n 0, 1) := by decide +kernel
theorem dX6_hold_27 : decode cX6_hold 27 = .ok (.getfield 10, 3) := by decide +kernel
theorem dX6_hold_30 : decode cX6_hold 30 = .ok (.iconst 0, 1) := by decide +kernel
theorem dX6_hold_31 : decode cX6_hold 31 = .ok (.invokevirtual 201, 3) := by decide +kernel
theorem dX6_hold_34 : decode cX6_hold 34 = .ok (.iload_n 1, 1) := by decide +kernel
theorem dX6_hold_35 : decode cX6_hold 35 = .ok (.ifCond .ne 13, 3) := by decide +kernel
theorem dX6_hold_38 : decode cX6_hold 38 = .ok (.aload_n 0, 1) := by decide +kernel
theorem dX6_hold_39 : decode cX6_hold 39 = .ok (.getfield 44, 3) := by decide +kernel
theorem dX6_hold_42 : decode cX6_hold 42 = .ok (.invokevirtual 214, 3) := by decide +kernel
theorem dX6_hold_45 : decode cX6_hold 45 = .ok (.goto 20, 3) := by decide +kernel
theorem dX6_hold_48 : decode cX6_hold 48 = .ok (.aload_n 0, 1) := by decide +kernel
theorem dX6_hold_49 : decode cX6_hold 49 = .ok (.getfield 44, 3) := by decide +kernel
theorem dX6_hold_52 : decode cX6_hold 52 = .ok (.iload_n 2, 1) := by decide +kernel
theorem dX6_hold_53 : decode cX6_hold 53 = .ok (.aload_n 0, 1) := by decide +kernel
theorem dX6_hold_54 : decode cX6_hold 54 = .ok (.getfield 44, 3) := by decide +kernel
theorem dX6_hold_57 : decode cX6_hold 57 = .ok (.getfield 205, 3) := by decide +kernel
theorem dX6_hold_60 : decode cX6_hold 60 = .ok (.iload_n 2, 1) := by decide +kernel
theorem dX6_hold_61 : decode cX6_hold 61 = .ok (.iaload, 1) := by decide +kernel
theorem dX6_hold_62 : decode cX6_hold 62 = .ok (.invokevirtual 217, 3) := by decide +kernel
theorem dX6_hold_65 : decode cX6_hold 65 = .ok (.ireturn, 1) := by decide +kernel
theorem dX6_most_0 : decode cX6_most 0 = .ok (.iload_n 1, 1) := by decide +kernel
theorem dX6_most_1 : decode cX6_most 1 = .ok (.bipush 10, 2) := by decide +kernel
theorem dX6_most_3 : decode cX6_most 3 = .ok (.isub, 1) := by decide +kernel
theorem dX6_most_4 : decode cX6_most 4 = .ok (.istore_n 2, 1) := by decide +kernel
theorem dX6_most_5 : decode cX6_most 5 = .ok (.iload_n 1, 1) := by decide +kernel
theorem dX6_most_6 : decode cX6_most 6 = .ok (.ifCond .eq 16, 3) := by decide +kernel
theorem dX6_most_9 : decode cX6_most 9 = .ok (.aload_n 0, 1) := by decide +kernel
theorem dX6_most_10 : decode cX6_most 10 = .ok (.getfield 10, 3) := by decide +kernel
theorem dX6_most_13 : decode cX6_most 13 = .ok (.iload_n 2, 1) := by decide +kernel
theorem dX6_most_14 : decode cX6_most 14 = .ok (.invokevirtual 175, 3) := by decide +kernel
theorem dX6_most_17 : decode cX6_most 17 = .ok (.ifCond .ne 5, 3) := by decide +kernel
theorem dX6_most_20 : decode cX6_most 20 = .ok (.iconst (-1), 1) := by decide +kernel
theorem dX6_most_21 : decode cX6_most 21 = .ok (.ireturn, 1) := by decide +kernel
theorem dX6_most_22 : decode cX6_most 22 = .ok (.aload_n 0, 1) := by decide +kernel
theorem dX6_most_23 : decode cX6_most 23 = .ok (.getfield 44, 3) := by decide +kernel
theorem dX6_most_26 : decode cX6_most 26 = .ok (.aload_n 0, 1) := by decide +kernel
theorem dX6_most_27 : decode cX6_most 27 = .ok (.getfield 10, 3) := by decide +kernel
theorem dX6_most_30 : decode cX6_most 30 = .ok (.invokevirtual 152, 3) := by decide +kernel
theorem dX6_most_33 : decode cX6_most 33 = .ok (.aload_n 0, 1) := by decide +kernel
theorem dX6_most_34 : decode cX6_most 34 = .ok (.getfield 44, 3) := by decide +kernel
theorem dX6_most_37 : decode cX6_most 37 = .ok (.invokevirtual 220, 3) := by decide +kernel
theorem dX6_most_40 : decode cX6_most 40 = .ok (.istore_n 3, 1) := by decide +kernel
theorem dX6_most_41 : decode cX6_most 41 = .ok (.iload_n 1, 1) := by decide +kernel
theorem dX6_most_42 : decode cX6_most 42 = .ok (.ifCond .ne 7, 3) := by decide +kernel
theorem dX6_most_45 : decode cX6_most 45 = .ok (.iload_n 3, 1) := by decide +kernel
theorem dX6_most_46 : decode cX6_most 46 = .ok (.goto 15, 3) := by decide +kernel
theorem dX6_most_49 : decode cX6_most 49 = .ok (.aload_n 0, 1) := by decide +kernel
theorem dX6_most_50 : decode cX6_most 50 = .ok (.getfield 44, 3) := by decide +kernel
theorem dX6_most_53 : decode cX6_most 53 = .ok (.getfield 223, 3) := by decide +kernel
theorem dX6_most_56 : decode cX6_most 56 = .ok (.iload_n 2, 1) := by decide +kernel
theorem dX6_most_57 : decode cX6_most 57 = .ok (.iaload, 1) := by decide +kernel
theorem dX6_most_58 : decode cX6_most 58 = .ok (.invokestatic 134, 3) := by decide +kernel
theorem dX6_most_61 : decode cX6_most 61 = .ok (.ireturn, 1) := by decide +kernel
theorem dX6_quarrel_0 : decode cX6_quarrel 0 = .ok (.iload_n 1, 1) := by decide +kernel
theorem dX6_quarrel_1 : decode cX6_quarrel 1 = .ok (.ifCond .lt 8, 3) := by decide +kernel
theorem dX6_quarrel_4 : decode cX6_quarrel 4 = .ok (.iload_n 1, 1) := by decide +kernel
theorem dX6_quarrel_5 : decode cX6_quarrel 5 = .ok (.iconst 1, 1) := by decide +kernel
theorem dX6_quarrel_6 : decode cX6_quarrel 6 = .ok (.if_icmp .le 5, 3) := by decide +kernel
theorem dX6_quarrel_9 : decode cX6_quarrel 9 = .ok (.iconst (-1), 1) := by decide +kernel
theorem dX6_quarrel_10 : decode cX6_quarrel 10 = .ok (.ireturn, 1) := by decide +kernel
theorem dX6_quarrel_11 : decode cX6_quarrel 11 = .ok (.aload_n 0, 1) := by decide +kernel
theorem dX6_quarrel_12 : decode cX6_quarrel 12 = .ok (.getfield 44, 3) := by decide +kernel
theorem dX6_quarrel_15 : decode cX6_quarrel 15 = .ok (.aload_n 0, 1) := by decide +kernel
theorem dX6_quarrel_16 : decode cX6_quarrel 16 = .ok (.getfield 10, 3) := by decide +kernel
theorem dX6_quarrel_19 : decode cX6_quarrel 19 = .ok (.invokevirtual 152, 3) := by decide +kernel
theorem dX6_quarrel_22 : decode cX6_quarrel 22 = .ok (.aload_n 0, 1) := by decide +kernel
theorem dX6_quarrel_23 : decode cX6_quarrel 23 = .ok (.getfield 44, 3) := by decide +kernel
theorem dX6_quarrel_26 : decode cX6_quarrel 26 = .ok (.aload_n 0, 1) := by decide +kernel
theorem dX6_quarrel_27 : decode cX6_quarrel 27 = .ok (.getfield 10, 3) := by decide +kernel
theorem dX6_quarrel_30 : decode cX6_quarrel 30 = .ok (.getfield 131, 3) := by decide +kernel
theorem dX6_quarrel_33 : decode cX6_quarrel 33 = .ok (.invokevirtual 226, 3) := by decide +kernel
theorem dX6_quarrel_36 : decode cX6_quarrel 36 = .ok (.aload_n 0, 1) := by decide +kernel
theorem dX6_quarrel_37 : decode cX6_quarrel 37 = .ok (.getfield 44, 3) := by decide +kernel
theorem dX6_quarrel_40 : decode cX6_quarrel 40 = .ok (.invokevirtual 230, 3) := by decide +kernel
theorem dX6_quarrel_43 : decode cX6_quarrel 43 = .ok (.istore_n 2, 1) := by decide +kernel
theorem dX6_quarrel_44 : decode cX6_quarrel 44 = .ok (.iload_n 1, 1) := by decide +kernel
theorem dX6_quarrel_45 : decode cX6_quarrel 45 = .ok (.iconst 1, 1) := by decide +kernel
theorem dX6_quarrel_46 : decode cX6_quarrel 46 = .ok (.if_icmp .ne 10, 3) := by decide +kernel
theorem dX6_quarrel_49 : decode cX6_quarrel 49 = .ok (.iload_n 2, 1) := by decide +kernel
theorem dX6_quarrel_50 : decode cX6_quarrel 50 = .ok (.invokestatic 134, 3) := by decide +kernel
theorem dX6_quarrel_53 : decode cX6_quarrel 53 = .ok (.goto 10, 3) := by decide +kernel
theorem dX6_quarrel_56 : decode cX6_quarrel 56 = .ok (.aload_n 0, 1) := by decide +kernel
theorem dX6_quarrel_57 : decode cX6_quarrel 57 = .ok (.getfield 44, 3) := by decide +kernel
theorem dX6_quarrel_60 : decode cX6_quarrel 60 = .ok (.invokevirtual 233, 3) := by decide +kernel
theorem dX6_quarrel_63 : decode cX6_quarrel 63 = .ok (.ireturn, 1) := by decide +kernel
theorem dX6_alone_0 : decode cX6_alone 0 = .ok (.aload_n 0, 1) := by decide +kernel
theorem dX6_alone_1 : decode cX6_alone 1 = .ok (.getfield 44, 3) := by decide +kernel
theorem dX6_alone_4 : decode cX6_alone 4 = .ok (.aload_n 0, 1) := by decide +kernel
theorem dX6_alone_5 : decode cX6_alone 5 = .ok (.getfield 10, 3) := by decide +kernel
theorem dX6_alone_8 : decode cX6_alone 8 = .ok (.iconst 0, 1) := by decide +kernel
theorem dX6_alone_9 : decode cX6_alone 9 = .ok (.invokevirtual 201, 3) := by decide +kernel
theorem dX6_alone_12 : decode cX6_alone 12 = .ok (.aload_n 0, 1) := by decide +kernel
theorem dX6_alone_13 : decode cX6_alone 13 = .ok (.getfield 44, 3) := by decide +kernel
theorem dX6_alone_16 : decode cX6_alone 16 = .ok (.getfield 236, 3) := by decide +kernel
theorem dX6_alone_19 : decode cX6_alone 19 = .ok (.aload_n 0, 1) := by decide +kernel
theorem dX6_alone_20 : decode cX6_alone 20 = .ok (.getfield 44, 3) := by decide +kernel
theorem dX6_alone_23 : decode cX6_alone 23 = .ok (.invokevirtual 239, 3) := by decide +kernel
theorem dX6_alone_26 : decode cX6_alone 26 = .ok (.iconst (-1), 1) := by decide +kernel
theorem dX6_alone_27 : decode cX6_alone 27 = .ok (.ixor, 1) := by decide +kernel
theorem dX6_alone_28 : decode cX6_alone 28 = .ok (.iand, 1) := by decide +kernel
theorem dX6_alone_29 : decode cX6_alone 29 = .ok (.ireturn, 1) := by decide +kernel
theorem dX6_years_0 : decode cX6_years 0 = .ok (.iload_n 1, 1) := by decide +kernel
theorem dX6_years_1 : decode cX6_years 1 = .ok (.ifCond .lt 9, 3) := by decide +kernel
theorem dX6_years_4 : decode cX6_years 4 = .ok (.iload_n 1, 1) := by decide +kernel
theorem dX6_years_5 : decode cX6_years 5 = .ok (.bipush 20, 2) := by decide +kernel
theorem dX6_years_7 : decode cX6_years 7 = .ok (.if_icmp .le 5, 3) := by decide +kernel
theorem dX6_years_10 : decode cX6_years 10 = .ok (.iconst (-1), 1) := by decide +kernel
theorem dX6_years_11 : decode cX6_years 11 = .ok (.ireturn, 1) := by decide +kernel
theorem dX6_years_12 : decode cX6_years 12 = .ok (.aload_n 0, 1) := by decide +kernel
theorem dX6_years_13 : decode cX6_years 13 = .ok (.getfield 10, 3) := by decide +kernel
theorem dX6_years_16 : decode cX6_years 16 = .ok (.getfield 110, 3) := by decide +kernel
theorem dX6_years_19 : decode cX6_years 19 = .ok (.iload_n 1, 1) := by decide +kernel
theorem dX6_years_20 : decode cX6_years 20 = .ok (.iadd, 1) := by decide +kernel
theorem dX6_years_21 : decode cX6_years 21 = .ok (.sipush 1000, 3) := by decide +kernel
theorem dX6_years_24 : decode cX6_years 24 = .ok (.if_icmp .lt 6, 3) := by decide +kernel
theorem dX6_years_27 : decode cX6_years 27 = .ok (.bipush (-3), 2) := by decide +kernel
theorem dX6_years_29 : decode cX6_years 29 = .ok (.ireturn, 1) := by decide +kernel
theorem dX6_years_30 : decode cX6_years 30 = .ok (.iconst 0, 1) := by decide +kernel
theorem dX6_years_31 : decode cX6_years 31 = .ok (.istore_n 2, 1) := by decide +kernel
theorem dX6_years_32 : decode cX6_years 32 = .ok (.iload_n 2, 1) := by decide +kernel
theorem dX6_years_33 : decode cX6_years 33 = .ok (.iload_n 1, 1) := by decide +kernel
theorem dX6_years_34 : decode cX6_years 34 = .ok (.if_icmp .ge 16, 3) := by decide +kernel
theorem dX6_years_37 : decode cX6_years 37 = .ok (.aload_n 0, 1) := by decide +kernel
theorem dX6_years_38 : decode cX6_years 38 = .ok (.getfield 10, 3) := by decide +kernel
theorem dX6_years_41 : decode cX6_years 41 = .ok (.invokevirtual 242, 3) := by decide +kernel
theorem dX6_years_44 : decode cX6_years 44 = .ok (.iinc 2 1, 3) := by decide +kernel
theorem dX6_years_47 : decode cX6_years 47 = .ok (.goto (-15), 3) := by decide +kernel
theorem dX6_years_50 : decode cX6_years 50 = .ok (.aload_n 0, 1) := by decide +kernel
theorem dX6_years_51 : decode cX6_years 51 = .ok (.getfield 10, 3) := by decide +kernel
theorem dX6_years_54 : decode cX6_years 54 = .ok (.getfield 110, 3) := by decide +kernel
theorem dX6_years_57 : decode cX6_years 57 = .ok (.ireturn, 1) := by decide +kernel
theorem dX6_alike_0 : decode cX6_alike 0 = .ok (.aload_n 0, 1) := by decide +kernel
theorem dX6_alike_1 : decode cX6_alike 1 = .ok (.getfield 16, 3) := by decide +kernel
theorem dX6_alike_4 : decode cX6_alike 4 = .ok (.aload_n 0, 1) := by decide +kernel
theorem dX6_alike_5 : decode cX6_alike 5 = .ok (.getfield 10, 3) := by decide +kernel
theorem dX6_alike_8 : decode cX6_alike 8 = .ok (.invokevirtual 86, 3) := by decide +kernel
theorem dX6_alike_11 : decode cX6_alike 11 = .ok (.iconst 0, 1) := by decide +kernel
theorem dX6_alike_12 : decode cX6_alike 12 = .ok (.istore_n 1, 1) := by decide +kernel
theorem dX6_alike_13 : decode cX6_alike 13 = .ok (.iload_n 1, 1) := by decide +kernel
theorem dX6_alike_14 : decode cX6_alike 14 = .ok (.bipush 20, 2) := by decide +kernel
theorem dX6_alike_16 : decode cX6_alike 16 = .ok (.if_icmp .gt 28, 3) := by decide +kernel
theorem dX6_alike_19 : decode cX6_alike 19 = .ok (.aload_n 0, 1) := by decide +kernel
theorem dX6_alike_20 : decode cX6_alike 20 = .ok (.getfield 16, 3) := by decide +kernel
theorem dX6_alike_23 : decode cX6_alike 23 = .ok (.invokevirtual 245, 3) := by decide +kernel
theorem dX6_alike_26 : decode cX6_alike 26 = .ok (.ifCond .eq 5, 3) := by decide +kernel
theorem dX6_alike_29 : decode cX6_alike 29 = .ok (.iload_n 1, 1) := by decide +kernel
theorem dX6_alike_30 : decode cX6_alike 30 = .ok (.ireturn, 1) := by decide +kernel
theorem dX6_alike_31 : decode cX6_alike 31 = .ok (.aload_n 0, 1) := by decide +kernel
theorem dX6_alike_32 : decode cX6_alike 32 = .ok (.getfield 16, 3) := by decide +kernel
theorem dX6_alike_35 : decode cX6_alike 35 = .ok (.invokevirtual 242, 3) := by decide +kernel
theorem dX6_alike_38 : decode cX6_alike 38 = .ok (.iinc 1 1, 3) := by decide +kernel
theorem dX6_alike_41 : decode cX6_alike 41 = .ok (.goto (-28), 3) := by decide +kernel
theorem dX6_alike_44 : decode cX6_alike 44 = .ok (.bipush (-4), 2) := by decide +kernel
theorem dX6_alike_46 : decode cX6_alike 46 = .ok (.ireturn, 1) := by decide +kernel
theorem dX6_near_0 : decode cX6_near 0 = .ok (.iload_n 1, 1) := by decide +kernel
theorem dX6_near_1 : decode cX6_near 1 = .ok (.ifCond .lt 8, 3) := by decide +kernel
theorem dX6_near_4 : decode cX6_near 4 = .ok (.iload_n 1, 1) := by decide +kernel
theorem dX6_near_5 : decode cX6_near 5 = .ok (.iconst 1, 1) := by decide +kernel
theorem dX6_near_6 : decode cX6_near 6 = .ok (.if_icmp .le 5, 3) := by decide +kernel
theorem dX6_near_9 : decode cX6_near 9 = .ok (.iconst (-1), 1) := by decide +kernel
theorem dX6_near_10 : decode cX6_near 10 = .ok (.ireturn, 1) := by decide +kernel
theorem dX6_near_11 : decode cX6_near 11 = .ok (.bipush (-4), 2) := by decide +kernel
theorem dX6_near_13 : decode cX6_near 13 = .ok (.istore_n 2, 1) := by decide +kernel
theorem dX6_near_14 : decode cX6_near 14 = .ok (.bipush (-4), 2) := by decide +kernel
theorem dX6_near_16 : decode cX6_near 16 = .ok (.istore_n 3, 1) := by decide +kernel
theorem dX6_near_17 : decode cX6_near 17 = .ok (.iconst 0, 1) := by decide +kernel
theorem dX6_near_18 : decode cX6_near 18 = .ok (.istore 4, 2) := by decide +kernel
theorem dX6_near_20 : decode cX6_near 20 = .ok (.iload 4, 2) := by decide +kernel
theorem dX6_near_22 : decode cX6_near 22 = .ok (.bipush 8, 2) := by decide +kernel
theorem dX6_near_24 : decode cX6_near 24 = .ok (.if_icmp .ge 92, 3) := by decide +kernel
theorem dX6_near_27 : decode cX6_near 27 = .ok (.iload 4, 2) := by decide +kernel
theorem dX6_near_29 : decode cX6_near 29 = .ok (.iconst 1, 1) := by decide +kernel
theorem dX6_near_30 : decode cX6_near 30 = .ok (.iadd, 1) := by decide +kernel
theorem dX6_near_31 : decode cX6_near 31 = .ok (.istore 5, 2) := by decide +kernel
theorem dX6_near_33 : decode cX6_near 33 = .ok (.iload 5, 2) := by decide +kernel
theorem dX6_near_35 : decode cX6_near 35 = .ok (.bipush 8, 2) := by decide +kernel
theorem dX6_near_37 : decode cX6_near 37 = .ok (.if_icmp .ge 73, 3) := by decide +kernel
theorem dX6_near_40 : decode cX6_near 40 = .ok (.aload_n 0, 1) := by decide +kernel
theorem dX6_near_41 : decode cX6_near 41 = .ok (.getfield 10, 3) := by decide +kernel
theorem dX6_near_44 : decode cX6_near 44 = .ok (.iload 4, 2) := by decide +kernel
theorem dX6_near_46 : decode cX6_near 46 = .ok (.invokevirtual 113, 3) := by decide +kernel
theorem dX6_near_49 : decode cX6_near 49 = .ok (.ifCond .eq 55, 3) := by decide +kernel
theorem dX6_near_52 : decode cX6_near 52 = .ok (.aload_n 0, 1) := by decide +kernel
theorem dX6_near_53 : decode cX6_near 53 = .ok (.getfield 10, 3) := by decide +kernel
theorem dX6_near_56 : decode cX6_near 56 = .ok (.iload 5, 2) := by decide +kernel
theorem dX6_near_58 : decode cX6_near 58 = .ok (.invokevirtual 113, 3) := by decide +kernel
theorem dX6_near_61 : decode cX6_near 61 = .ok (.ifCond .ne 6, 3) := by decide +kernel
theorem dX6_near_64 : decode cX6_near 64 = .ok (.goto 40, 3) := by decide +kernel
theorem dX6_near_67 : decode cX6_near 67 = .ok (.aload_n 0, 1) := by decide +kernel
theorem dX6_near_68 : decode cX6_near 68 = .ok (.getfield 10, 3) := by decide +kernel
theorem dX6_near_71 : decode cX6_near 71 = .ok (.iload 4, 2) := by decide +kernel
theorem dX6_near_73 : decode cX6_near 73 = .ok (.iload 5, 2) := by decide +kernel
theorem dX6_near_75 : decode cX6_near 75 = .ok (.invokevirtual 249, 3) := by decide +kernel
theorem dX6_near_78 : decode cX6_near 78 = .ok (.istore 6, 2) := by decide +kernel
theorem dX6_near_80 : decode cX6_near 80 = .ok (.iload_n 3, 1) := by decide +kernel
theorem dX6_near_81 : decode cX6_near 81 = .ok (.bipush (-4), 2) := by decide +kernel
theorem dX6_near_83 : decode cX6_near 83 = .ok (.if_icmp .eq 9, 3) := by decide +kernel
theorem dX6_near_86 : decode cX6_near 86 = .ok (.iload 6, 2) := by decide +kernel
theorem dX6_near_88 : decode cX6_near 88 = .ok (.iload_n 3, 1) := by decide +kernel
theorem dX6_near_89 : decode cX6_near 89 = .ok (.if_icmp .ge 15, 3) := by decide +kernel
theorem dX6_near_92 : decode cX6_near 92 = .ok (.iload 6, 2) := by decide +kernel
theorem dX6_near_94 : decode cX6_near 94 = .ok (.istore_n 3, 1) := by decide +kernel
theorem dX6_near_95 : decode cX6_near 95 = .ok (.bipush 10, 2) := by decide +kernel
theorem dX6_near_97 : decode cX6_near 97 = .ok (.iload 4, 2) := by decide +kernel
theorem dX6_near_99 : decode cX6_near 99 = .ok (.imul, 1) := by decide +kernel
theorem dX6_near_100 : decode cX6_near 100 = .ok (.iload 5, 2) := by decide +kernel
theorem dX6_near_102 : decode cX6_near 102 = .ok (.iadd, 1) := by decide +kernel
theorem dX6_near_103 : decode cX6_near 103 = .ok (.istore_n 2, 1) := by decide +kernel
theorem dX6_near_104 : decode cX6_near 104 = .ok (.iinc 5 1, 3) := by decide +kernel
theorem dX6_near_107 : decode cX6_near 107 = .ok (.goto (-74), 3) := by decide +kernel
theorem dX6_near_110 : decode cX6_near 110 = .ok (.iinc 4 1, 3) := by decide +kernel
theorem dX6_near_113 : decode cX6_near 113 = .ok (.goto (-93), 3) := by decide +kernel
theorem dX6_near_116 : decode cX6_near 116 = .ok (.iload_n 1, 1) := by decide +kernel
theorem dX6_near_117 : decode cX6_near 117 = .ok (.ifCond .ne 7, 3) := by decide +kernel
theorem dX6_near_120 : decode cX6_near 120 = .ok (.iload_n 2, 1) := by decide +kernel
theorem dX6_near_121 : decode cX6_near 121 = .ok (.goto 4, 3) := by decide +kernel
theorem dX6_near_124 : decode cX6_near 124 = .ok (.iload_n 3, 1) := by decide +kernel
theorem dX6_near_125 : decode cX6_near 125 = .ok (.ireturn, 1) := by decide +kernel
theorem dX6_forge_0 : decode cX6_forge 0 = .ok (.aload_n 0, 1) := by decide +kernel
theorem dX6_forge_1 : decode cX6_forge 1 = .ok (.getfield 10, 3) := by decide +kernel
theorem dX6_forge_4 : decode cX6_forge 4 = .ok (.iload_n 1, 1) := by decide +kernel
theorem dX6_forge_5 : decode cX6_forge 5 = .ok (.invokevirtual 113, 3) := by decide +kernel
theorem dX6_forge_8 : decode cX6_forge 8 = .ok (.ifCond .eq 12, 3) := by decide +kernel
theorem dX6_forge_11 : decode cX6_forge 11 = .ok (.iload_n 2, 1) := by decide +kernel
theorem dX6_forge_12 : decode cX6_forge 12 = .ok (.ifCond .lt 8, 3) := by decide +kernel
theorem dX6_forge_15 : decode cX6_forge 15 = .ok (.iload_n 2, 1) := by decide +kernel
theorem dX6_forge_16 : decode cX6_forge 16 = .ok (.iconst 1, 1) := by decide +kernel
theorem dX6_forge_17 : decode cX6_forge 17 = .ok (.if_icmp .le 5, 3) := by decide +kernel
theorem dX6_forge_20 : decode cX6_forge 20 = .ok (.iconst (-1), 1) := by decide +kernel
theorem dX6_forge_21 : decode cX6_forge 21 = .ok (.ireturn, 1) := by decide +kernel
theorem dX6_forge_22 : decode cX6_forge 22 = .ok (.aload_n 0, 1) := by decide +kernel
theorem dX6_forge_23 : decode cX6_forge 23 = .ok (.getfield 16, 3) := by decide +kernel
theorem dX6_forge_26 : decode cX6_forge 26 = .ok (.aload_n 0, 1) := by decide +kernel
theorem dX6_forge_27 : decode cX6_forge 27 = .ok (.getfield 10, 3) := by decide +kernel
theorem dX6_forge_30 : decode cX6_forge 30 = .ok (.invokevirtual 86, 3) := by decide +kernel
theorem dX6_forge_33 : decode cX6_forge 33 = .ok (.iconst (-1), 1) := by decide +kernel
theorem dX6_forge_34 : decode cX6_forge 34 = .ok (.istore_n 3, 1) := by decide +kernel
theorem dX6_forge_35 : decode cX6_forge 35 = .ok (.iconst (-1), 1) := by decide +kernel
theorem dX6_forge_36 : decode cX6_forge 36 = .ok (.istore 4, 2) := by decide +kernel
theorem dX6_forge_38 : decode cX6_forge 38 = .ok (.iconst 0, 1) := by decide +kernel
theorem dX6_forge_39 : decode cX6_forge 39 = .ok (.istore 5, 2) := by decide +kernel
theorem dX6_forge_41 : decode cX6_forge 41 = .ok (.iconst 0, 1) := by decide +kernel
theorem dX6_forge_42 : decode cX6_forge 42 = .ok (.istore 6, 2) := by decide +kernel
theorem dX6_forge_44 : decode cX6_forge 44 = .ok (.iload 6, 2) := by decide +kernel
theorem dX6_forge_46 : decode cX6_forge 46 = .ok (.bipush 8, 2) := by decide +kernel
theorem dX6_forge_48 : decode cX6_forge 48 = .ok (.if_icmp .ge 103, 3) := by decide +kernel
theorem dX6_forge_51 : decode cX6_forge 51 = .ok (.aload_n 0, 1) := by decide +kernel
theorem dX6_forge_52 : decode cX6_forge 52 = .ok (.getfield 10, 3) := by decide +kernel
theorem dX6_forge_55 : decode cX6_forge 55 = .ok (.iload 6, 2) := by decide +kernel
theorem dX6_forge_57 : decode cX6_forge 57 = .ok (.invokevirtual 113, 3) := by decide +kernel
theorem dX6_forge_60 : decode cX6_forge 60 = .ok (.ifCond .ne 6, 3) := by decide +kernel
theorem dX6_forge_63 : decode cX6_forge 63 = .ok (.goto 82, 3) := by decide +kernel
theorem dX6_forge_66 : decode cX6_forge 66 = .ok (.aload_n 0, 1) := by decide +kernel
theorem dX6_forge_67 : decode cX6_forge 67 = .ok (.getfield 16, 3) := by decide +kernel
theorem dX6_forge_70 : decode cX6_forge 70 = .ok (.getfield 128, 3) := by decide +kernel
theorem dX6_forge_73 : decode cX6_forge 73 = .ok (.iload_n 1, 1) := by decide +kernel
theorem dX6_forge_74 : decode cX6_forge 74 = .ok (.iload 6, 2) := by decide +kernel
theorem dX6_forge_76 : decode cX6_forge 76 = .ok (.iastore, 1) := by decide +kernel
theorem dX6_forge_77 : decode cX6_forge 77 = .ok (.aload_n 0, 1) := by decide +kernel
theorem dX6_forge_78 : decode cX6_forge 78 = .ok (.getfield 44, 3) := by decide +kernel
theorem dX6_forge_81 : decode cX6_forge 81 = .ok (.aload_n 0, 1) := by decide +kernel
theorem dX6_forge_82 : decode cX6_forge 82 = .ok (.getfield 16, 3) := by decide +kernel
theorem dX6_forge_85 : decode cX6_forge 85 = .ok (.iconst 0, 1) := by decide +kernel
theorem dX6_forge_86 : decode cX6_forge 86 = .ok (.invokevirtual 201, 3) := by decide +kernel
theorem dX6_forge_89 : decode cX6_forge 89 = .ok (.aload_n 0, 1) := by decide +kernel
theorem dX6_forge_90 : decode cX6_forge 90 = .ok (.getfield 44, 3) := by decide +kernel
theorem dX6_forge_93 : decode cX6_forge 93 = .ok (.getfield 205, 3) := by decide +kernel
theorem dX6_forge_96 : decode cX6_forge 96 = .ok (.iload_n 1, 1) := by decide +kernel
theorem dX6_forge_97 : decode cX6_forge 97 = .ok (.iaload, 1) := by decide +kernel
theorem dX6_forge_98 : decode cX6_forge 98 = .ok (.istore 7, 2) := by decide +kernel
theorem dX6_forge_100 : decode cX6_forge 100 = .ok (.iload 7, 2) := by decide +kernel
theorem dX6_forge_102 : decode cX6_forge 102 = .ok (.iconst (-1), 1) := by decide +kernel
theorem dX6_forge_103 : decode cX6_forge 103 = .ok (.if_icmp .ne 7, 3) := by decide +kernel
theorem dX6_forge_106 : decode cX6_forge 106 = .ok (.iconst (-1), 1) := by decide +kernel
theorem dX6_forge_107 : decode cX6_forge 107 = .ok (.goto 13, 3) := by decide +kernel
theorem dX6_forge_110 : decode cX6_forge 110 = .ok (.aload_n 0, 1) := by decide +kernel
theorem dX6_forge_111 : decode cX6_forge 111 = .ok (.getfield 44, 3) := by decide +kernel
theorem dX6_forge_114 : decode cX6_forge 114 = .ok (.iload_n 1, 1) := by decide +kernel
theorem dX6_forge_115 : decode cX6_forge 115 = .ok (.iload 7, 2) := by decide +kernel
theorem dX6_forge_117 : decode cX6_forge 117 = .ok (.invokevirtual 155, 3) := by decide +kernel
theorem dX6_forge_120 : decode cX6_forge 120 = .ok (.istore 8, 2) := by decide +kernel
theorem dX6_forge_122 : decode cX6_forge 122 = .ok (.iload_n 3, 1) := by decide +kernel
theorem dX6_forge_123 : decode cX6_forge 123 = .ok (.iconst (-1), 1) := by decide +kernel
theorem dX6_forge_124 : decode cX6_forge 124 = .ok (.if_icmp .eq 10, 3) := by decide +kernel
theorem dX6_forge_127 : decode cX6_forge 127 = .ok (.iload 8, 2) := by decide +kernel
theorem dX6_forge_129 : decode cX6_forge 129 = .ok (.iload 5, 2) := by decide +kernel
theorem dX6_forge_131 : decode cX6_forge 131 = .ok (.if_icmp .le 14, 3) := by decide +kernel
theorem dX6_forge_134 : decode cX6_forge 134 = .ok (.iload 6, 2) := by decide +kernel
theorem dX6_forge_136 : decode cX6_forge 136 = .ok (.istore_n 3, 1) := by decide +kernel
theorem dX6_forge_137 : decode cX6_forge 137 = .ok (.iload 7, 2) := by decide +kernel
theorem dX6_forge_139 : decode cX6_forge 139 = .ok (.istore 4, 2) := by decide +kernel
theorem dX6_forge_141 : decode cX6_forge 141 = .ok (.iload 8, 2) := by decide +kernel
theorem dX6_forge_143 : decode cX6_forge 143 = .ok (.istore 5, 2) := by decide +kernel
theorem dX6_forge_145 : decode cX6_forge 145 = .ok (.iinc 6 1, 3) := by decide +kernel
theorem dX6_forge_148 : decode cX6_forge 148 = .ok (.goto (-104), 3) := by decide +kernel
theorem dX6_forge_151 : decode cX6_forge 151 = .ok (.iload_n 2, 1) := by decide +kernel
theorem dX6_forge_152 : decode cX6_forge 152 = .ok (.ifCond .ne 10, 3) := by decide +kernel
theorem dX6_forge_155 : decode cX6_forge 155 = .ok (.iload_n 3, 1) := by decide +kernel
theorem dX6_forge_156 : decode cX6_forge 156 = .ok (.invokestatic 134, 3) := by decide +kernel
theorem dX6_forge_159 : decode cX6_forge 159 = .ok (.goto 8, 3) := by decide +kernel
theorem dX6_forge_162 : decode cX6_forge 162 = .ok (.iload 4, 2) := by decide +kernel
theorem dX6_forge_164 : decode cX6_forge 164 = .ok (.invokestatic 134, 3) := by decide +kernel
theorem dX6_forge_167 : decode cX6_forge 167 = .ok (.ireturn, 1) := by decide +kernel
theorem dX6_swap_0 : decode cX6_swap 0 = .ok (.iload_n 1, 1) := by decide +kernel
theorem dX6_swap_1 : decode cX6_swap 1 = .ok (.ifCond .lt 8, 3) := by decide +kernel
theorem dX6_swap_4 : decode cX6_swap 4 = .ok (.iload_n 1, 1) := by decide +kernel
theorem dX6_swap_5 : decode cX6_swap 5 = .ok (.iconst 1, 1) := by decide +kernel
theorem dX6_swap_6 : decode cX6_swap 6 = .ok (.if_icmp .le 5, 3) := by decide +kernel
theorem dX6_swap_9 : decode cX6_swap 9 = .ok (.iconst (-1), 1) := by decide +kernel
theorem dX6_swap_10 : decode cX6_swap 10 = .ok (.ireturn, 1) := by decide +kernel
theorem dX6_swap_11 : decode cX6_swap 11 = .ok (.aload_n 0, 1) := by decide +kernel
theorem dX6_swap_12 : decode cX6_swap 12 = .ok (.getfield 16, 3) := by decide +kernel
theorem dX6_swap_15 : decode cX6_swap 15 = .ok (.aload_n 0, 1) := by decide +kernel
theorem dX6_swap_16 : decode cX6_swap 16 = .ok (.getfield 10, 3) := by decide +kernel
theorem dX6_swap_19 : decode cX6_swap 19 = .ok (.invokevirtual 86, 3) := by decide +kernel
theorem dX6_swap_22 : decode cX6_swap 22 = .ok (.aload_n 0, 1) := by decide +kernel
theorem dX6_swap_23 : decode cX6_swap 23 = .ok (.getfield 44, 3) := by decide +kernel
theorem dX6_swap_26 : decode cX6_swap 26 = .ok (.aload_n 0, 1) := by decide +kernel
theorem dX6_swap_27 : decode cX6_swap 27 = .ok (.getfield 16, 3) := by decide +kernel
theorem dX6_swap_30 : decode cX6_swap 30 = .ok (.iconst 0, 1) := by decide +kernel
theorem dX6_swap_31 : decode cX6_swap 31 = .ok (.invokevirtual 201, 3) := by decide +kernel
theorem dX6_swap_34 : decode cX6_swap 34 = .ok (.aload_n 0, 1) := by decide +kernel
theorem dX6_swap_35 : decode cX6_swap 35 = .ok (.getfield 44, 3) := by decide +kernel
theorem dX6_swap_38 : decode cX6_swap 38 = .ok (.invokevirtual 211, 3) := by decide +kernel
theorem dX6_swap_41 : decode cX6_swap 41 = .ok (.istore_n 2, 1) := by decide +kernel
theorem dX6_swap_42 : decode cX6_swap 42 = .ok (.bipush (-4), 2) := by decide +kernel
theorem dX6_swap_44 : decode cX6_swap 44 = .ok (.istore_n 3, 1) := by decide +kernel
theorem dX6_swap_45 : decode cX6_swap 45 = .ok (.iconst 0, 1) := by decide +kernel
theorem dX6_swap_46 : decode cX6_swap 46 = .ok (.istore 4, 2) := by decide +kernel
theorem dX6_swap_48 : decode cX6_swap 48 = .ok (.iload 4, 2) := by decide +kernel
theorem dX6_swap_50 : decode cX6_swap 50 = .ok (.bipush 8, 2) := by decide +kernel
theorem dX6_swap_52 : decode cX6_swap 52 = .ok (.if_icmp .ge 83, 3) := by decide +kernel
theorem dX6_swap_55 : decode cX6_swap 55 = .ok (.iload 4, 2) := by decide +kernel
theorem dX6_swap_57 : decode cX6_swap 57 = .ok (.iconst 1, 1) := by decide +kernel
theorem dX6_swap_58 : decode cX6_swap 58 = .ok (.iadd, 1) := by decide +kernel
theorem dX6_swap_59 : decode cX6_swap 59 = .ok (.istore 5, 2) := by decide +kernel
theorem dX6_swap_61 : decode cX6_swap 61 = .ok (.iload 5, 2) := by decide +kernel
theorem dX6_swap_63 : decode cX6_swap 63 = .ok (.bipush 8, 2) := by decide +kernel
theorem dX6_swap_65 : decode cX6_swap 65 = .ok (.if_icmp .ge 64, 3) := by decide +kernel
theorem dX6_swap_68 : decode cX6_swap 68 = .ok (.aload_n 0, 1) := by decide +kernel
theorem dX6_swap_69 : decode cX6_swap 69 = .ok (.getfield 10, 3) := by decide +kernel
theorem dX6_swap_72 : decode cX6_swap 72 = .ok (.iload 4, 2) := by decide +kernel
theorem dX6_swap_74 : decode cX6_swap 74 = .ok (.invokevirtual 113, 3) := by decide +kernel
theorem dX6_swap_77 : decode cX6_swap 77 = .ok (.ifCond .eq 46, 3) := by decide +kernel
theorem dX6_swap_80 : decode cX6_swap 80 = .ok (.aload_n 0, 1) := by decide +kernel
theorem dX6_swap_81 : decode cX6_swap 81 = .ok (.getfield 10, 3) := by decide +kernel
theorem dX6_swap_84 : decode cX6_swap 84 = .ok (.iload 5, 2) := by decide +kernel
theorem dX6_swap_86 : decode cX6_swap 86 = .ok (.invokevirtual 113, 3) := by decide +kernel
theorem dX6_swap_89 : decode cX6_swap 89 = .ok (.ifCond .ne 6, 3) := by decide +kernel
theorem dX6_swap_92 : decode cX6_swap 92 = .ok (.goto 31, 3) := by decide +kernel
theorem dX6_swap_95 : decode cX6_swap 95 = .ok (.aload_n 0, 1) := by decide +kernel
theorem dX6_swap_96 : decode cX6_swap 96 = .ok (.iload 4, 2) := by decide +kernel
theorem dX6_swap_98 : decode cX6_swap 98 = .ok (.iload 5, 2) := by decide +kernel
theorem dX6_swap_100 : decode cX6_swap 100 = .ok (.invokevirtual 252, 3) := by decide +kernel
theorem dX6_swap_103 : decode cX6_swap 103 = .ok (.istore 6, 2) := by decide +kernel
theorem dX6_swap_105 : decode cX6_swap 105 = .ok (.iload 6, 2) := by decide +kernel
theorem dX6_swap_107 : decode cX6_swap 107 = .ok (.iload_n 2, 1) := by decide +kernel
theorem dX6_swap_108 : decode cX6_swap 108 = .ok (.if_icmp .le 15, 3) := by decide +kernel
theorem dX6_swap_111 : decode cX6_swap 111 = .ok (.iload 6, 2) := by decide +kernel
theorem dX6_swap_113 : decode cX6_swap 113 = .ok (.istore_n 2, 1) := by decide +kernel
theorem dX6_swap_114 : decode cX6_swap 114 = .ok (.bipush 10, 2) := by decide +kernel
theorem dX6_swap_116 : decode cX6_swap 116 = .ok (.iload 4, 2) := by decide +kernel
theorem dX6_swap_118 : decode cX6_swap 118 = .ok (.imul, 1) := by decide +kernel
theorem dX6_swap_119 : decode cX6_swap 119 = .ok (.iload 5, 2) := by decide +kernel
theorem dX6_swap_121 : decode cX6_swap 121 = .ok (.iadd, 1) := by decide +kernel
theorem dX6_swap_122 : decode cX6_swap 122 = .ok (.istore_n 3, 1) := by decide +kernel
theorem dX6_swap_123 : decode cX6_swap 123 = .ok (.iinc 5 1, 3) := by decide +kernel
theorem dX6_swap_126 : decode cX6_swap 126 = .ok (.goto (-65), 3) := by decide +kernel
theorem dX6_swap_129 : decode cX6_swap 129 = .ok (.iinc 4 1, 3) := by decide +kernel
theorem dX6_swap_132 : decode cX6_swap 132 = .ok (.goto (-84), 3) := by decide +kernel
theorem dX6_swap_135 : decode cX6_swap 135 = .ok (.iload_n 1, 1) := by decide +kernel
theorem dX6_swap_136 : decode cX6_swap 136 = .ok (.ifCond .eq 9, 3) := by decide +kernel
theorem dX6_swap_139 : decode cX6_swap 139 = .ok (.iload_n 3, 1) := by decide +kernel
theorem dX6_swap_140 : decode cX6_swap 140 = .ok (.bipush (-4), 2) := by decide +kernel
theorem dX6_swap_142 : decode cX6_swap 142 = .ok (.if_icmp .ne 7, 3) := by decide +kernel
theorem dX6_swap_145 : decode cX6_swap 145 = .ok (.iload_n 3, 1) := by decide +kernel
theorem dX6_swap_146 : decode cX6_swap 146 = .ok (.goto 4, 3) := by decide +kernel
theorem dX6_swap_149 : decode cX6_swap 149 = .ok (.iload_n 2, 1) := by decide +kernel
theorem dX6_swap_150 : decode cX6_swap 150 = .ok (.ireturn, 1) := by decide +kernel
theorem dX6_mean_0 : decode cX6_mean 0 = .ok (.iload_n 1, 1) := by decide +kernel
theorem dX6_mean_1 : decode cX6_mean 1 = .ok (.ifCond .lt 18, 3) := by decide +kernel
theorem dX6_mean_4 : decode cX6_mean 4 = .ok (.iload_n 1, 1) := by decide +kernel
theorem dX6_mean_5 : decode cX6_mean 5 = .ok (.bipush 10, 2) := by decide +kernel
theorem dX6_mean_7 : decode cX6_mean 7 = .ok (.if_icmp .gt 12, 3) := by decide +kernel
theorem dX6_mean_10 : decode cX6_mean 10 = .ok (.iload_n 2, 1) := by decide +kernel
theorem dX6_mean_11 : decode cX6_mean 11 = .ok (.ifCond .lt 8, 3) := by decide +kernel
theorem dX6_mean_14 : decode cX6_mean 14 = .ok (.iload_n 2, 1) := by decide +kernel
theorem dX6_mean_15 : decode cX6_mean 15 = .ok (.iconst 1, 1) := by decide +kernel
theorem dX6_mean_16 : decode cX6_mean 16 = .ok (.if_icmp .le 7, 3) := by decide +kernel
theorem dX6_mean_19 : decode cX6_mean 19 = .ok (.ldc2_w 255, 3) := by decide +kernel
theorem dX6_mean_22 : decode cX6_mean 22 = .ok (.lreturn, 1) := by decide +kernel
theorem dX6_mean_23 : decode cX6_mean 23 = .ok (.aload_n 0, 1) := by decide +kernel
theorem dX6_mean_24 : decode cX6_mean 24 = .ok (.iload_n 1, 1) := by decide +kernel
theorem dX6_mean_25 : decode cX6_mean 25 = .ok (.iconst (-1), 1) := by decide +kernel
theorem dX6_mean_26 : decode cX6_mean 26 = .ok (.invokevirtual 257, 3) := by decide +kernel
theorem dX6_mean_29 : decode cX6_mean 29 = .ok (.bipush 10, 2) := by decide +kernel
theorem dX6_mean_31 : decode cX6_mean 31 = .ok (.aload_n 0, 1) := by decide +kernel
theorem dX6_mean_32 : decode cX6_mean 32 = .ok (.getfield 10, 3) := by decide +kernel
theorem dX6_mean_35 : decode cX6_mean 35 = .ok (.invokevirtual 261, 3) := by decide +kernel
theorem dX6_mean_38 : decode cX6_mean 38 = .ok (.invokestatic 263, 3) := by decide +kernel
theorem dX6_mean_41 : decode cX6_mean 41 = .ok (.iload_n 2, 1) := by decide +kernel
theorem dX6_mean_42 : decode cX6_mean 42 = .ok (.invokestatic 266, 3) := by decide +kernel
theorem dX6_mean_45 : decode cX6_mean 45 = .ok (.lreturn, 1) := by decide +kernel
theorem dX6_luck_0 : decode cX6_luck 0 = .ok (.iload_n 1, 1) := by decide +kernel
theorem dX6_luck_1 : decode cX6_luck 1 = .ok (.ifCond .lt 29, 3) := by decide +kernel
theorem dX6_luck_4 : decode cX6_luck 4 = .ok (.iload_n 1, 1) := by decide +kernel
theorem dX6_luck_5 : decode cX6_luck 5 = .ok (.bipush 10, 2) := by decide +kernel
theorem dX6_luck_7 : decode cX6_luck 7 = .ok (.if_icmp .gt 23, 3) := by decide +kernel
theorem dX6_luck_10 : decode cX6_luck 10 = .ok (.aload_n 0, 1) := by decide +kernel
theorem dX6_luck_11 : decode cX6_luck 11 = .ok (.getfield 10, 3) := by decide +kernel
theorem dX6_luck_14 : decode cX6_luck 14 = .ok (.iload_n 2, 1) := by decide +kernel
theorem dX6_luck_15 : decode cX6_luck 15 = .ok (.invokevirtual 113, 3) := by decide +kernel
theorem dX6_luck_18 : decode cX6_luck 18 = .ok (.ifCond .eq 12, 3) := by decide +kernel
theorem dX6_luck_21 : decode cX6_luck 21 = .ok (.iload_n 3, 1) := by decide +kernel
theorem dX6_luck_22 : decode cX6_luck 22 = .ok (.ifCond .lt 8, 3) := by decide +kernel
theorem dX6_luck_25 : decode cX6_luck 25 = .ok (.iload_n 3, 1) := by decide +kernel
theorem dX6_luck_26 : decode cX6_luck 26 = .ok (.iconst 1, 1) := by decide +kernel
theorem dX6_luck_27 : decode cX6_luck 27 = .ok (.if_icmp .le 7, 3) := by decide +kernel
theorem dX6_luck_30 : decode cX6_luck 30 = .ok (.ldc2_w 255, 3) := by decide +kernel
theorem dX6_luck_33 : decode cX6_luck 33 = .ok (.lreturn, 1) := by decide +kernel
theorem dX6_luck_34 : decode cX6_luck 34 = .ok (.aload_n 0, 1) := by decide +kernel
theorem dX6_luck_35 : decode cX6_luck 35 = .ok (.iload_n 1, 1) := by decide +kernel
theorem dX6_luck_36 : decode cX6_luck 36 = .ok (.iload_n 2, 1) := by decide +kernel
theorem dX6_luck_37 : decode cX6_luck 37 = .ok (.invokevirtual 257, 3) := by decide +kernel
theorem dX6_luck_40 : decode cX6_luck 40 = .ok (.bipush 10, 2) := by decide +kernel
theorem dX6_luck_42 : decode cX6_luck 42 = .ok (.aload_n 0, 1) := by decide +kernel
theorem dX6_luck_43 : decode cX6_luck 43 = .ok (.getfield 10, 3) := by decide +kernel
theorem dX6_luck_46 : decode cX6_luck 46 = .ok (.invokevirtual 261, 3) := by decide +kernel
theorem dX6_luck_49 : decode cX6_luck 49 = .ok (.invokestatic 263, 3) := by decide +kernel
theorem dX6_luck_52 : decode cX6_luck 52 = .ok (.iload_n 3, 1) := by decide +kernel
theorem dX6_luck_53 : decode cX6_luck 53 = .ok (.invokestatic 266, 3) := by decide +kernel
theorem dX6_luck_56 : decode cX6_luck 56 = .ok (.lreturn, 1) := by decide +kernel
theorem dX6_see_0 : decode cX6_see 0 = .ok (.aload_n 0, 1) := by decide +kernel
theorem dX6_see_1 : decode cX6_see 1 = .ok (.getfield 10, 3) := by decide +kernel
theorem dX6_see_4 : decode cX6_see 4 = .ok (.iload_n 1, 1) := by decide +kernel
theorem dX6_see_5 : decode cX6_see 5 = .ok (.invokevirtual 113, 3) := by decide +kernel
theorem dX6_see_8 : decode cX6_see 8 = .ok (.ifCond .eq 17, 3) := by decide +kernel
theorem dX6_see_11 : decode cX6_see 11 = .ok (.iload_n 2, 1) := by decide +kernel
theorem dX6_see_12 : decode cX6_see 12 = .ok (.invokestatic 141, 3) := by decide +kernel
theorem dX6_see_15 : decode cX6_see 15 = .ok (.ifCond .eq 10, 3) := by decide +kernel
theorem dX6_see_18 : decode cX6_see 18 = .ok (.iload_n 3, 1) := by decide +kernel
theorem dX6_see_19 : decode cX6_see 19 = .ok (.invokestatic 165, 3) := by decide +kernel
theorem dX6_see_22 : decode cX6_see 22 = .ok (.ifCond .ne 5, 3) := by decide +kernel
theorem dX6_see_25 : decode cX6_see 25 = .ok (.iconst (-1), 1) := by decide +kernel
theorem dX6_see_26 : decode cX6_see 26 = .ok (.ireturn, 1) := by decide +kernel
theorem dX6_see_27 : decode cX6_see 27 = .ok (.aload_n 0, 1) := by decide +kernel
theorem dX6_see_28 : decode cX6_see 28 = .ok (.getfield 51, 3) := by decide +kernel
theorem dX6_see_31 : decode cX6_see 31 = .ok (.iload_n 1, 1) := by decide +kernel
theorem dX6_see_32 : decode cX6_see 32 = .ok (.iload_n 2, 1) := by decide +kernel
theorem dX6_see_33 : decode cX6_see 33 = .ok (.iload_n 3, 1) := by decide +kernel
theorem dX6_see_34 : decode cX6_see 34 = .ok (.invokevirtual 270, 3) := by decide +kernel
theorem dX6_see_37 : decode cX6_see 37 = .ok (.ifCond .eq 13, 3) := by decide +kernel
theorem dX6_see_40 : decode cX6_see 40 = .ok (.aload_n 0, 1) := by decide +kernel
theorem dX6_see_41 : decode cX6_see 41 = .ok (.getfield 51, 3) := by decide +kernel
theorem dX6_see_44 : decode cX6_see 44 = .ok (.getfield 90, 3) := by decide +kernel
theorem dX6_see_47 : decode cX6_see 47 = .ok (.goto 5, 3) := by decide +kernel
theorem dX6_see_50 : decode cX6_see 50 = .ok (.bipush (-3), 2) := by decide +kernel
theorem dX6_see_52 : decode cX6_see 52 = .ok (.ireturn, 1) := by decide +kernel
theorem dX6_forget_0 : decode cX6_forget 0 = .ok (.aload_n 0, 1) := by decide +kernel
theorem dX6_forget_1 : decode cX6_forget 1 = .ok (.getfield 51, 3) := by decide +kernel
theorem dX6_forget_4 : decode cX6_forget 4 = .ok (.getfield 90, 3) := by decide +kernel
theorem dX6_forget_7 : decode cX6_forget 7 = .ok (.istore_n 2, 1) := by decide +kernel
theorem dX6_forget_8 : decode cX6_forget 8 = .ok (.iload_n 1, 1) := by decide +kernel
theorem dX6_forget_9 : decode cX6_forget 9 = .ok (.ifCond .lt 8, 3) := by decide +kernel
theorem dX6_forget_12 : decode cX6_forget 12 = .ok (.iload_n 1, 1) := by decide +kernel
theorem dX6_forget_13 : decode cX6_forget 13 = .ok (.iload_n 2, 1) := by decide +kernel
theorem dX6_forget_14 : decode cX6_forget 14 = .ok (.if_icmp .le 5, 3) := by decide +kernel
theorem dX6_forget_17 : decode cX6_forget 17 = .ok (.iconst (-1), 1) := by decide +kernel
theorem dX6_forget_18 : decode cX6_forget 18 = .ok (.ireturn, 1) := by decide +kernel
theorem dX6_forget_19 : decode cX6_forget 19 = .ok (.aload_n 0, 1) := by decide +kernel
theorem dX6_forget_20 : decode cX6_forget 20 = .ok (.getfield 51, 3) := by decide +kernel
theorem dX6_forget_23 : decode cX6_forget 23 = .ok (.iload_n 1, 1) := by decide +kernel
theorem dX6_forget_24 : decode cX6_forget 24 = .ok (.putfield 90, 3) := by decide +kernel
theorem dX6_forget_27 : decode cX6_forget 27 = .ok (.iload_n 2, 1) := by decide +kernel
theorem dX6_forget_28 : decode cX6_forget 28 = .ok (.ireturn, 1) := by decide +kernel
theorem dX6_fits_0 : decode cX6_fits 0 = .ok (.aload_n 0, 1) := by decide +kernel
theorem dX6_fits_1 : decode cX6_fits 1 = .ok (.getfield 10, 3) := by decide +kernel
theorem dX6_fits_4 : decode cX6_fits 4 = .ok (.iload_n 1, 1) := by decide +kernel
theorem dX6_fits_5 : decode cX6_fits 5 = .ok (.invokevirtual 113, 3) := by decide +kernel
theorem dX6_fits_8 : decode cX6_fits 8 = .ok (.ifCond .eq 11, 3) := by decide +kernel
theorem dX6_fits_11 : decode cX6_fits 11 = .ok (.aload_n 0, 1) := by decide +kernel
theorem dX6_fits_12 : decode cX6_fits 12 = .ok (.iload_n 1, 1) := by decide +kernel
theorem dX6_fits_13 : decode cX6_fits 13 = .ok (.invokevirtual 274, 3) := by decide +kernel
theorem dX6_fits_16 : decode cX6_fits 16 = .ok (.goto 4, 3) := by decide +kernel
theorem dX6_fits_19 : decode cX6_fits 19 = .ok (.iconst (-1), 1) := by decide +kernel
theorem dX6_fits_20 : decode cX6_fits 20 = .ok (.ireturn, 1) := by decide +kernel
theorem dX6_look_0 : decode cX6_look 0 = .ok (.aload_n 0, 1) := by decide +kernel
theorem dX6_look_1 : decode cX6_look 1 = .ok (.getfield 10, 3) := by decide +kernel
theorem dX6_look_4 : decode cX6_look 4 = .ok (.iload_n 1, 1) := by decide +kernel
theorem dX6_look_5 : decode cX6_look 5 = .ok (.invokevirtual 113, 3) := by decide +kernel
theorem dX6_look_8 : decode cX6_look 8 = .ok (.ifCond .eq 12, 3) := by decide +kernel
theorem dX6_look_11 : decode cX6_look 11 = .ok (.iload_n 2, 1) := by decide +kernel
theorem dX6_look_12 : decode cX6_look 12 = .ok (.ifCond .lt 8, 3) := by decide +kernel
theorem dX6_look_15 : decode cX6_look 15 = .ok (.iload_n 2, 1) := by decide +kernel
theorem dX6_look_16 : decode cX6_look 16 = .ok (.iconst 1, 1) := by decide +kernel
theorem dX6_look_17 : decode cX6_look 17 = .ok (.if_icmp .le 5, 3) := by decide +kernel
theorem dX6_look_20 : decode cX6_look 20 = .ok (.iconst (-1), 1) := by decide +kernel
theorem dX6_look_21 : decode cX6_look 21 = .ok (.ireturn, 1) := by decide +kernel
theorem dX6_look_22 : decode cX6_look 22 = .ok (.aload_n 0, 1) := by decide +kernel
theorem dX6_look_23 : decode cX6_look 23 = .ok (.iload_n 1, 1) := by decide +kernel
theorem dX6_look_24 : decode cX6_look 24 = .ok (.invokevirtual 274, 3) := by decide +kernel
theorem dX6_look_27 : decode cX6_look 27 = .ok (.istore_n 3, 1) := by decide +kernel
theorem dX6_look_28 : decode cX6_look 28 = .ok (.iload_n 3, 1) := by decide +kernel
theorem dX6_look_29 : decode cX6_look 29 = .ok (.invokestatic 277, 3) := by decide +kernel
theorem dX6_look_32 : decode cX6_look 32 = .ok (.istore 4, 2) := by decide +kernel
theorem dX6_look_34 : decode cX6_look 34 = .ok (.bipush (-4), 2) := by decide +kernel
theorem dX6_look_36 : decode cX6_look 36 = .ok (.istore 5, 2) := by decide +kernel
theorem dX6_look_38 : decode cX6_look 38 = .ok (.iconst 0, 1) := by decide +kernel
theorem dX6_look_39 : decode cX6_look 39 = .ok (.istore 6, 2) := by decide +kernel
theorem dX6_look_41 : decode cX6_look 41 = .ok (.iload 6, 2) := by decide +kernel
theorem dX6_look_43 : decode cX6_look 43 = .ok (.iconst 3, 1) := by decide +kernel
theorem dX6_look_44 : decode cX6_look 44 = .ok (.if_icmp .ge 34, 3) := by decide +kernel
theorem dX6_look_47 : decode cX6_look 47 = .ok (.aload_n 0, 1) := by decide +kernel
theorem dX6_look_48 : decode cX6_look 48 = .ok (.iload_n 1, 1) := by decide +kernel
theorem dX6_look_49 : decode cX6_look 49 = .ok (.iload 6, 2) := by decide +kernel
theorem dX6_look_51 : decode cX6_look 51 = .ok (.iload_n 3, 1) := by decide +kernel
theorem dX6_look_52 : decode cX6_look 52 = .ok (.invokevirtual 282, 3) := by decide +kernel
theorem dX6_look_55 : decode cX6_look 55 = .ok (.istore 7, 2) := by decide +kernel
theorem dX6_look_57 : decode cX6_look 57 = .ok (.iload 7, 2) := by decide +kernel
theorem dX6_look_59 : decode cX6_look 59 = .ok (.iload 4, 2) := by decide +kernel
theorem dX6_look_61 : decode cX6_look 61 = .ok (.if_icmp .ge 11, 3) := by decide +kernel
theorem dX6_look_64 : decode cX6_look 64 = .ok (.iload 7, 2) := by decide +kernel
theorem dX6_look_66 : decode cX6_look 66 = .ok (.istore 4, 2) := by decide +kernel
theorem dX6_look_68 : decode cX6_look 68 = .ok (.iload 6, 2) := by decide +kernel
theorem dX6_look_70 : decode cX6_look 70 = .ok (.istore 5, 2) := by decide +kernel
theorem dX6_look_72 : decode cX6_look 72 = .ok (.iinc 6 1, 3) := by decide +kernel
theorem dX6_look_75 : decode cX6_look 75 = .ok (.goto (-34), 3) := by decide +kernel
theorem dX6_look_78 : decode cX6_look 78 = .ok (.iload_n 2, 1) := by decide +kernel
theorem dX6_look_79 : decode cX6_look 79 = .ok (.ifCond .eq 10, 3) := by decide +kernel
theorem dX6_look_82 : decode cX6_look 82 = .ok (.iload 5, 2) := by decide +kernel
theorem dX6_look_84 : decode cX6_look 84 = .ok (.bipush (-4), 2) := by decide +kernel
theorem dX6_look_86 : decode cX6_look 86 = .ok (.if_icmp .ne 8, 3) := by decide +kernel
theorem dX6_look_89 : decode cX6_look 89 = .ok (.iload 5, 2) := by decide +kernel
theorem dX6_look_91 : decode cX6_look 91 = .ok (.goto 5, 3) := by decide +kernel
theorem dX6_look_94 : decode cX6_look 94 = .ok (.iload 4, 2) := by decide +kernel
theorem dX6_look_96 : decode cX6_look 96 = .ok (.ireturn, 1) := by decide +kernel
theorem dX6_drift_0 : decode cX6_drift 0 = .ok (.iload_n 2, 1) := by decide +kernel
theorem dX6_drift_1 : decode cX6_drift 1 = .ok (.iconst 1, 1) := by decide +kernel
theorem dX6_drift_2 : decode cX6_drift 2 = .ok (.if_icmp .lt 18, 3) := by decide +kernel
theorem dX6_drift_5 : decode cX6_drift 5 = .ok (.iload_n 2, 1) := by decide +kernel
theorem dX6_drift_6 : decode cX6_drift 6 = .ok (.bipush 60, 2) := by decide +kernel
theorem dX6_drift_8 : decode cX6_drift 8 = .ok (.if_icmp .gt 12, 3) := by decide +kernel
theorem dX6_drift_11 : decode cX6_drift 11 = .ok (.iload_n 3, 1) := by decide +kernel
theorem dX6_drift_12 : decode cX6_drift 12 = .ok (.ifCond .lt 8, 3) := by decide +kernel
theorem dX6_drift_15 : decode cX6_drift 15 = .ok (.iload_n 3, 1) := by decide +kernel
theorem dX6_drift_16 : decode cX6_drift 16 = .ok (.iconst 1, 1) := by decide +kernel
theorem dX6_drift_17 : decode cX6_drift 17 = .ok (.if_icmp .le 5, 3) := by decide +kernel
theorem dX6_drift_20 : decode cX6_drift 20 = .ok (.iconst (-1), 1) := by decide +kernel
theorem dX6_drift_21 : decode cX6_drift 21 = .ok (.ireturn, 1) := by decide +kernel
theorem dX6_drift_22 : decode cX6_drift 22 = .ok (.aload_n 0, 1) := by decide +kernel
theorem dX6_drift_23 : decode cX6_drift 23 = .ok (.getfield 10, 3) := by decide +kernel
theorem dX6_drift_26 : decode cX6_drift 26 = .ok (.invokevirtual 261, 3) := by decide +kernel
theorem dX6_drift_29 : decode cX6_drift 29 = .ok (.istore 4, 2) := by decide +kernel
theorem dX6_drift_31 : decode cX6_drift 31 = .ok (.iload 4, 2) := by decide +kernel
theorem dX6_drift_33 : decode cX6_drift 33 = .ok (.iconst 1, 1) := by decide +kernel
theorem dX6_drift_34 : decode cX6_drift 34 = .ok (.if_icmp .ge 6, 3) := by decide +kernel
theorem dX6_drift_37 : decode cX6_drift 37 = .ok (.bipush (-2), 2) := by decide +kernel
theorem dX6_drift_39 : decode cX6_drift 39 = .ok (.ireturn, 1) := by decide +kernel
theorem dX6_drift_40 : decode cX6_drift 40 = .ok (.aload_n 0, 1) := by decide +kernel
theorem dX6_drift_41 : decode cX6_drift 41 = .ok (.getfield 16, 3) := by decide +kernel
theorem dX6_drift_44 : decode cX6_drift 44 = .ok (.aload_n 0, 1) := by decide +kernel
theorem dX6_drift_45 : decode cX6_drift 45 = .ok (.getfield 10, 3) := by decide +kernel
theorem dX6_drift_48 : decode cX6_drift 48 = .ok (.invokevirtual 86, 3) := by decide +kernel
theorem dX6_drift_51 : decode cX6_drift 51 = .ok (.iload_n 1, 1) := by decide +kernel
theorem dX6_drift_52 : decode cX6_drift 52 = .ok (.istore 5, 2) := by decide +kernel
theorem dX6_drift_54 : decode cX6_drift 54 = .ok (.iconst 0, 1) := by decide +kernel
theorem dX6_drift_55 : decode cX6_drift 55 = .ok (.istore 6, 2) := by decide +kernel
theorem dX6_drift_57 : decode cX6_drift 57 = .ok (.iconst 0, 1) := by decide +kernel
theorem dX6_drift_58 : decode cX6_drift 58 = .ok (.istore 7, 2) := by decide +kernel
theorem dX6_drift_60 : decode cX6_drift 60 = .ok (.iload 7, 2) := by decide +kernel
theorem dX6_drift_62 : decode cX6_drift 62 = .ok (.iload_n 2, 1) := by decide +kernel
theorem dX6_drift_63 : decode cX6_drift 63 = .ok (.if_icmp .ge 94, 3) := by decide +kernel
theorem dX6_drift_66 : decode cX6_drift 66 = .ok (.iload 5, 2) := by decide +kernel
theorem dX6_drift_68 : decode cX6_drift 68 = .ok (.invokestatic 286, 3) := by decide +kernel
theorem dX6_drift_71 : decode cX6_drift 71 = .ok (.istore 5, 2) := by decide +kernel
theorem dX6_drift_73 : decode cX6_drift 73 = .ok (.aload_n 0, 1) := by decide +kernel
theorem dX6_drift_74 : decode cX6_drift 74 = .ok (.getfield 16, 3) := by decide +kernel
theorem dX6_drift_77 : decode cX6_drift 77 = .ok (.iload 5, 2) := by decide +kernel
theorem dX6_drift_79 : decode cX6_drift 79 = .ok (.invokestatic 289, 3) := by decide +kernel
theorem dX6_drift_82 : decode cX6_drift 82 = .ok (.iload 4, 2) := by decide +kernel
theorem dX6_drift_84 : decode cX6_drift 84 = .ok (.irem, 1) := by decide +kernel
theorem dX6_drift_85 : decode cX6_drift 85 = .ok (.invokevirtual 292, 3) := by decide +kernel
theorem dX6_drift_88 : decode cX6_drift 88 = .ok (.istore 8, 2) := by decide +kernel
theorem dX6_drift_90 : decode cX6_drift 90 = .ok (.iload 5, 2) := by decide +kernel
theorem dX6_drift_92 : decode cX6_drift 92 = .ok (.invokestatic 286, 3) := by decide +kernel
theorem dX6_drift_95 : decode cX6_drift 95 = .ok (.istore 5, 2) := by decide +kernel
theorem dX6_drift_97 : decode cX6_drift 97 = .ok (.aload_n 0, 1) := by decide +kernel
theorem dX6_drift_98 : decode cX6_drift 98 = .ok (.getfield 16, 3) := by decide +kernel
theorem dX6_drift_101 : decode cX6_drift 101 = .ok (.getfield 128, 3) := by decide +kernel
theorem dX6_drift_104 : decode cX6_drift 104 = .ok (.iload 8, 2) := by decide +kernel
theorem dX6_drift_106 : decode cX6_drift 106 = .ok (.aload_n 0, 1) := by decide +kernel
theorem dX6_drift_107 : decode cX6_drift 107 = .ok (.getfield 16, 3) := by decide +kernel
theorem dX6_drift_110 : decode cX6_drift 110 = .ok (.iload 5, 2) := by decide +kernel
theorem dX6_drift_112 : decode cX6_drift 112 = .ok (.invokestatic 289, 3) := by decide +kernel
theorem dX6_drift_115 : decode cX6_drift 115 = .ok (.iload 4, 2) := by decide +kernel
theorem dX6_drift_117 : decode cX6_drift 117 = .ok (.irem, 1) := by decide +kernel
theorem dX6_drift_118 : decode cX6_drift 118 = .ok (.invokevirtual 292, 3) := by decide +kernel
theorem dX6_drift_121 : decode cX6_drift 121 = .ok (.iastore, 1) := by decide +kernel
theorem dX6_drift_122 : decode cX6_drift 122 = .ok (.iload_n 3, 1) := by decide +kernel
theorem dX6_drift_123 : decode cX6_drift 123 = .ok (.iconst 1, 1) := by decide +kernel
theorem dX6_drift_124 : decode cX6_drift 124 = .ok (.if_icmp .ne 27, 3) := by decide +kernel
theorem dX6_drift_127 : decode cX6_drift 127 = .ok (.aload_n 0, 1) := by decide +kernel
theorem dX6_drift_128 : decode cX6_drift 128 = .ok (.getfield 44, 3) := by decide +kernel
theorem dX6_drift_131 : decode cX6_drift 131 = .ok (.aload_n 0, 1) := by decide +kernel
theorem dX6_drift_132 : decode cX6_drift 132 = .ok (.getfield 16, 3) := by decide +kernel
theorem dX6_drift_135 : decode cX6_drift 135 = .ok (.iconst 0, 1) := by decide +kernel
theorem dX6_drift_136 : decode cX6_drift 136 = .ok (.invokevirtual 201, 3) := by decide +kernel
theorem dX6_drift_139 : decode cX6_drift 139 = .ok (.iload 6, 2) := by decide +kernel
theorem dX6_drift_141 : decode cX6_drift 141 = .ok (.aload_n 0, 1) := by decide +kernel
theorem dX6_drift_142 : decode cX6_drift 142 = .ok (.getfield 44, 3) := by decide +kernel
theorem dX6_drift_145 : decode cX6_drift 145 = .ok (.invokevirtual 211, 3) := by decide +kernel
theorem dX6_drift_148 : decode cX6_drift 148 = .ok (.iadd, 1) := by decide +kernel
theorem dX6_drift_149 : decode cX6_drift 149 = .ok (.istore 6, 2) := by decide +kernel
theorem dX6_drift_151 : decode cX6_drift 151 = .ok (.iinc 7 1, 3) := by decide +kernel
theorem dX6_drift_154 : decode cX6_drift 154 = .ok (.goto (-94), 3) := by decide +kernel
theorem dX6_drift_157 : decode cX6_drift 157 = .ok (.iload_n 3, 1) := by decide +kernel
theorem dX6_drift_158 : decode cX6_drift 158 = .ok (.iconst 1, 1) := by decide +kernel
theorem dX6_drift_159 : decode cX6_drift 159 = .ok (.if_icmp .ne 6, 3) := by decide +kernel
theorem dX6_drift_162 : decode cX6_drift 162 = .ok (.iload 6, 2) := by decide +kernel
theorem dX6_drift_164 : decode cX6_drift 164 = .ok (.ireturn, 1) := by decide +kernel
theorem dX6_drift_165 : decode cX6_drift 165 = .ok (.aload_n 0, 1) := by decide +kernel
theorem dX6_drift_166 : decode cX6_drift 166 = .ok (.getfield 44, 3) := by decide +kernel
theorem dX6_drift_169 : decode cX6_drift 169 = .ok (.aload_n 0, 1) := by decide +kernel
theorem dX6_drift_170 : decode cX6_drift 170 = .ok (.getfield 16, 3) := by decide +kernel
theorem dX6_drift_173 : decode cX6_drift 173 = .ok (.iconst 0, 1) := by decide +kernel
theorem dX6_drift_174 : decode cX6_drift 174 = .ok (.invokevirtual 201, 3) := by decide +kernel
theorem dX6_drift_177 : decode cX6_drift 177 = .ok (.aload_n 0, 1) := by decide +kernel
theorem dX6_drift_178 : decode cX6_drift 178 = .ok (.getfield 44, 3) := by decide +kernel
theorem dX6_drift_181 : decode cX6_drift 181 = .ok (.invokevirtual 208, 3) := by decide +kernel
theorem dX6_drift_184 : decode cX6_drift 184 = .ok (.ireturn, 1) := by decide +kernel
theorem dX6_keep_0 : decode cX6_keep 0 = .ok (.iload_n 1, 1) := by decide +kernel
theorem dX6_keep_1 : decode cX6_keep 1 = .ok (.ifCond .lt 8, 3) := by decide +kernel
theorem dX6_keep_4 : decode cX6_keep 4 = .ok (.iload_n 1, 1) := by decide +kernel
theorem dX6_keep_5 : decode cX6_keep 5 = .ok (.iconst 1, 1) := by decide +kernel
theorem dX6_keep_6 : decode cX6_keep 6 = .ok (.if_icmp .le 5, 3) := by decide +kernel
theorem dX6_keep_9 : decode cX6_keep 9 = .ok (.iconst (-1), 1) := by decide +kernel
theorem dX6_keep_10 : decode cX6_keep 10 = .ok (.ireturn, 1) := by decide +kernel
theorem dX6_keep_11 : decode cX6_keep 11 = .ok (.aload_n 0, 1) := by decide +kernel
theorem dX6_keep_12 : decode cX6_keep 12 = .ok (.iload_n 1, 1) := by decide +kernel
theorem dX6_keep_13 : decode cX6_keep 13 = .ok (.invokevirtual 295, 3) := by decide +kernel
theorem dX6_keep_16 : decode cX6_keep 16 = .ok (.ifCond .eq 7, 3) := by decide +kernel
theorem dX6_keep_19 : decode cX6_keep 19 = .ok (.iconst 1, 1) := by decide +kernel
theorem dX6_keep_20 : decode cX6_keep 20 = .ok (.goto 4, 3) := by decide +kernel
theorem dX6_keep_23 : decode cX6_keep 23 = .ok (.iconst 0, 1) := by decide +kernel
theorem dX6_keep_24 : decode cX6_keep 24 = .ok (.istore_n 2, 1) := by decide +kernel
theorem dX6_keep_25 : decode cX6_keep 25 = .ok (.aload_n 0, 1) := by decide +kernel
theorem dX6_keep_26 : decode cX6_keep 26 = .ok (.iload_n 1, 1) := by decide +kernel
theorem dX6_keep_27 : decode cX6_keep 27 = .ok (.invokevirtual 298, 3) := by decide +kernel
theorem dX6_keep_30 : decode cX6_keep 30 = .ok (.aload_n 0, 1) := by decide +kernel
theorem dX6_keep_31 : decode cX6_keep 31 = .ok (.getfield 10, 3) := by decide +kernel
theorem dX6_keep_34 : decode cX6_keep 34 = .ok (.invokevirtual 86, 3) := by decide +kernel
theorem dX6_keep_37 : decode cX6_keep 37 = .ok (.aload_n 0, 1) := by decide +kernel
theorem dX6_keep_38 : decode cX6_keep 38 = .ok (.dup, 1) := by decide +kernel
theorem dX6_keep_39 : decode cX6_keep 39 = .ok (.getfield 91, 3) := by decide +kernel
theorem dX6_keep_42 : decode cX6_keep 42 = .ok (.iconst 1, 1) := by decide +kernel
theorem dX6_keep_43 : decode cX6_keep 43 = .ok (.iload_n 1, 1) := by decide +kernel
theorem dX6_keep_44 : decode cX6_keep 44 = .ok (.ishl, 1) := by decide +kernel
theorem dX6_keep_45 : decode cX6_keep 45 = .ok (.ior, 1) := by decide +kernel
theorem dX6_keep_46 : decode cX6_keep 46 = .ok (.putfield 91, 3) := by decide +kernel
theorem dX6_keep_49 : decode cX6_keep 49 = .ok (.iload_n 2, 1) := by decide +kernel
theorem dX6_keep_50 : decode cX6_keep 50 = .ok (.ireturn, 1) := by decide +kernel
theorem dX6_back_0 : decode cX6_back 0 = .ok (.iload_n 1, 1) := by decide +kernel
theorem dX6_back_1 : decode cX6_back 1 = .ok (.ifCond .lt 8, 3) := by decide +kernel
theorem dX6_back_4 : decode cX6_back 4 = .ok (.iload_n 1, 1) := by decide +kernel
theorem dX6_back_5 : decode cX6_back 5 = .ok (.iconst 1, 1) := by decide +kernel
theorem dX6_back_6 : decode cX6_back 6 = .ok (.if_icmp .le 5, 3) := by decide +kernel
theorem dX6_back_9 : decode cX6_back 9 = .ok (.iconst (-1), 1) := by decide +kernel
theorem dX6_back_10 : decode cX6_back 10 = .ok (.ireturn, 1) := by decide +kernel
theorem dX6_back_11 : decode cX6_back 11 = .ok (.aload_n 0, 1) := by decide +kernel
theorem dX6_back_12 : decode cX6_back 12 = .ok (.iload_n 1, 1) := by decide +kernel
theorem dX6_back_13 : decode cX6_back 13 = .ok (.invokevirtual 295, 3) := by decide +kernel
theorem dX6_back_16 : decode cX6_back 16 = .ok (.ifCond .ne 6, 3) := by decide +kernel
theorem dX6_back_19 : decode cX6_back 19 = .ok (.bipush (-2), 2) := by decide +kernel
theorem dX6_back_21 : decode cX6_back 21 = .ok (.ireturn, 1) := by decide +kernel
theorem dX6_back_22 : decode cX6_back 22 = .ok (.aload_n 0, 1) := by decide +kernel
theorem dX6_back_23 : decode cX6_back 23 = .ok (.getfield 10, 3) := by decide +kernel
theorem dX6_back_26 : decode cX6_back 26 = .ok (.aload_n 0, 1) := by decide +kernel
theorem dX6_back_27 : decode cX6_back 27 = .ok (.iload_n 1, 1) := by decide +kernel
theorem dX6_back_28 : decode cX6_back 28 = .ok (.invokevirtual 298, 3) := by decide +kernel
theorem dX6_back_31 : decode cX6_back 31 = .ok (.invokevirtual 86, 3) := by decide +kernel
theorem dX6_back_34 : decode cX6_back 34 = .ok (.aload_n 0, 1) := by decide +kernel
theorem dX6_back_35 : decode cX6_back 35 = .ok (.getfield 10, 3) := by decide +kernel
theorem dX6_back_38 : decode cX6_back 38 = .ok (.getfield 110, 3) := by decide +kernel
theorem dX6_back_41 : decode cX6_back 41 = .ok (.ireturn, 1) := by decide +kernel
theorem dX6_sheet_0 : decode cX6_sheet 0 = .ok (.iload_n 1, 1) := by decide +kernel
theorem dX6_sheet_1 : decode cX6_sheet 1 = .ok (.invokestatic 302, 3) := by decide +kernel
theorem dX6_sheet_4 : decode cX6_sheet 4 = .ok (.ifCond .eq 16, 3) := by decide +kernel
theorem dX6_sheet_7 : decode cX6_sheet 7 = .ok (.iload_n 2, 1) := by decide +kernel
theorem dX6_sheet_8 : decode cX6_sheet 8 = .ok (.invokestatic 305, 3) := by decide +kernel
theorem dX6_sheet_11 : decode cX6_sheet 11 = .ok (.ifCond .eq 9, 3) := by decide +kernel
theorem dX6_sheet_14 : decode cX6_sheet 14 = .ok (.iload_n 3, 1) := by decide +kernel
theorem dX6_sheet_15 : decode cX6_sheet 15 = .ok (.bipush 40, 2) := by decide +kernel
theorem dX6_sheet_17 : decode cX6_sheet 17 = .ok (.if_icmp .le 5, 3) := by decide +kernel
theorem dX6_sheet_20 : decode cX6_sheet 20 = .ok (.iconst (-1), 1) := by decide +kernel
theorem dX6_sheet_21 : decode cX6_sheet 21 = .ok (.ireturn, 1) := by decide +kernel
theorem dX6_sheet_22 : decode cX6_sheet 22 = .ok (.iload_n 3, 1) := by decide +kernel
theorem dX6_sheet_23 : decode cX6_sheet 23 = .ok (.ifCond .ge 6, 3) := by decide +kernel
theorem dX6_sheet_26 : decode cX6_sheet 26 = .ok (.bipush (-14), 2) := by decide +kernel
theorem dX6_sheet_28 : decode cX6_sheet 28 = .ok (.ireturn, 1) := by decide +kernel
theorem dX6_sheet_29 : decode cX6_sheet 29 = .ok (.aload_n 0, 1) := by decide +kernel
theorem dX6_sheet_30 : decode cX6_sheet 30 = .ok (.getfield 61, 3) := by decide +kernel
theorem dX6_sheet_33 : decode cX6_sheet 33 = .ok (.iload_n 1, 1) := by decide +kernel
theorem dX6_sheet_34 : decode cX6_sheet 34 = .ok (.aaload, 1) := by decide +kernel
theorem dX6_sheet_35 : decode cX6_sheet 35 = .ok (.iload_n 2, 1) := by decide +kernel
theorem dX6_sheet_36 : decode cX6_sheet 36 = .ok (.iload_n 3, 1) := by decide +kernel
theorem dX6_sheet_37 : decode cX6_sheet 37 = .ok (.invokevirtual 308, 3) := by decide +kernel
theorem dX6_sheet_40 : decode cX6_sheet 40 = .ok (.iconst 1, 1) := by decide +kernel
theorem dX6_sheet_41 : decode cX6_sheet 41 = .ok (.ireturn, 1) := by decide +kernel
theorem dX6_lay_0 : decode cX6_lay 0 = .ok (.iload_n 1, 1) := by decide +kernel
theorem dX6_lay_1 : decode cX6_lay 1 = .ok (.invokestatic 302, 3) := by decide +kernel
theorem dX6_lay_4 : decode cX6_lay 4 = .ok (.ifCond .ne 5, 3) := by decide +kernel
theorem dX6_lay_7 : decode cX6_lay 7 = .ok (.iconst (-1), 1) := by decide +kernel
theorem dX6_lay_8 : decode cX6_lay 8 = .ok (.ireturn, 1) := by decide +kernel
theorem dX6_lay_9 : decode cX6_lay 9 = .ok (.aload_n 0, 1) := by decide +kernel
theorem dX6_lay_10 : decode cX6_lay 10 = .ok (.getfield 61, 3) := by decide +kernel
theorem dX6_lay_13 : decode cX6_lay 13 = .ok (.iload_n 1, 1) := by decide +kernel
theorem dX6_lay_14 : decode cX6_lay 14 = .ok (.aaload, 1) := by decide +kernel
theorem dX6_lay_15 : decode cX6_lay 15 = .ok (.astore 4, 2) := by decide +kernel
theorem dX6_lay_17 : decode cX6_lay 17 = .ok (.aload 4, 2) := by decide +kernel
theorem dX6_lay_19 : decode cX6_lay 19 = .ok (.aload 4, 2) := by decide +kernel
theorem dX6_lay_21 : decode cX6_lay 21 = .ok (.getfield 311, 3) := by decide +kernel
theorem dX6_lay_24 : decode cX6_lay 24 = .ok (.iload_n 2, 1) := by decide +kernel
theorem dX6_lay_25 : decode cX6_lay 25 = .ok (.invokevirtual 314, 3) := by decide +kernel
theorem dX6_lay_28 : decode cX6_lay 28 = .ok (.istore 5, 2) := by decide +kernel
theorem dX6_lay_30 : decode cX6_lay 30 = .ok (.iload 5, 2) := by decide +kernel
theorem dX6_lay_32 : decode cX6_lay 32 = .ok (.ifCond .eq 9, 3) := by decide +kernel
theorem dX6_lay_35 : decode cX6_lay 35 = .ok (.bipush (-10), 2) := by decide +kernel
theorem dX6_lay_37 : decode cX6_lay 37 = .ok (.iload 5, 2) := by decide +kernel
theorem dX6_lay_39 : decode cX6_lay 39 = .ok (.isub, 1) := by decide +kernel
theorem dX6_lay_40 : decode cX6_lay 40 = .ok (.ireturn, 1) := by decide +kernel
theorem dX6_lay_41 : decode cX6_lay 41 = .ok (.aload 4, 2) := by decide +kernel
theorem dX6_lay_43 : decode cX6_lay 43 = .ok (.iload_n 2, 1) := by decide +kernel
theorem dX6_lay_44 : decode cX6_lay 44 = .ok (.iload_n 3, 1) := by decide +kernel
theorem dX6_lay_45 : decode cX6_lay 45 = .ok (.invokevirtual 317, 3) := by decide +kernel
theorem dX6_lay_48 : decode cX6_lay 48 = .ok (.iconst 1, 1) := by decide +kernel
theorem dX6_lay_49 : decode cX6_lay 49 = .ok (.ireturn, 1) := by decide +kernel
theorem dX6_read_0 : decode cX6_read 0 = .ok (.iload_n 1, 1) := by decide +kernel
theorem dX6_read_1 : decode cX6_read 1 = .ok (.invokestatic 302, 3) := by decide +kernel
theorem dX6_read_4 : decode cX6_read 4 = .ok (.ifCond .eq 22, 3) := by decide +kernel
theorem dX6_read_7 : decode cX6_read 7 = .ok (.iload_n 2, 1) := by decide +kernel
theorem dX6_read_8 : decode cX6_read 8 = .ok (.invokestatic 305, 3) := by decide +kernel
theorem dX6_read_11 : decode cX6_read 11 = .ok (.ifCond .eq 15, 3) := by decide +kernel
theorem dX6_read_14 : decode cX6_read 14 = .ok (.iload 4, 2) := by decide +kernel
theorem dX6_read_16 : decode cX6_read 16 = .ok (.ifCond .lt 10, 3) := by decide +kernel
theorem dX6_read_19 : decode cX6_read 19 = .ok (.iload 4, 2) := by decide +kernel
theorem dX6_read_21 : decode cX6_read 21 = .ok (.bipush 20, 2) := by decide +kernel
theorem dX6_read_23 : decode cX6_read 23 = .ok (.if_icmp .le 5, 3) := by decide +kernel
theorem dX6_read_26 : decode cX6_read 26 = .ok (.iconst (-1), 1) := by decide +kernel
theorem dX6_read_27 : decode cX6_read 27 = .ok (.ireturn, 1) := by decide +kernel
theorem dX6_read_28 : decode cX6_read 28 = .ok (.aload_n 0, 1) := by decide +kernel
theorem dX6_read_29 : decode cX6_read 29 = .ok (.getfield 61, 3) := by decide +kernel
theorem dX6_read_32 : decode cX6_read 32 = .ok (.iload_n 1, 1) := by decide +kernel
theorem dX6_read_33 : decode cX6_read 33 = .ok (.aaload, 1) := by decide +kernel
theorem dX6_read_34 : decode cX6_read 34 = .ok (.astore 5, 2) := by decide +kernel
theorem dX6_read_36 : decode cX6_read 36 = .ok (.aload_n 0, 1) := by decide +kernel
theorem dX6_read_37 : decode cX6_read 37 = .ok (.getfield 16, 3) := by decide +kernel
theorem dX6_read_40 : decode cX6_read 40 = .ok (.aload_n 0, 1) := by decide +kernel
theorem dX6_read_41 : decode cX6_read 41 = .ok (.getfield 10, 3) := by decide +kernel
theorem dX6_read_44 : decode cX6_read 44 = .ok (.invokevirtual 86, 3) := by decide +kernel
theorem dX6_read_47 : decode cX6_read 47 = .ok (.iconst 0, 1) := by decide +kernel
theorem dX6_read_48 : decode cX6_read 48 = .ok (.istore 6, 2) := by decide +kernel
theorem dX6_read_50 : decode cX6_read 50 = .ok (.iconst 0, 1) := by decide +kernel
theorem dX6_read_51 : decode cX6_read 51 = .ok (.istore 7, 2) := by decide +kernel
theorem dX6_read_53 : decode cX6_read 53 = .ok (.iconst 0, 1) := by decide +kernel
theorem dX6_read_54 : decode cX6_read 54 = .ok (.istore 8, 2) := by decide +kernel
theorem dX6_read_56 : decode cX6_read 56 = .ok (.iload 8, 2) := by decide +kernel
theorem dX6_read_58 : decode cX6_read 58 = .ok (.iload 4, 2) := by decide +kernel
theorem dX6_read_60 : decode cX6_read 60 = .ok (.if_icmp .ge 102, 3) := by decide +kernel
theorem dX6_read_63 : decode cX6_read 63 = .ok (.iload_n 3, 1) := by decide +kernel
theorem dX6_read_64 : decode cX6_read 64 = .ok (.iconst 2, 1) := by decide +kernel
theorem dX6_read_65 : decode cX6_read 65 = .ok (.iload 8, 2) := by decide +kernel
theorem dX6_read_67 : decode cX6_read 67 = .ok (.imul, 1) := by decide +kernel
theorem dX6_read_68 : decode cX6_read 68 = .ok (.iadd, 1) := by decide +kernel
theorem dX6_read_69 : decode cX6_read 69 = .ok (.istore 9, 2) := by decide +kernel
theorem dX6_read_71 : decode cX6_read 71 = .ok (.aload 5, 2) := by decide +kernel
theorem dX6_read_73 : decode cX6_read 73 = .ok (.iload_n 2, 1) := by decide +kernel
theorem dX6_read_74 : decode cX6_read 74 = .ok (.iload 9, 2) := by decide +kernel
theorem dX6_read_76 : decode cX6_read 76 = .ok (.invokevirtual 319, 3) := by decide +kernel
theorem dX6_read_79 : decode cX6_read 79 = .ok (.istore 6, 2) := by decide +kernel
theorem dX6_read_81 : decode cX6_read 81 = .ok (.iload 6, 2) := by decide +kernel
theorem dX6_read_83 : decode cX6_read 83 = .ok (.ifCond .eq 6, 3) := by decide +kernel
theorem dX6_read_86 : decode cX6_read 86 = .ok (.goto 76, 3) := by decide +kernel
theorem dX6_read_89 : decode cX6_read 89 = .ok (.aload 5, 2) := by decide +kernel
theorem dX6_read_91 : decode cX6_read 91 = .ok (.getfield 322, 3) := by decide +kernel
theorem dX6_read_94 : decode cX6_read 94 = .ok (.iload 9, 2) := by decide +kernel
theorem dX6_read_96 : decode cX6_read 96 = .ok (.iaload, 1) := by decide +kernel
theorem dX6_read_97 : decode cX6_read 97 = .ok (.istore 10, 2) := by decide +kernel
theorem dX6_read_99 : decode cX6_read 99 = .ok (.aload 5, 2) := by decide +kernel
theorem dX6_read_101 : decode cX6_read 101 = .ok (.getfield 322, 3) := by decide +kernel
theorem dX6_read_104 : decode cX6_read 104 = .ok (.iload 9, 2) := by decide +kernel
theorem dX6_read_106 : decode cX6_read 106 = .ok (.iconst 1, 1) := by decide +kernel
theorem dX6_read_107 : decode cX6_read 107 = .ok (.iadd, 1) := by decide +kernel
theorem dX6_read_108 : decode cX6_read 108 = .ok (.iaload, 1) := by decide +kernel
theorem dX6_read_109 : decode cX6_read 109 = .ok (.istore 11, 2) := by decide +kernel
theorem dX6_read_111 : decode cX6_read 111 = .ok (.aload_n 0, 1) := by decide +kernel
theorem dX6_read_112 : decode cX6_read 112 = .ok (.getfield 10, 3) := by decide +kernel
theorem dX6_read_115 : decode cX6_read 115 = .ok (.iload 10, 2) := by decide +kernel
theorem dX6_read_117 : decode cX6_read 117 = .ok (.invokevirtual 113, 3) := by decide +kernel
theorem dX6_read_120 : decode cX6_read 120 = .ok (.ifCond .eq 15, 3) := by decide +kernel
theorem dX6_read_123 : decode cX6_read 123 = .ok (.aload_n 0, 1) := by decide +kernel
theorem dX6_read_124 : decode cX6_read 124 = .ok (.getfield 10, 3) := by decide +kernel
theorem dX6_read_127 : decode cX6_read 127 = .ok (.iload 11, 2) := by decide +kernel
theorem dX6_read_129 : decode cX6_read 129 = .ok (.invokevirtual 113, 3) := by decide +kernel
theorem dX6_read_132 : decode cX6_read 132 = .ok (.ifCond .ne 9, 3) := by decide +kernel
theorem dX6_read_135 : decode cX6_read 135 = .ok (.bipush (-20), 2) := by decide +kernel
theorem dX6_read_137 : decode cX6_read 137 = .ok (.iload 8, 2) := by decide +kernel
theorem dX6_read_139 : decode cX6_read 139 = .ok (.isub, 1) := by decide +kernel
theorem dX6_read_140 : decode cX6_read 140 = .ok (.ireturn, 1) := by decide +kernel
theorem dX6_read_141 : decode cX6_read 141 = .ok (.aload_n 0, 1) := by decide +kernel
theorem dX6_read_142 : decode cX6_read 142 = .ok (.getfield 16, 3) := by decide +kernel
theorem dX6_read_145 : decode cX6_read 145 = .ok (.getfield 128, 3) := by decide +kernel
theorem dX6_read_148 : decode cX6_read 148 = .ok (.iload 10, 2) := by decide +kernel
theorem dX6_read_150 : decode cX6_read 150 = .ok (.iload 11, 2) := by decide +kernel
theorem dX6_read_152 : decode cX6_read 152 = .ok (.iastore, 1) := by decide +kernel
theorem dX6_read_153 : decode cX6_read 153 = .ok (.iinc 7 1, 3) := by decide +kernel
theorem dX6_read_156 : decode cX6_read 156 = .ok (.iinc 8 1, 3) := by decide +kernel
theorem dX6_read_159 : decode cX6_read 159 = .ok (.goto (-103), 3) := by decide +kernel
theorem dX6_read_162 : decode cX6_read 162 = .ok (.aload_n 0, 1) := by decide +kernel
theorem dX6_read_163 : decode cX6_read 163 = .ok (.getfield 10, 3) := by decide +kernel
theorem dX6_read_166 : decode cX6_read 166 = .ok (.aload_n 0, 1) := by decide +kernel
theorem dX6_read_167 : decode cX6_read 167 = .ok (.getfield 16, 3) := by decide +kernel
theorem dX6_read_170 : decode cX6_read 170 = .ok (.invokevirtual 86, 3) := by decide +kernel
theorem dX6_read_173 : decode cX6_read 173 = .ok (.aload_n 0, 1) := by decide +kernel
theorem dX6_read_174 : decode cX6_read 174 = .ok (.iload 6, 2) := by decide +kernel
theorem dX6_read_176 : decode cX6_read 176 = .ok (.putfield 325, 3) := by decide +kernel
theorem dX6_read_179 : decode cX6_read 179 = .ok (.iload 7, 2) := by decide +kernel
theorem dX6_read_181 : decode cX6_read 181 = .ok (.ireturn, 1) := by decide +kernel
theorem dX6_torn_0 : decode cX6_torn 0 = .ok (.aload_n 0, 1) := by decide +kernel
theorem dX6_torn_1 : decode cX6_torn 1 = .ok (.getfield 325, 3) := by decide +kernel
theorem dX6_torn_4 : decode cX6_torn 4 = .ok (.ireturn, 1) := by decide +kernel
theorem dX6_count_0 : decode cX6_count 0 = .ok (.iload_n 1, 1) := by decide +kernel
theorem dX6_count_1 : decode cX6_count 1 = .ok (.tableswitch 106 0 5 #[39, 47, 55, 63, 90, 98], 39) := by decide +kernel
theorem dX6_count_40 : decode cX6_count 40 = .ok (.aload_n 0, 1) := by decide +kernel
theorem dX6_count_41 : decode cX6_count 41 = .ok (.getfield 51, 3) := by decide +kernel
theorem dX6_count_44 : decode cX6_count 44 = .ok (.getfield 90, 3) := by decide +kernel
theorem dX6_count_47 : decode cX6_count 47 = .ok (.ireturn, 1) := by decide +kernel
theorem dX6_count_48 : decode cX6_count 48 = .ok (.aload_n 0, 1) := by decide +kernel
theorem dX6_count_49 : decode cX6_count 49 = .ok (.getfield 91, 3) := by decide +kernel
theorem dX6_count_52 : decode cX6_count 52 = .ok (.invokestatic 277, 3) := by decide +kernel
theorem dX6_count_55 : decode cX6_count 55 = .ok (.ireturn, 1) := by decide +kernel
theorem dX6_count_56 : decode cX6_count 56 = .ok (.aload_n 0, 1) := by decide +kernel
theorem dX6_count_57 : decode cX6_count 57 = .ok (.getfield 28, 3) := by decide +kernel
theorem dX6_count_60 : decode cX6_count 60 = .ok (.getfield 70, 3) := by decide +kernel
theorem dX6_count_63 : decode cX6_count 63 = .ok (.ireturn, 1) := by decide +kernel
theorem dX6_count_64 : decode cX6_count 64 = .ok (.aload_n 0, 1) := by decide +kernel
theorem dX6_count_65 : decode cX6_count 65 = .ok (.getfield 61, 3) := by decide +kernel
theorem dX6_count_68 : decode cX6_count 68 = .ok (.iconst 0, 1) := by decide +kernel
theorem dX6_count_69 : decode cX6_count 69 = .ok (.aaload, 1) := by decide +kernel
theorem dX6_count_70 : decode cX6_count 70 = .ok (.invokevirtual 328, 3) := by decide +kernel
theorem dX6_count_73 : decode cX6_count 73 = .ok (.ifCond .eq 8, 3) := by decide +kernel
theorem dX6_count_76 : decode cX6_count 76 = .ok (.bipush (-4), 2) := by decide +kernel
theorem dX6_count_78 : decode cX6_count 78 = .ok (.goto 12, 3) := by decide +kernel
theorem dX6_count_81 : decode cX6_count 81 = .ok (.aload_n 0, 1) := by decide +kernel
theorem dX6_count_82 : decode cX6_count 82 = .ok (.getfield 61, 3) := by decide +kernel
theorem dX6_count_85 : decode cX6_count 85 = .ok (.iconst 0, 1) := by decide +kernel
theorem dX6_count_86 : decode cX6_count 86 = .ok (.aaload, 1) := by decide +kernel
theorem dX6_count_87 : decode cX6_count 87 = .ok (.getfield 331, 3) := by decide +kernel
theorem dX6_count_90 : decode cX6_count 90 = .ok (.ireturn, 1) := by decide +kernel
theorem dX6_count_91 : decode cX6_count 91 = .ok (.aload_n 0, 1) := by decide +kernel
theorem dX6_count_92 : decode cX6_count 92 = .ok (.getfield 10, 3) := by decide +kernel
theorem dX6_count_95 : decode cX6_count 95 = .ok (.invokevirtual 195, 3) := by decide +kernel
theorem dX6_count_98 : decode cX6_count 98 = .ok (.ireturn, 1) := by decide +kernel
theorem dX6_count_99 : decode cX6_count 99 = .ok (.aload_n 0, 1) := by decide +kernel
theorem dX6_count_100 : decode cX6_count 100 = .ok (.getfield 10, 3) := by decide +kernel
theorem dX6_count_103 : decode cX6_count 103 = .ok (.invokevirtual 332, 3) := by decide +kernel
theorem dX6_count_106 : decode cX6_count 106 = .ok (.ireturn, 1) := by decide +kernel
theorem dX6_count_107 : decode cX6_count 107 = .ok (.iconst (-1), 1) := by decide +kernel
theorem dX6_count_108 : decode cX6_count 108 = .ok (.ireturn, 1) := by decide +kernel
theorem dX6_orNone_0 : decode cX6_orNone 0 = .ok (.iload_n 0, 1) := by decide +kernel
theorem dX6_orNone_1 : decode cX6_orNone 1 = .ok (.iconst (-1), 1) := by decide +kernel
theorem dX6_orNone_2 : decode cX6_orNone 2 = .ok (.if_icmp .ne 8, 3) := by decide +kernel
theorem dX6_orNone_5 : decode cX6_orNone 5 = .ok (.bipush (-4), 2) := by decide +kernel
theorem dX6_orNone_7 : decode cX6_orNone 7 = .ok (.goto 4, 3) := by decide +kernel
theorem dX6_orNone_10 : decode cX6_orNone 10 = .ok (.iload_n 0, 1) := by decide +kernel
theorem dX6_orNone_11 : decode cX6_orNone 11 = .ok (.ireturn, 1) := by decide +kernel
theorem dX6_isTrait_0 : decode cX6_isTrait 0 = .ok (.iload_n 0, 1) := by decide +kernel
theorem dX6_isTrait_1 : decode cX6_isTrait 1 = .ok (.ifCond .lt 12, 3) := by decide +kernel
theorem dX6_isTrait_4 : decode cX6_isTrait 4 = .ok (.iload_n 0, 1) := by decide +kernel
theorem dX6_isTrait_5 : decode cX6_isTrait 5 = .ok (.iconst 2, 1) := by decide +kernel
theorem dX6_isTrait_6 : decode cX6_isTrait 6 = .ok (.if_icmp .gt 7, 3) := by decide +kernel
theorem dX6_isTrait_9 : decode cX6_isTrait 9 = .ok (.iconst 1, 1) := by decide +kernel
theorem dX6_isTrait_10 : decode cX6_isTrait 10 = .ok (.goto 4, 3) := by decide +kernel
theorem dX6_isTrait_13 : decode cX6_isTrait 13 = .ok (.iconst 0, 1) := by decide +kernel
theorem dX6_isTrait_14 : decode cX6_isTrait 14 = .ok (.ireturn, 1) := by decide +kernel
theorem dX6_isStrokes_0 : decode cX6_isStrokes 0 = .ok (.iload_n 0, 1) := by decide +kernel
theorem dX6_isStrokes_1 : decode cX6_isStrokes 1 = .ok (.ifCond .lt 13, 3) := by decide +kernel
theorem dX6_isStrokes_4 : decode cX6_isStrokes 4 = .ok (.iload_n 0, 1) := by decide +kernel
theorem dX6_isStrokes_5 : decode cX6_isStrokes 5 = .ok (.bipush 9, 2) := by decide +kernel
theorem dX6_isStrokes_7 : decode cX6_isStrokes 7 = .ok (.if_icmp .gt 7, 3) := by decide +kernel
theorem dX6_isStrokes_10 : decode cX6_isStrokes 10 = .ok (.iconst 1, 1) := by decide +kernel
theorem dX6_isStrokes_11 : decode cX6_isStrokes 11 = .ok (.goto 4, 3) := by decide +kernel
theorem dX6_isStrokes_14 : decode cX6_isStrokes 14 = .ok (.iconst 0, 1) := by decide +kernel
theorem dX6_isStrokes_15 : decode cX6_isStrokes 15 = .ok (.ireturn, 1) := by decide +kernel
theorem dX6_isSheet_0 : decode cX6_isSheet 0 = .ok (.iload_n 0, 1) := by decide +kernel
theorem dX6_isSheet_1 : decode cX6_isSheet 1 = .ok (.ifCond .lt 12, 3) := by decide +kernel
theorem dX6_isSheet_4 : decode cX6_isSheet 4 = .ok (.iload_n 0, 1) := by decide +kernel
theorem dX6_isSheet_5 : decode cX6_isSheet 5 = .ok (.iconst 4, 1) := by decide +kernel
theorem dX6_isSheet_6 : decode cX6_isSheet 6 = .ok (.if_icmp .ge 7, 3) := by decide +kernel
theorem dX6_isSheet_9 : decode cX6_isSheet 9 = .ok (.iconst 1, 1) := by decide +kernel
theorem dX6_isSheet_10 : decode cX6_isSheet 10 = .ok (.goto 4, 3) := by decide +kernel
theorem dX6_isSheet_13 : decode cX6_isSheet 13 = .ok (.iconst 0, 1) := by decide +kernel
theorem dX6_isSheet_14 : decode cX6_isSheet 14 = .ok (.ireturn, 1) := by decide +kernel
theorem dX6_isLane_0 : decode cX6_isLane 0 = .ok (.iload_n 0, 1) := by decide +kernel
theorem dX6_isLane_1 : decode cX6_isLane 1 = .ok (.ifCond .lt 12, 3) := by decide +kernel
theorem dX6_isLane_4 : decode cX6_isLane 4 = .ok (.iload_n 0, 1) := by decide +kernel
theorem dX6_isLane_5 : decode cX6_isLane 5 = .ok (.iconst 3, 1) := by decide +kernel
theorem dX6_isLane_6 : decode cX6_isLane 6 = .ok (.if_icmp .ge 7, 3) := by decide +kernel
theorem dX6_isLane_9 : decode cX6_isLane 9 = .ok (.iconst 1, 1) := by decide +kernel
theorem dX6_isLane_10 : decode cX6_isLane 10 = .ok (.goto 4, 3) := by decide +kernel
theorem dX6_isLane_13 : decode cX6_isLane 13 = .ok (.iconst 0, 1) := by decide +kernel
theorem dX6_isLane_14 : decode cX6_isLane 14 = .ok (.ireturn, 1) := by decide +kernel
theorem dX6_replace_0 : decode cX6_replace 0 = .ok (.iload_n 3, 1) := by decide +kernel
theorem dX6_replace_1 : decode cX6_replace 1 = .ok (.ifCond .eq 13, 3) := by decide +kernel
theorem dX6_replace_4 : decode cX6_replace 4 = .ok (.iload_n 1, 1) := by decide +kernel
theorem dX6_replace_5 : decode cX6_replace 5 = .ok (.ifCond .lt 9, 3) := by decide +kernel
theorem dX6_replace_8 : decode cX6_replace 8 = .ok (.iload_n 1, 1) := by decide +kernel
theorem dX6_replace_9 : decode cX6_replace 9 = .ok (.aload_n 0, 1) := by decide +kernel
theorem dX6_replace_10 : decode cX6_replace 10 = .ok (.arraylength, 1) := by decide +kernel
theorem dX6_replace_11 : decode cX6_replace 11 = .ok (.if_icmp .lt 5, 3) := by decide +kernel
theorem dX6_replace_14 : decode cX6_replace 14 = .ok (.iconst (-1), 1) := by decide +kernel
theorem dX6_replace_15 : decode cX6_replace 15 = .ok (.ireturn, 1) := by decide +kernel
theorem dX6_replace_16 : decode cX6_replace 16 = .ok (.aload_n 0, 1) := by decide +kernel
theorem dX6_replace_17 : decode cX6_replace 17 = .ok (.iload_n 1, 1) := by decide +kernel
theorem dX6_replace_18 : decode cX6_replace 18 = .ok (.iaload, 1) := by decide +kernel
theorem dX6_replace_19 : decode cX6_replace 19 = .ok (.istore 4, 2) := by decide +kernel
theorem dX6_replace_21 : decode cX6_replace 21 = .ok (.aload_n 0, 1) := by decide +kernel
theorem dX6_replace_22 : decode cX6_replace 22 = .ok (.iload_n 1, 1) := by decide +kernel
theorem dX6_replace_23 : decode cX6_replace 23 = .ok (.iload_n 2, 1) := by decide +kernel
theorem dX6_replace_24 : decode cX6_replace 24 = .ok (.iastore, 1) := by decide +kernel
theorem dX6_replace_25 : decode cX6_replace 25 = .ok (.iload 4, 2) := by decide +kernel
theorem dX6_replace_27 : decode cX6_replace 27 = .ok (.ireturn, 1) := by decide +kernel
theorem dX6_likesIfSwapped_0 : decode cX6_likesIfSwapped 0 = .ok (.aload_n 0, 1) := by decide +kernel
theorem dX6_likesIfSwapped_1 : decode cX6_likesIfSwapped 1 = .ok (.getfield 16, 3) := by decide +kernel
theorem dX6_likesIfSwapped_4 : decode cX6_likesIfSwapped 4 = .ok (.iload_n 1, 1) := by decide +kernel
theorem dX6_likesIfSwapped_5 : decode cX6_likesIfSwapped 5 = .ok (.iload_n 2, 1) := by decide +kernel
theorem dX6_likesIfSwapped_6 : decode cX6_likesIfSwapped 6 = .ok (.invokevirtual 335, 3) := by decide +kernel
theorem dX6_likesIfSwapped_9 : decode cX6_likesIfSwapped 9 = .ok (.aload_n 0, 1) := by decide +kernel
theorem dX6_likesIfSwapped_10 : decode cX6_likesIfSwapped 10 = .ok (.getfield 44, 3) := by decide +kernel
theorem dX6_likesIfSwapped_13 : decode cX6_likesIfSwapped 13 = .ok (.aload_n 0, 1) := by decide +kernel
theorem dX6_likesIfSwapped_14 : decode cX6_likesIfSwapped 14 = .ok (.getfield 16, 3) := by decide +kernel
theorem dX6_likesIfSwapped_17 : decode cX6_likesIfSwapped 17 = .ok (.iconst 0, 1) := by decide +kernel
theorem dX6_likesIfSwapped_18 : decode cX6_likesIfSwapped 18 = .ok (.invokevirtual 201, 3) := by decide +kernel
theorem dX6_likesIfSwapped_21 : decode cX6_likesIfSwapped 21 = .ok (.aload_n 0, 1) := by decide +kernel
theorem dX6_likesIfSwapped_22 : decode cX6_likesIfSwapped 22 = .ok (.getfield 16, 3) := by decide +kernel
theorem dX6_likesIfSwapped_25 : decode cX6_likesIfSwapped 25 = .ok (.iload_n 1, 1) := by decide +kernel
theorem dX6_likesIfSwapped_26 : decode cX6_likesIfSwapped 26 = .ok (.iload_n 2, 1) := by decide +kernel
theorem dX6_likesIfSwapped_27 : decode cX6_likesIfSwapped 27 = .ok (.invokevirtual 335, 3) := by decide +kernel
theorem dX6_likesIfSwapped_30 : decode cX6_likesIfSwapped 30 = .ok (.aload_n 0, 1) := by decide +kernel
theorem dX6_likesIfSwapped_31 : decode cX6_likesIfSwapped 31 = .ok (.getfield 44, 3) := by decide +kernel
theorem dX6_likesIfSwapped_34 : decode cX6_likesIfSwapped 34 = .ok (.invokevirtual 211, 3) := by decide +kernel
theorem dX6_likesIfSwapped_37 : decode cX6_likesIfSwapped 37 = .ok (.ireturn, 1) := by decide +kernel
theorem dX6_stolenSum_0 : decode cX6_stolenSum 0 = .ok (.aload_n 0, 1) := by decide +kernel
theorem dX6_stolenSum_1 : decode cX6_stolenSum 1 = .ok (.getfield 44, 3) := by decide +kernel
theorem dX6_stolenSum_4 : decode cX6_stolenSum 4 = .ok (.aload_n 0, 1) := by decide +kernel
theorem dX6_stolenSum_5 : decode cX6_stolenSum 5 = .ok (.getfield 10, 3) := by decide +kernel
theorem dX6_stolenSum_8 : decode cX6_stolenSum 8 = .ok (.invokevirtual 152, 3) := by decide +kernel
theorem dX6_stolenSum_11 : decode cX6_stolenSum 11 = .ok (.aload_n 0, 1) := by decide +kernel
theorem dX6_stolenSum_12 : decode cX6_stolenSum 12 = .ok (.getfield 44, 3) := by decide +kernel
theorem dX6_stolenSum_15 : decode cX6_stolenSum 15 = .ok (.getfield 236, 3) := by decide +kernel
theorem dX6_stolenSum_18 : decode cX6_stolenSum 18 = .ok (.istore_n 3, 1) := by decide +kernel
theorem dX6_stolenSum_19 : decode cX6_stolenSum 19 = .ok (.lconst 0, 1) := by decide +kernel
theorem dX6_stolenSum_20 : decode cX6_stolenSum 20 = .ok (.lstore 4, 2) := by decide +kernel
theorem dX6_stolenSum_22 : decode cX6_stolenSum 22 = .ok (.iconst 0, 1) := by decide +kernel
theorem dX6_stolenSum_23 : decode cX6_stolenSum 23 = .ok (.istore 6, 2) := by decide +kernel
theorem dX6_stolenSum_25 : decode cX6_stolenSum 25 = .ok (.iload 6, 2) := by decide +kernel
theorem dX6_stolenSum_27 : decode cX6_stolenSum 27 = .ok (.sipush 256, 3) := by decide +kernel
theorem dX6_stolenSum_30 : decode cX6_stolenSum 30 = .ok (.if_icmp .ge 122, 3) := by decide +kernel
theorem dX6_stolenSum_33 : decode cX6_stolenSum 33 = .ok (.iload 6, 2) := by decide +kernel
theorem dX6_stolenSum_35 : decode cX6_stolenSum 35 = .ok (.iload_n 3, 1) := by decide +kernel
theorem dX6_stolenSum_36 : decode cX6_stolenSum 36 = .ok (.iconst (-1), 1) := by decide +kernel
theorem dX6_stolenSum_37 : decode cX6_stolenSum 37 = .ok (.ixor, 1) := by decide +kernel
theorem dX6_stolenSum_38 : decode cX6_stolenSum 38 = .ok (.iand, 1) := by decide +kernel
theorem dX6_stolenSum_39 : decode cX6_stolenSum 39 = .ok (.ifCond .eq 6, 3) := by decide +kernel
theorem dX6_stolenSum_42 : decode cX6_stolenSum 42 = .ok (.goto 104, 3) := by decide +kernel
theorem dX6_stolenSum_45 : decode cX6_stolenSum 45 = .ok (.iload 6, 2) := by decide +kernel
theorem dX6_stolenSum_47 : decode cX6_stolenSum 47 = .ok (.invokestatic 277, 3) := by decide +kernel
theorem dX6_stolenSum_50 : decode cX6_stolenSum 50 = .ok (.istore 7, 2) := by decide +kernel
theorem dX6_stolenSum_52 : decode cX6_stolenSum 52 = .ok (.iload_n 1, 1) := by decide +kernel
theorem dX6_stolenSum_53 : decode cX6_stolenSum 53 = .ok (.iload 7, 2) := by decide +kernel
theorem dX6_stolenSum_55 : decode cX6_stolenSum 55 = .ok (.invokestatic 263, 3) := by decide +kernel
theorem dX6_stolenSum_58 : decode cX6_stolenSum 58 = .ok (.bipush 10, 2) := by decide +kernel
theorem dX6_stolenSum_60 : decode cX6_stolenSum 60 = .ok (.iload_n 1, 1) := by decide +kernel
theorem dX6_stolenSum_61 : decode cX6_stolenSum 61 = .ok (.isub, 1) := by decide +kernel
theorem dX6_stolenSum_62 : decode cX6_stolenSum 62 = .ok (.aload_n 0, 1) := by decide +kernel
theorem dX6_stolenSum_63 : decode cX6_stolenSum 63 = .ok (.getfield 10, 3) := by decide +kernel
theorem dX6_stolenSum_66 : decode cX6_stolenSum 66 = .ok (.invokevirtual 261, 3) := by decide +kernel
theorem dX6_stolenSum_69 : decode cX6_stolenSum 69 = .ok (.iload 7, 2) := by decide +kernel
theorem dX6_stolenSum_71 : decode cX6_stolenSum 71 = .ok (.isub, 1) := by decide +kernel
theorem dX6_stolenSum_72 : decode cX6_stolenSum 72 = .ok (.invokestatic 263, 3) := by decide +kernel
theorem dX6_stolenSum_75 : decode cX6_stolenSum 75 = .ok (.lmul, 1) := by decide +kernel
theorem dX6_stolenSum_76 : decode cX6_stolenSum 76 = .ok (.lstore 8, 2) := by decide +kernel
theorem dX6_stolenSum_78 : decode cX6_stolenSum 78 = .ok (.lload 8, 2) := by decide +kernel
theorem dX6_stolenSum_80 : decode cX6_stolenSum 80 = .ok (.lconst 0, 1) := by decide +kernel
theorem dX6_stolenSum_81 : decode cX6_stolenSum 81 = .ok (.lcmp, 1) := by decide +kernel
theorem dX6_stolenSum_82 : decode cX6_stolenSum 82 = .ok (.ifCond .le 64, 3) := by decide +kernel
theorem dX6_stolenSum_85 : decode cX6_stolenSum 85 = .ok (.aload_n 0, 1) := by decide +kernel
theorem dX6_stolenSum_86 : decode cX6_stolenSum 86 = .ok (.getfield 44, 3) := by decide +kernel
theorem dX6_stolenSum_89 : decode cX6_stolenSum 89 = .ok (.iload_n 3, 1) := by decide +kernel
theorem dX6_stolenSum_90 : decode cX6_stolenSum 90 = .ok (.iload 6, 2) := by decide +kernel
theorem dX6_stolenSum_92 : decode cX6_stolenSum 92 = .ok (.iconst (-1), 1) := by decide +kernel
theorem dX6_stolenSum_93 : decode cX6_stolenSum 93 = .ok (.ixor, 1) := by decide +kernel
theorem dX6_stolenSum_94 : decode cX6_stolenSum 94 = .ok (.iand, 1) := by decide +kernel
theorem dX6_stolenSum_95 : decode cX6_stolenSum 95 = .ok (.bipush 15, 2) := by decide +kernel
theorem dX6_stolenSum_97 : decode cX6_stolenSum 97 = .ok (.iand, 1) := by decide +kernel
theorem dX6_stolenSum_98 : decode cX6_stolenSum 98 = .ok (.iload_n 3, 1) := by decide +kernel
theorem dX6_stolenSum_99 : decode cX6_stolenSum 99 = .ok (.iload 6, 2) := by decide +kernel
theorem dX6_stolenSum_101 : decode cX6_stolenSum 101 = .ok (.iconst (-1), 1) := by decide +kernel
theorem dX6_stolenSum_102 : decode cX6_stolenSum 102 = .ok (.ixor, 1) := by decide +kernel
theorem dX6_stolenSum_103 : decode cX6_stolenSum 103 = .ok (.iand, 1) := by decide +kernel
theorem dX6_stolenSum_104 : decode cX6_stolenSum 104 = .ok (.sipush 240, 3) := by decide +kernel
theorem dX6_stolenSum_107 : decode cX6_stolenSum 107 = .ok (.iand, 1) := by decide +kernel
theorem dX6_stolenSum_108 : decode cX6_stolenSum 108 = .ok (.invokevirtual 338, 3) := by decide +kernel
theorem dX6_stolenSum_111 : decode cX6_stolenSum 111 = .ok (.lload 4, 2) := by decide +kernel
theorem dX6_stolenSum_113 : decode cX6_stolenSum 113 = .ok (.lload 8, 2) := by decide +kernel
theorem dX6_stolenSum_115 : decode cX6_stolenSum 115 = .ok (.iload_n 2, 1) := by decide +kernel
theorem dX6_stolenSum_116 : decode cX6_stolenSum 116 = .ok (.iconst (-1), 1) := by decide +kernel
theorem dX6_stolenSum_117 : decode cX6_stolenSum 117 = .ok (.if_icmp .ne 13, 3) := by decide +kernel
theorem dX6_stolenSum_120 : decode cX6_stolenSum 120 = .ok (.aload_n 0, 1) := by decide +kernel
theorem dX6_stolenSum_121 : decode cX6_stolenSum 121 = .ok (.getfield 44, 3) := by decide +kernel
theorem dX6_stolenSum_124 : decode cX6_stolenSum 124 = .ok (.invokevirtual 208, 3) := by decide +kernel
theorem dX6_stolenSum_127 : decode cX6_stolenSum 127 = .ok (.goto 14, 3) := by decide +kernel
theorem dX6_stolenSum_130 : decode cX6_stolenSum 130 = .ok (.aload_n 0, 1) := by decide +kernel
theorem dX6_stolenSum_131 : decode cX6_stolenSum 131 = .ok (.getfield 44, 3) := by decide +kernel
theorem dX6_stolenSum_134 : decode cX6_stolenSum 134 = .ok (.invokevirtual 239, 3) := by decide +kernel
theorem dX6_stolenSum_137 : decode cX6_stolenSum 137 = .ok (.iload_n 2, 1) := by decide +kernel
theorem dX6_stolenSum_138 : decode cX6_stolenSum 138 = .ok (.ishr, 1) := by decide +kernel
theorem dX6_stolenSum_139 : decode cX6_stolenSum 139 = .ok (.iconst 1, 1) := by decide +kernel
theorem dX6_stolenSum_140 : decode cX6_stolenSum 140 = .ok (.iand, 1) := by decide +kernel
theorem dX6_stolenSum_141 : decode cX6_stolenSum 141 = .ok (.i2l, 1) := by decide +kernel
theorem dX6_stolenSum_142 : decode cX6_stolenSum 142 = .ok (.lmul, 1) := by decide +kernel
theorem dX6_stolenSum_143 : decode cX6_stolenSum 143 = .ok (.ladd, 1) := by decide +kernel
theorem dX6_stolenSum_144 : decode cX6_stolenSum 144 = .ok (.lstore 4, 2) := by decide +kernel
theorem dX6_stolenSum_146 : decode cX6_stolenSum 146 = .ok (.iinc 6 1, 3) := by decide +kernel
theorem dX6_stolenSum_149 : decode cX6_stolenSum 149 = .ok (.goto (-124), 3) := by decide +kernel
theorem dX6_stolenSum_152 : decode cX6_stolenSum 152 = .ok (.lload 4, 2) := by decide +kernel
theorem dX6_stolenSum_154 : decode cX6_stolenSum 154 = .ok (.lreturn, 1) := by decide +kernel
theorem dX6_power_0 : decode cX6_power 0 = .ok (.lconst 1, 1) := by decide +kernel
theorem dX6_power_1 : decode cX6_power 1 = .ok (.lstore_n 2, 1) := by decide +kernel
theorem dX6_power_2 : decode cX6_power 2 = .ok (.iconst 0, 1) := by decide +kernel
theorem dX6_power_3 : decode cX6_power 3 = .ok (.istore 4, 2) := by decide +kernel
theorem dX6_power_5 : decode cX6_power 5 = .ok (.iload 4, 2) := by decide +kernel
theorem dX6_power_7 : decode cX6_power 7 = .ok (.iload_n 1, 1) := by decide +kernel
theorem dX6_power_8 : decode cX6_power 8 = .ok (.if_icmp .ge 14, 3) := by decide +kernel
theorem dX6_power_11 : decode cX6_power 11 = .ok (.lload_n 2, 1) := by decide +kernel
theorem dX6_power_12 : decode cX6_power 12 = .ok (.iload_n 0, 1) := by decide +kernel
theorem dX6_power_13 : decode cX6_power 13 = .ok (.i2l, 1) := by decide +kernel
theorem dX6_power_14 : decode cX6_power 14 = .ok (.lmul, 1) := by decide +kernel
theorem dX6_power_15 : decode cX6_power 15 = .ok (.lstore_n 2, 1) := by decide +kernel
theorem dX6_power_16 : decode cX6_power 16 = .ok (.iinc 4 1, 3) := by decide +kernel
theorem dX6_power_19 : decode cX6_power 19 = .ok (.goto (-14), 3) := by decide +kernel
theorem dX6_power_22 : decode cX6_power 22 = .ok (.lload_n 2, 1) := by decide +kernel
theorem dX6_power_23 : decode cX6_power 23 = .ok (.lreturn, 1) := by decide +kernel
theorem dX6_lowestTerms_0 : decode cX6_lowestTerms 0 = .ok (.lload_n 0, 1) := by decide +kernel
theorem dX6_lowestTerms_1 : decode cX6_lowestTerms 1 = .ok (.lload_n 2, 1) := by decide +kernel
theorem dX6_lowestTerms_2 : decode cX6_lowestTerms 2 = .ok (.invokestatic 341, 3) := by decide +kernel
theorem dX6_lowestTerms_5 : decode cX6_lowestTerms 5 = .ok (.lstore 5, 2) := by decide +kernel
theorem dX6_lowestTerms_7 : decode cX6_lowestTerms 7 = .ok (.lload 5, 2) := by decide +kernel
theorem dX6_lowestTerms_9 : decode cX6_lowestTerms 9 = .ok (.lconst 1, 1) := by decide +kernel
theorem dX6_lowestTerms_10 : decode cX6_lowestTerms 10 = .ok (.lcmp, 1) := by decide +kernel
theorem dX6_lowestTerms_11 : decode cX6_lowestTerms 11 = .ok (.ifCond .ge 7, 3) := by decide +kernel
theorem dX6_lowestTerms_14 : decode cX6_lowestTerms 14 = .ok (.ldc2_w 255, 3) := by decide +kernel
theorem dX6_lowestTerms_17 : decode cX6_lowestTerms 17 = .ok (.lreturn, 1) := by decide +kernel
theorem dX6_lowestTerms_18 : decode cX6_lowestTerms 18 = .ok (.iload 4, 2) := by decide +kernel
theorem dX6_lowestTerms_20 : decode cX6_lowestTerms 20 = .ok (.ifCond .ne 10, 3) := by decide +kernel
theorem dX6_lowestTerms_23 : decode cX6_lowestTerms 23 = .ok (.lload_n 0, 1) := by decide +kernel
theorem dX6_lowestTerms_24 : decode cX6_lowestTerms 24 = .ok (.lload 5, 2) := by decide +kernel
theorem dX6_lowestTerms_26 : decode cX6_lowestTerms 26 = .ok (.ldiv, 1) := by decide +kernel
theorem dX6_lowestTerms_27 : decode cX6_lowestTerms 27 = .ok (.goto 7, 3) := by decide +kernel
theorem dX6_lowestTerms_30 : decode cX6_lowestTerms 30 = .ok (.lload_n 2, 1) := by decide +kernel
theorem dX6_lowestTerms_31 : decode cX6_lowestTerms 31 = .ok (.lload 5, 2) := by decide +kernel
theorem dX6_lowestTerms_33 : decode cX6_lowestTerms 33 = .ok (.ldiv, 1) := by decide +kernel
theorem dX6_lowestTerms_34 : decode cX6_lowestTerms 34 = .ok (.lreturn, 1) := by decide +kernel
theorem dX6_commonDivisor_0 : decode cX6_commonDivisor 0 = .ok (.lload_n 0, 1) := by decide +kernel
theorem dX6_commonDivisor_1 : decode cX6_commonDivisor 1 = .ok (.lstore 4, 2) := by decide +kernel
theorem dX6_commonDivisor_3 : decode cX6_commonDivisor 3 = .ok (.lload_n 2, 1) := by decide +kernel
theorem dX6_commonDivisor_4 : decode cX6_commonDivisor 4 = .ok (.lstore 6, 2) := by decide +kernel
theorem dX6_commonDivisor_6 : decode cX6_commonDivisor 6 = .ok (.iconst 0, 1) := by decide +kernel
theorem dX6_commonDivisor_7 : decode cX6_commonDivisor 7 = .ok (.istore 8, 2) := by decide +kernel
theorem dX6_commonDivisor_9 : decode cX6_commonDivisor 9 = .ok (.iload 8, 2) := by decide +kernel
theorem dX6_commonDivisor_11 : decode cX6_commonDivisor 11 = .ok (.bipush 100, 2) := by decide +kernel
theorem dX6_commonDivisor_13 : decode cX6_commonDivisor 13 = .ok (.if_icmp .ge 31, 3) := by decide +kernel
theorem dX6_commonDivisor_16 : decode cX6_commonDivisor 16 = .ok (.lload 6, 2) := by decide +kernel
theorem dX6_commonDivisor_18 : decode cX6_commonDivisor 18 = .ok (.lconst 0, 1) := by decide +kernel
theorem dX6_commonDivisor_19 : decode cX6_commonDivisor 19 = .ok (.lcmp, 1) := by decide +kernel
theorem dX6_commonDivisor_20 : decode cX6_commonDivisor 20 = .ok (.ifCond .eq 24, 3) := by decide +kernel
theorem dX6_commonDivisor_23 : decode cX6_commonDivisor 23 = .ok (.lload 4, 2) := by decide +kernel
theorem dX6_commonDivisor_25 : decode cX6_commonDivisor 25 = .ok (.lload 6, 2) := by decide +kernel
theorem dX6_commonDivisor_27 : decode cX6_commonDivisor 27 = .ok (.lrem, 1) := by decide +kernel
theorem dX6_commonDivisor_28 : decode cX6_commonDivisor 28 = .ok (.lstore 9, 2) := by decide +kernel
theorem dX6_commonDivisor_30 : decode cX6_commonDivisor 30 = .ok (.lload 6, 2) := by decide +kernel
theorem dX6_commonDivisor_32 : decode cX6_commonDivisor 32 = .ok (.lstore 4, 2) := by decide +kernel
theorem dX6_commonDivisor_34 : decode cX6_commonDivisor 34 = .ok (.lload 9, 2) := by decide +kernel
theorem dX6_commonDivisor_36 : decode cX6_commonDivisor 36 = .ok (.lstore 6, 2) := by decide +kernel
theorem dX6_commonDivisor_38 : decode cX6_commonDivisor 38 = .ok (.iinc 8 1, 3) := by decide +kernel
theorem dX6_commonDivisor_41 : decode cX6_commonDivisor 41 = .ok (.goto (-32), 3) := by decide +kernel
theorem dX6_commonDivisor_44 : decode cX6_commonDivisor 44 = .ok (.lload 4, 2) := by decide +kernel
theorem dX6_commonDivisor_46 : decode cX6_commonDivisor 46 = .ok (.lreturn, 1) := by decide +kernel
theorem dX6_fittingPens_0 : decode cX6_fittingPens 0 = .ok (.aload_n 0, 1) := by decide +kernel
theorem dX6_fittingPens_1 : decode cX6_fittingPens 1 = .ok (.getfield 16, 3) := by decide +kernel
theorem dX6_fittingPens_4 : decode cX6_fittingPens 4 = .ok (.aload_n 0, 1) := by decide +kernel
theorem dX6_fittingPens_5 : decode cX6_fittingPens 5 = .ok (.getfield 10, 3) := by decide +kernel
theorem dX6_fittingPens_8 : decode cX6_fittingPens 8 = .ok (.invokevirtual 86, 3) := by decide +kernel
theorem dX6_fittingPens_11 : decode cX6_fittingPens 11 = .ok (.iconst 0, 1) := by decide +kernel
theorem dX6_fittingPens_12 : decode cX6_fittingPens 12 = .ok (.istore_n 2, 1) := by decide +kernel
theorem dX6_fittingPens_13 : decode cX6_fittingPens 13 = .ok (.iconst 0, 1) := by decide +kernel
theorem dX6_fittingPens_14 : decode cX6_fittingPens 14 = .ok (.istore_n 3, 1) := by decide +kernel
theorem dX6_fittingPens_15 : decode cX6_fittingPens 15 = .ok (.iload_n 3, 1) := by decide +kernel
theorem dX6_fittingPens_16 : decode cX6_fittingPens 16 = .ok (.bipush 8, 2) := by decide +kernel
theorem dX6_fittingPens_18 : decode cX6_fittingPens 18 = .ok (.if_icmp .ge 54, 3) := by decide +kernel
theorem dX6_fittingPens_21 : decode cX6_fittingPens 21 = .ok (.aload_n 0, 1) := by decide +kernel
theorem dX6_fittingPens_22 : decode cX6_fittingPens 22 = .ok (.getfield 10, 3) := by decide +kernel
theorem dX6_fittingPens_25 : decode cX6_fittingPens 25 = .ok (.iload_n 3, 1) := by decide +kernel
theorem dX6_fittingPens_26 : decode cX6_fittingPens 26 = .ok (.invokevirtual 113, 3) := by decide +kernel
theorem dX6_fittingPens_29 : decode cX6_fittingPens 29 = .ok (.ifCond .ne 6, 3) := by decide +kernel
theorem dX6_fittingPens_32 : decode cX6_fittingPens 32 = .ok (.goto 34, 3) := by decide +kernel
theorem dX6_fittingPens_35 : decode cX6_fittingPens 35 = .ok (.aload_n 0, 1) := by decide +kernel
theorem dX6_fittingPens_36 : decode cX6_fittingPens 36 = .ok (.getfield 16, 3) := by decide +kernel
theorem dX6_fittingPens_39 : decode cX6_fittingPens 39 = .ok (.getfield 128, 3) := by decide +kernel
theorem dX6_fittingPens_42 : decode cX6_fittingPens 42 = .ok (.iload_n 1, 1) := by decide +kernel
theorem dX6_fittingPens_43 : decode cX6_fittingPens 43 = .ok (.iload_n 3, 1) := by decide +kernel
theorem dX6_fittingPens_44 : decode cX6_fittingPens 44 = .ok (.iastore, 1) := by decide +kernel
theorem dX6_fittingPens_45 : decode cX6_fittingPens 45 = .ok (.aload_n 0, 1) := by decide +kernel
theorem dX6_fittingPens_46 : decode cX6_fittingPens 46 = .ok (.getfield 51, 3) := by decide +kernel
theorem dX6_fittingPens_49 : decode cX6_fittingPens 49 = .ok (.aload_n 0, 1) := by decide +kernel
theorem dX6_fittingPens_50 : decode cX6_fittingPens 50 = .ok (.getfield 16, 3) := by decide +kernel
theorem dX6_fittingPens_53 : decode cX6_fittingPens 53 = .ok (.iload_n 1, 1) := by decide +kernel
theorem dX6_fittingPens_54 : decode cX6_fittingPens 54 = .ok (.invokevirtual 345, 3) := by decide +kernel
theorem dX6_fittingPens_57 : decode cX6_fittingPens 57 = .ok (.ifCond .eq 9, 3) := by decide +kernel
theorem dX6_fittingPens_60 : decode cX6_fittingPens 60 = .ok (.iload_n 2, 1) := by decide +kernel
theorem dX6_fittingPens_61 : decode cX6_fittingPens 61 = .ok (.iconst 1, 1) := by decide +kernel
theorem dX6_fittingPens_62 : decode cX6_fittingPens 62 = .ok (.iload_n 3, 1) := by decide +kernel
theorem dX6_fittingPens_63 : decode cX6_fittingPens 63 = .ok (.ishl, 1) := by decide +kernel
theorem dX6_fittingPens_64 : decode cX6_fittingPens 64 = .ok (.ior, 1) := by decide +kernel
theorem dX6_fittingPens_65 : decode cX6_fittingPens 65 = .ok (.istore_n 2, 1) := by decide +kernel
theorem dX6_fittingPens_66 : decode cX6_fittingPens 66 = .ok (.iinc 3 1, 3) := by decide +kernel
theorem dX6_fittingPens_69 : decode cX6_fittingPens 69 = .ok (.goto (-54), 3) := by decide +kernel
theorem dX6_fittingPens_72 : decode cX6_fittingPens 72 = .ok (.iload_n 2, 1) := by decide +kernel
theorem dX6_fittingPens_73 : decode cX6_fittingPens 73 = .ok (.ireturn, 1) := by decide +kernel
theorem dX6_leftAtWorst_0 : decode cX6_leftAtWorst 0 = .ok (.aload_n 0, 1) := by decide +kernel
theorem dX6_leftAtWorst_1 : decode cX6_leftAtWorst 1 = .ok (.getfield 16, 3) := by decide +kernel
theorem dX6_leftAtWorst_4 : decode cX6_leftAtWorst 4 = .ok (.aload_n 0, 1) := by decide +kernel
theorem dX6_leftAtWorst_5 : decode cX6_leftAtWorst 5 = .ok (.getfield 10, 3) := by decide +kernel
theorem dX6_leftAtWorst_8 : decode cX6_leftAtWorst 8 = .ok (.invokevirtual 86, 3) := by decide +kernel
theorem dX6_leftAtWorst_11 : decode cX6_leftAtWorst 11 = .ok (.aload_n 0, 1) := by decide +kernel
theorem dX6_leftAtWorst_12 : decode cX6_leftAtWorst 12 = .ok (.getfield 55, 3) := by decide +kernel
theorem dX6_leftAtWorst_15 : decode cX6_leftAtWorst 15 = .ok (.iconst 0, 1) := by decide +kernel
theorem dX6_leftAtWorst_16 : decode cX6_leftAtWorst 16 = .ok (.invokestatic 349, 3) := by decide +kernel
theorem dX6_leftAtWorst_19 : decode cX6_leftAtWorst 19 = .ok (.iconst 0, 1) := by decide +kernel
theorem dX6_leftAtWorst_20 : decode cX6_leftAtWorst 20 = .ok (.istore 4, 2) := by decide +kernel
theorem dX6_leftAtWorst_22 : decode cX6_leftAtWorst 22 = .ok (.iconst 0, 1) := by decide +kernel
theorem dX6_leftAtWorst_23 : decode cX6_leftAtWorst 23 = .ok (.istore 5, 2) := by decide +kernel
theorem dX6_leftAtWorst_25 : decode cX6_leftAtWorst 25 = .ok (.iload 5, 2) := by decide +kernel
theorem dX6_leftAtWorst_27 : decode cX6_leftAtWorst 27 = .ok (.bipush 8, 2) := by decide +kernel
theorem dX6_leftAtWorst_29 : decode cX6_leftAtWorst 29 = .ok (.if_icmp .ge 76, 3) := by decide +kernel
theorem dX6_leftAtWorst_32 : decode cX6_leftAtWorst 32 = .ok (.iload_n 3, 1) := by decide +kernel
theorem dX6_leftAtWorst_33 : decode cX6_leftAtWorst 33 = .ok (.iload 5, 2) := by decide +kernel
theorem dX6_leftAtWorst_35 : decode cX6_leftAtWorst 35 = .ok (.ishr, 1) := by decide +kernel
theorem dX6_leftAtWorst_36 : decode cX6_leftAtWorst 36 = .ok (.iconst 1, 1) := by decide +kernel
theorem dX6_leftAtWorst_37 : decode cX6_leftAtWorst 37 = .ok (.iand, 1) := by decide +kernel
theorem dX6_leftAtWorst_38 : decode cX6_leftAtWorst 38 = .ok (.ifCond .ne 6, 3) := by decide +kernel
theorem dX6_leftAtWorst_41 : decode cX6_leftAtWorst 41 = .ok (.goto 58, 3) := by decide +kernel
theorem dX6_leftAtWorst_44 : decode cX6_leftAtWorst 44 = .ok (.aload_n 0, 1) := by decide +kernel
theorem dX6_leftAtWorst_45 : decode cX6_leftAtWorst 45 = .ok (.getfield 16, 3) := by decide +kernel
theorem dX6_leftAtWorst_48 : decode cX6_leftAtWorst 48 = .ok (.getfield 128, 3) := by decide +kernel
theorem dX6_leftAtWorst_51 : decode cX6_leftAtWorst 51 = .ok (.iload_n 1, 1) := by decide +kernel
theorem dX6_leftAtWorst_52 : decode cX6_leftAtWorst 52 = .ok (.iload 5, 2) := by decide +kernel
theorem dX6_leftAtWorst_54 : decode cX6_leftAtWorst 54 = .ok (.iastore, 1) := by decide +kernel
theorem dX6_leftAtWorst_55 : decode cX6_leftAtWorst 55 = .ok (.aload_n 0, 1) := by decide +kernel
theorem dX6_leftAtWorst_56 : decode cX6_leftAtWorst 56 = .ok (.getfield 16, 3) := by decide +kernel
theorem dX6_leftAtWorst_59 : decode cX6_leftAtWorst 59 = .ok (.iload_n 1, 1) := by decide +kernel
theorem dX6_leftAtWorst_60 : decode cX6_leftAtWorst 60 = .ok (.iload_n 2, 1) := by decide +kernel
theorem dX6_leftAtWorst_61 : decode cX6_leftAtWorst 61 = .ok (.invokevirtual 144, 3) := by decide +kernel
theorem dX6_leftAtWorst_64 : decode cX6_leftAtWorst 64 = .ok (.istore 6, 2) := by decide +kernel
theorem dX6_leftAtWorst_66 : decode cX6_leftAtWorst 66 = .ok (.iload 6, 2) := by decide +kernel
theorem dX6_leftAtWorst_68 : decode cX6_leftAtWorst 68 = .ok (.invokestatic 165, 3) := by decide +kernel
theorem dX6_leftAtWorst_71 : decode cX6_leftAtWorst 71 = .ok (.ifCond .eq 28, 3) := by decide +kernel
theorem dX6_leftAtWorst_74 : decode cX6_leftAtWorst 74 = .ok (.aload_n 0, 1) := by decide +kernel
theorem dX6_leftAtWorst_75 : decode cX6_leftAtWorst 75 = .ok (.getfield 55, 3) := by decide +kernel
theorem dX6_leftAtWorst_78 : decode cX6_leftAtWorst 78 = .ok (.iload 6, 2) := by decide +kernel
theorem dX6_leftAtWorst_80 : decode cX6_leftAtWorst 80 = .ok (.dup2, 1) := by decide +kernel
theorem dX6_leftAtWorst_81 : decode cX6_leftAtWorst 81 = .ok (.iaload, 1) := by decide +kernel
theorem dX6_leftAtWorst_82 : decode cX6_leftAtWorst 82 = .ok (.iconst 1, 1) := by decide +kernel
theorem dX6_leftAtWorst_83 : decode cX6_leftAtWorst 83 = .ok (.iadd, 1) := by decide +kernel
theorem dX6_leftAtWorst_84 : decode cX6_leftAtWorst 84 = .ok (.iastore, 1) := by decide +kernel
theorem dX6_leftAtWorst_85 : decode cX6_leftAtWorst 85 = .ok (.iload 4, 2) := by decide +kernel
theorem dX6_leftAtWorst_87 : decode cX6_leftAtWorst 87 = .ok (.aload_n 0, 1) := by decide +kernel
theorem dX6_leftAtWorst_88 : decode cX6_leftAtWorst 88 = .ok (.getfield 55, 3) := by decide +kernel
theorem dX6_leftAtWorst_91 : decode cX6_leftAtWorst 91 = .ok (.iload 6, 2) := by decide +kernel
theorem dX6_leftAtWorst_93 : decode cX6_leftAtWorst 93 = .ok (.iaload, 1) := by decide +kernel
theorem dX6_leftAtWorst_94 : decode cX6_leftAtWorst 94 = .ok (.invokestatic 355, 3) := by decide +kernel
theorem dX6_leftAtWorst_97 : decode cX6_leftAtWorst 97 = .ok (.istore 4, 2) := by decide +kernel
theorem dX6_leftAtWorst_99 : decode cX6_leftAtWorst 99 = .ok (.iinc 5 1, 3) := by decide +kernel
theorem dX6_leftAtWorst_102 : decode cX6_leftAtWorst 102 = .ok (.goto (-77), 3) := by decide +kernel
theorem dX6_leftAtWorst_105 : decode cX6_leftAtWorst 105 = .ok (.iload 4, 2) := by decide +kernel
theorem dX6_leftAtWorst_107 : decode cX6_leftAtWorst 107 = .ok (.ireturn, 1) := by decide +kernel
theorem dX6_nextSeed_0 : decode cX6_nextSeed 0 = .ok (.iload_n 0, 1) := by decide +kernel
theorem dX6_nextSeed_1 : decode cX6_nextSeed 1 = .ok (.ldc_w 360, 3) := by decide +kernel
theorem dX6_nextSeed_4 : decode cX6_nextSeed 4 = .ok (.imul, 1) := by decide +kernel
theorem dX6_nextSeed_5 : decode cX6_nextSeed 5 = .ok (.sipush 12345, 3) := by decide +kernel
theorem dX6_nextSeed_8 : decode cX6_nextSeed 8 = .ok (.iadd, 1) := by decide +kernel
theorem dX6_nextSeed_9 : decode cX6_nextSeed 9 = .ok (.ireturn, 1) := by decide +kernel
theorem dX6_drawn_0 : decode cX6_drawn 0 = .ok (.iload_n 0, 1) := by decide +kernel
theorem dX6_drawn_1 : decode cX6_drawn 1 = .ok (.bipush 16, 2) := by decide +kernel
theorem dX6_drawn_3 : decode cX6_drawn 3 = .ok (.iushr, 1) := by decide +kernel
theorem dX6_drawn_4 : decode cX6_drawn 4 = .ok (.sipush 32767, 3) := by decide +kernel
theorem dX6_drawn_7 : decode cX6_drawn 7 = .ok (.iand, 1) := by decide +kernel
theorem dX6_drawn_8 : decode cX6_drawn 8 = .ok (.ireturn, 1) := by decide +kernel
theorem dX6_hasImage_0 : decode cX6_hasImage 0 = .ok (.aload_n 0, 1) := by decide +kernel
theorem dX6_hasImage_1 : decode cX6_hasImage 1 = .ok (.getfield 91, 3) := by decide +kernel
theorem dX6_hasImage_4 : decode cX6_hasImage 4 = .ok (.iload_n 1, 1) := by decide +kernel
theorem dX6_hasImage_5 : decode cX6_hasImage 5 = .ok (.ishr, 1) := by decide +kernel
theorem dX6_hasImage_6 : decode cX6_hasImage 6 = .ok (.iconst 1, 1) := by decide +kernel
theorem dX6_hasImage_7 : decode cX6_hasImage 7 = .ok (.iand, 1) := by decide +kernel
theorem dX6_hasImage_8 : decode cX6_hasImage 8 = .ok (.iconst 1, 1) := by decide +kernel
theorem dX6_hasImage_9 : decode cX6_hasImage 9 = .ok (.if_icmp .ne 7, 3) := by decide +kernel
theorem dX6_hasImage_12 : decode cX6_hasImage 12 = .ok (.iconst 1, 1) := by decide +kernel
theorem dX6_hasImage_13 : decode cX6_hasImage 13 = .ok (.goto 4, 3) := by decide +kernel
theorem dX6_hasImage_16 : decode cX6_hasImage 16 = .ok (.iconst 0, 1) := by decide +kernel
theorem dX6_hasImage_17 : decode cX6_hasImage 17 = .ok (.ireturn, 1) := by decide +kernel
theorem dX6_imageOf_0 : decode cX6_imageOf 0 = .ok (.iload_n 1, 1) := by decide +kernel
theorem dX6_imageOf_1 : decode cX6_imageOf 1 = .ok (.ifCond .ne 10, 3) := by decide +kernel
theorem dX6_imageOf_4 : decode cX6_imageOf 4 = .ok (.aload_n 0, 1) := by decide +kernel
theorem dX6_imageOf_5 : decode cX6_imageOf 5 = .ok (.getfield 19, 3) := by decide +kernel
theorem dX6_imageOf_8 : decode cX6_imageOf 8 = .ok (.goto 7, 3) := by decide +kernel
theorem dX6_imageOf_11 : decode cX6_imageOf 11 = .ok (.aload_n 0, 1) := by decide +kernel
theorem dX6_imageOf_12 : decode cX6_imageOf 12 = .ok (.getfield 22, 3) := by decide +kernel
theorem dX6_imageOf_15 : decode cX6_imageOf 15 = .ok (.areturn, 1) := by decide +kernel
end
section
theorem dX7_init_0 : decode cX7_init 0 = .ok (.aload_n 0, 1) := by decide +kernel
theorem dX7_init_1 : decode cX7_init 1 = .ok (.invokespecial 1, 3) := by decide +kernel
theorem dX7_init_4 : decode cX7_init 4 = .ok (.aload_n 0, 1) := by decide +kernel
theorem dX7_init_5 : decode cX7_init 5 = .ok (.sipush 250, 3) := by decide +kernel
theorem dX7_init_8 : decode cX7_init 8 = .ok (.newarray .int, 2) := by decide +kernel
theorem dX7_init_10 : decode cX7_init 10 = .ok (.putfield 7, 3) := by decide +kernel
theorem dX7_init_13 : decode cX7_init 13 = .ok (.aload_n 0, 1) := by decide +kernel
theorem dX7_init_14 : decode cX7_init 14 = .ok (.bipush 50, 2) := by decide +kernel
theorem dX7_init_16 : decode cX7_init 16 = .ok (.newarray .int, 2) := by decide +kernel
theorem dX7_init_18 : decode cX7_init 18 = .ok (.putfield 13, 3) := by decide +kernel
theorem dX7_init_21 : decode cX7_init 21 = .ok (.aload_n 0, 1) := by decide +kernel
theorem dX7_init_22 : decode cX7_init 22 = .ok (.sipush 160, 3) := by decide +kernel
theorem dX7_init_25 : decode cX7_init 25 = .ok (.newarray .int, 2) := by decide +kernel
theorem dX7_init_27 : decode cX7_init 27 = .ok (.putfield 16, 3) := by decide +kernel
theorem dX7_init_30 : decode cX7_init 30 = .ok (.aload_n 0, 1) := by decide +kernel
theorem dX7_init_31 : decode cX7_init 31 = .ok (.bipush 11, 2) := by decide +kernel
theorem dX7_init_33 : decode cX7_init 33 = .ok (.newarray .int, 2) := by decide +kernel
theorem dX7_init_35 : decode cX7_init 35 = .ok (.dup, 1) := by decide +kernel
theorem dX7_init_36 : decode cX7_init 36 = .ok (.iconst 0, 1) := by decide +kernel
theorem dX7_init_37 : decode cX7_init 37 = .ok (.iconst 0, 1) := by decide +kernel
theorem dX7_init_38 : decode cX7_init 38 = .ok (.iastore, 1) := by decide +kernel
theorem dX7_init_39 : decode cX7_init 39 = .ok (.dup, 1) := by decide +kernel
theorem dX7_init_40 : decode cX7_init 40 = .ok (.iconst 1, 1) := by decide +kernel
theorem dX7_init_41 : decode cX7_init 41 = .ok (.iconst 5, 1) := by decide +kernel
theorem dX7_init_42 : decode cX7_init 42 = .ok (.iastore, 1) := by decide +kernel
theorem dX7_init_43 : decode cX7_init 43 = .ok (.dup, 1) := by decide +kernel
theorem dX7_init_44 : decode cX7_init 44 = .ok (.iconst 2, 1) := by decide +kernel
theorem dX7_init_45 : decode cX7_init 45 = .ok (.bipush 11, 2) := by decide +kernel
theorem dX7_init_47 : decode cX7_init 47 = .ok (.iastore, 1) := by decide +kernel
theorem dX7_init_48 : decode cX7_init 48 = .ok (.dup, 1) := by decide +kernel
theorem dX7_init_49 : decode cX7_init 49 = .ok (.iconst 3, 1) := by decide +kernel
theorem dX7_init_50 : decode cX7_init 50 = .ok (.bipush 15, 2) := by decide +kernel
theorem dX7_init_52 : decode cX7_init 52 = .ok (.iastore, 1) := by decide +kernel
theorem dX7_init_53 : decode cX7_init 53 = .ok (.dup, 1) := by decide +kernel
theorem dX7_init_54 : decode cX7_init 54 = .ok (.iconst 4, 1) := by decide +kernel
theorem dX7_init_55 : decode cX7_init 55 = .ok (.bipush 23, 2) := by decide +kernel
theorem dX7_init_57 : decode cX7_init 57 = .ok (.iastore, 1) := by decide +kernel
theorem dX7_init_58 : decode cX7_init 58 = .ok (.dup, 1) := by decide +kernel
theorem dX7_init_59 : decode cX7_init 59 = .ok (.iconst 5, 1) := by decide +kernel
theorem dX7_init_60 : decode cX7_init 60 = .ok (.bipush 26, 2) := by decide +kernel
theorem dX7_init_62 : decode cX7_init 62 = .ok (.iastore, 1) := by decide +kernel
theorem dX7_init_63 : decode cX7_init 63 = .ok (.dup, 1) := by decide +kernel
theorem dX7_init_64 : decode cX7_init 64 = .ok (.bipush 6, 2) := by decide +kernel
theorem dX7_init_66 : decode cX7_init 66 = .ok (.bipush 29, 2) := by decide +kernel
theorem dX7_init_68 : decode cX7_init 68 = .ok (.iastore, 1) := by decide +kernel
theorem dX7_init_69 : decode cX7_init 69 = .ok (.dup, 1) := by decide +kernel
theorem dX7_init_70 : decode cX7_init 70 = .ok (.bipush 7, 2) := by decide +kernel
theorem dX7_init_72 : decode cX7_init 72 = .ok (.bipush 33, 2) := by decide +kernel
theorem dX7_init_74 : decode cX7_init 74 = .ok (.iastore, 1) := by decide +kernel
theorem dX7_init_75 : decode cX7_init 75 = .ok (.dup, 1) := by decide +kernel
theorem dX7_init_76 : decode cX7_init 76 = .ok (.bipush 8, 2) := by decide +kernel
theorem dX7_init_78 : decode cX7_init 78 = .ok (.bipush 36, 2) := by decide +kernel
theorem dX7_init_80 : decode cX7_init 80 = .ok (.iastore, 1) := by decide +kernel
theorem dX7_init_81 : decode cX7_init 81 = .ok (.dup, 1) := by decide +kernel
theorem dX7_init_82 : decode cX7_init 82 = .ok (.bipush 9, 2) := by decide +kernel
theorem dX7_init_84 : decode cX7_init 84 = .ok (.bipush 40, 2) := by decide +kernel
theorem dX7_init_86 : decode cX7_init 86 = .ok (.iastore, 1) := by decide +kernel
theorem dX7_init_87 : decode cX7_init 87 = .ok (.dup, 1) := by decide +kernel
theorem dX7_init_88 : decode cX7_init 88 = .ok (.bipush 10, 2) := by decide +kernel
theorem dX7_init_90 : decode cX7_init 90 = .ok (.bipush 45, 2) := by decide +kernel
theorem dX7_init_92 : decode cX7_init 92 = .ok (.iastore, 1) := by decide +kernel
theorem dX7_init_93 : decode cX7_init 93 = .ok (.putfield 19, 3) := by decide +kernel
theorem dX7_init_96 : decode cX7_init 96 = .ok (.aload_n 0, 1) := by decide +kernel
theorem dX7_init_97 : decode cX7_init 97 = .ok (.bipush 45, 2) := by decide +kernel
theorem dX7_init_99 : decode cX7_init 99 = .ok (.newarray .int, 2) := by decide +kernel
theorem dX7_init_101 : decode cX7_init 101 = .ok (.dup, 1) := by decide +kernel
theorem dX7_init_102 : decode cX7_init 102 = .ok (.iconst 0, 1) := by decide +kernel
theorem dX7_init_103 : decode cX7_init 103 = .ok (.bipush 112, 2) := by decide +kernel
theorem dX7_init_105 : decode cX7_init 105 = .ok (.iastore, 1) := by decide +kernel
theorem dX7_init_106 : decode cX7_init 106 = .ok (.dup, 1) := by decide +kernel
theorem dX7_init_107 : decode cX7_init 107 = .ok (.iconst 1, 1) := by decide +kernel
theorem dX7_init_108 : decode cX7_init 108 = .ok (.bipush 108, 2) := by decide +kernel
theorem dX7_init_110 : decode cX7_init 110 = .ok (.iastore, 1) := by decide +kernel
theorem dX7_init_111 : decode cX7_init 111 = .ok (.dup, 1) := by decide +kernel
theorem dX7_init_112 : decode cX7_init 112 = .ok (.iconst 2, 1) := by decide +kernel
theorem dX7_init_113 : decode cX7_init 113 = .ok (.bipush 97, 2) := by decide +kernel
theorem dX7_init_115 : decode cX7_init 115 = .ok (.iastore, 1) := by decide +kernel
theorem dX7_init_116 : decode cX7_init 116 = .ok (.dup, 1) := by decide +kernel
theorem dX7_init_117 : decode cX7_init 117 = .ok (.iconst 3, 1) := by decide +kernel
theorem dX7_init_118 : decode cX7_init 118 = .ok (.bipush 105, 2) := by decide +kernel
theorem dX7_init_120 : decode cX7_init 120 = .ok (.iastore, 1) := by decide +kernel
theorem dX7_init_121 : decode cX7_init 121 = .ok (.dup, 1) := by decide +kernel
theorem dX7_init_122 : decode cX7_init 122 = .ok (.iconst 4, 1) := by decide +kernel
theorem dX7_init_123 : decode cX7_init 123 = .ok (.bipush 110, 2) := by decide +kernel
theorem dX7_init_125 : decode cX7_init 125 = .ok (.iastore, 1) := by decide +kernel
theorem dX7_init_126 : decode cX7_init 126 = .ok (.dup, 1) := by decide +kernel
theorem dX7_init_127 : decode cX7_init 127 = .ok (.iconst 5, 1) := by decide +kernel
theorem dX7_init_128 : decode cX7_init 128 = .ok (.bipush 116, 2) := by decide +kernel
theorem dX7_init_130 : decode cX7_init 130 = .ok (.iastore, 1) := by decide +kernel
theorem dX7_init_131 : decode cX7_init 131 = .ok (.dup, 1) := by decide +kernel
theorem dX7_init_132 : decode cX7_init 132 = .ok (.bipush 6, 2) := by decide +kernel
theorem dX7_init_134 : decode cX7_init 134 = .ok (.bipush 97, 2) := by decide +kernel
theorem dX7_init_136 : decode cX7_init 136 = .ok (.iastore, 1) := by decide +kernel
theorem dX7_init_137 : decode cX7_init 137 = .ok (.dup, 1) := by decide +kernel
theorem dX7_init_138 : decode cX7_init 138 = .ok (.bipush 7, 2) := by decide +kernel
theorem dX7_init_140 : decode cX7_init 140 = .ok (.bipush 117, 2) := by decide +kernel
theorem dX7_init_142 : decode cX7_init 142 = .ok (.iastore, 1) := by decide +kernel
theorem dX7_init_143 : decode cX7_init 143 = .ok (.dup, 1) := by decide +kernel
theorem dX7_init_144 : decode cX7_init 144 = .ok (.bipush 8, 2) := by decide +kernel
theorem dX7_init_146 : decode cX7_init 146 = .ok (.bipush 103, 2) := by decide +kernel
theorem dX7_init_148 : decode cX7_init 148 = .ok (.iastore, 1) := by decide +kernel
theorem dX7_init_149 : decode cX7_init 149 = .ok (.dup, 1) := by decide +kernel
theorem dX7_init_150 : decode cX7_init 150 = .ok (.bipush 9, 2) := by decide +kernel
theorem dX7_init_152 : decode cX7_init 152 = .ok (.bipush 104, 2) := by decide +kernel
theorem dX7_init_154 : decode cX7_init 154 = .ok (.iastore, 1) := by decide +kernel
theorem dX7_init_155 : decode cX7_init 155 = .ok (.dup, 1) := by decide +kernel
theorem dX7_init_156 : decode cX7_init 156 = .ok (.bipush 10, 2) := by decide +kernel
theorem dX7_init_158 : decode cX7_init 158 = .ok (.bipush 116, 2) := by decide +kernel
theorem dX7_init_160 : decode cX7_init 160 = .ok (.iastore, 1) := by decide +kernel
theorem dX7_init_161 : decode cX7_init 161 = .ok (.dup, 1) := by decide +kernel
theorem dX7_init_162 : decode cX7_init 162 = .ok (.bipush 11, 2) := by decide +kernel
theorem dX7_init_164 : decode cX7_init 164 = .ok (.bipush 118, 2) := by decide +kernel
theorem dX7_init_166 : decode cX7_init 166 = .ok (.iastore, 1) := by decide +kernel
theorem dX7_init_167 : decode cX7_init 167 = .ok (.dup, 1) := by decide +kernel
theorem dX7_init_168 : decode cX7_init 168 = .ok (.bipush 12, 2) := by decide +kernel
theorem dX7_init_170 : decode cX7_init 170 = .ok (.bipush 97, 2) := by decide +kernel
theorem dX7_init_172 : decode cX7_init 172 = .ok (.iastore, 1) := by decide +kernel
theorem dX7_init_173 : decode cX7_init 173 = .ok (.dup, 1) := by decide +kernel
theorem dX7_init_174 : decode cX7_init 174 = .ok (.bipush 13, 2) := by decide +kernel
theorem dX7_init_176 : decode cX7_init 176 = .ok (.bipush 105, 2) := by decide +kernel
theorem dX7_init_178 : decode cX7_init 178 = .ok (.iastore, 1) := by decide +kernel
theorem dX7_init_179 : decode cX7_init 179 = .ok (.dup, 1) := by decide +kernel
theorem dX7_init_180 : decode cX7_init 180 = .ok (.bipush 14, 2) := by decide +kernel
theorem dX7_init_182 : decode cX7_init 182 = .ok (.bipush 110, 2) := by decide +kernel
theorem dX7_init_184 : decode cX7_init 184 = .ok (.iastore, 1) := by decide +kernel
theorem dX7_init_185 : decode cX7_init 185 = .ok (.dup, 1) := by decide +kernel
theorem dX7_init_186 : decode cX7_init 186 = .ok (.bipush 15, 2) := by decide +kernel
theorem dX7_init_188 : decode cX7_init 188 = .ok (.bipush 116, 2) := by decide +kernel
theorem dX7_init_190 : decode cX7_init 190 = .ok (.iastore, 1) := by decide +kernel
theorem dX7_init_191 : decode cX7_init 191 = .ok (.dup, 1) := by decide +kernel
theorem dX7_init_192 : decode cX7_init 192 = .ok (.bipush 16, 2) := by decide +kernel
theorem dX7_init_194 : decode cX7_init 194 = .ok (.bipush 114, 2) := by decide +kernel
theorem dX7_init_196 : decode cX7_init 196 = .ok (.iastore, 1) := by decide +kernel
theorem dX7_init_197 : decode cX7_init 197 = .ok (.dup, 1) := by decide +kernel
theorem dX7_init_198 : decode cX7_init 198 = .ok (.bipush 17, 2) := by decide +kernel
theorem dX7_init_200 : decode cX7_init 200 = .ok (.bipush 101, 2) := by decide +kernel
theorem dX7_init_202 : decode cX7_init 202 = .ok (.iastore, 1) := by decide +kernel
theorem dX7_init_203 : decode cX7_init 203 = .ok (.dup, 1) := by decide +kernel
theorem dX7_init_204 : decode cX7_init 204 = .ok (.bipush 18, 2) := by decide +kernel
theorem dX7_init_206 : decode cX7_init 206 = .ok (.bipush 109, 2) := by decide +kernel
theorem dX7_init_208 : decode cX7_init 208 = .ok (.iastore, 1) := by decide +kernel
theorem dX7_init_209 : decode cX7_init 209 = .ok (.dup, 1) := by decide +kernel
theorem dX7_init_210 : decode cX7_init 210 = .ok (.bipush 19, 2) := by decide +kernel
theorem dX7_init_212 : decode cX7_init 212 = .ok (.bipush 98, 2) := by decide +kernel
theorem dX7_init_214 : decode cX7_init 214 = .ok (.iastore, 1) := by decide +kernel
theorem dX7_init_215 : decode cX7_init 215 = .ok (.dup, 1) := by decide +kernel
theorem dX7_init_216 : decode cX7_init 216 = .ok (.bipush 20, 2) := by decide +kernel
theorem dX7_init_218 : decode cX7_init 218 = .ok (.bipush 108, 2) := by decide +kernel
theorem dX7_init_220 : decode cX7_init 220 = .ok (.iastore, 1) := by decide +kernel
theorem dX7_init_221 : decode cX7_init 221 = .ok (.dup, 1) := by decide +kernel
theorem dX7_init_222 : decode cX7_init 222 = .ok (.bipush 21, 2) := by decide +kernel
theorem dX7_init_224 : decode cX7_init 224 = .ok (.bipush 101, 2) := by decide +kernel
theorem dX7_init_226 : decode cX7_init 226 = .ok (.iastore, 1) := by decide +kernel
theorem dX7_init_227 : decode cX7_init 227 = .ok (.dup, 1) := by decide +kernel
theorem dX7_init_228 : decode cX7_init 228 = .ok (.bipush 22, 2) := by decide +kernel
theorem dX7_init_230 : decode cX7_init 230 = .ok (.bipush 114, 2) := by decide +kernel
theorem dX7_init_232 : decode cX7_init 232 = .ok (.iastore, 1) := by decide +kernel
theorem dX7_init_233 : decode cX7_init 233 = .ok (.dup, 1) := by decide +kernel
theorem dX7_init_234 : decode cX7_init 234 = .ok (.bipush 23, 2) := by decide +kernel
theorem dX7_init_236 : decode cX7_init 236 = .ok (.bipush 112, 2) := by decide +kernel
theorem dX7_init_238 : decode cX7_init 238 = .ok (.iastore, 1) := by decide +kernel
theorem dX7_init_239 : decode cX7_init 239 = .ok (.dup, 1) := by decide +kernel
theorem dX7_init_240 : decode cX7_init 240 = .ok (.bipush 24, 2) := by decide +kernel
theorem dX7_init_242 : decode cX7_init 242 = .ok (.bipush 101, 2) := by decide +kernel
theorem dX7_init_244 : decode cX7_init 244 = .ok (.iastore, 1) := by decide +kernel
theorem dX7_init_245 : decode cX7_init 245 = .ok (.dup, 1) := by decide +kernel
theorem dX7_init_246 : decode cX7_init 246 = .ok (.bipush 25, 2) := by decide +kernel
theorem dX7_init_248 : decode cX7_init 248 = .ok (.bipush 110, 2) := by decide +kernel
theorem dX7_init_250 : decode cX7_init 250 = .ok (.iastore, 1) := by decide +kernel
theorem dX7_init_251 : decode cX7_init 251 = .ok (.dup, 1) := by decide +kernel
theorem dX7_init_252 : decode cX7_init 252 = .ok (.bipush 26, 2) := by decide +kernel
theorem dX7_init_254 : decode cX7_init 254 = .ok (.bipush 114, 2) := by decide +kernel
theorem dX7_init_256 : decode cX7_init 256 = .ok (.iastore, 1) := by decide +kernel
theorem dX7_init_257 : decode cX7_init 257 = .ok (.dup, 1) := by decide +kernel
theorem dX7_init_258 : decode cX7_init 258 = .ok (.bipush 27, 2) := by decide +kernel
theorem dX7_init_260 : decode cX7_init 260 = .ok (.bipush 117, 2) := by decide +kernel
theorem dX7_init_262 : decode cX7_init 262 = .ok (.iastore, 1) := by decide +kernel
theorem dX7_init_263 : decode cX7_init 263 = .ok (.dup, 1) := by decide +kernel
theorem dX7_init_264 : decode cX7_init 264 = .ok (.bipush 28, 2) := by decide +kernel
theorem dX7_init_266 : decode cX7_init 266 = .ok (.bipush 110, 2) := by decide +kernel
theorem dX7_init_268 : decode cX7_init 268 = .ok (.iastore, 1) := by decide +kernel
theorem dX7_init_269 : decode cX7_init 269 = .ok (.dup, 1) := by decide +kernel
theorem dX7_init_270 : decode cX7_init 270 = .ok (.bipush 29, 2) := by decide +kernel
theorem dX7_init_272 : decode cX7_init 272 = .ok (.bipush 102, 2) := by decide +kernel
theorem dX7_init_274 : decode cX7_init 274 = .ok (.iastore, 1) := by decide +kernel
theorem dX7_init_275 : decode cX7_init 275 = .ok (.dup, 1) := by decide +kernel
theorem dX7_init_276 : decode cX7_init 276 = .ok (.bipush 30, 2) := by decide +kernel
theorem dX7_init_278 : decode cX7_init 278 = .ok (.bipush 111, 2) := by decide +kernel
theorem dX7_init_280 : decode cX7_init 280 = .ok (.iastore, 1) := by decide +kernel
theorem dX7_init_281 : decode cX7_init 281 = .ok (.dup, 1) := by decide +kernel
theorem dX7_init_282 : decode cX7_init 282 = .ok (.bipush 31, 2) := by decide +kernel
theorem dX7_init_284 : decode cX7_init 284 = .ok (.bipush 108, 2) := by decide +kernel
theorem dX7_init_286 : decode cX7_init 286 = .ok (.iastore, 1) := by decide +kernel
theorem dX7_init_287 : decode cX7_init 287 = .ok (.dup, 1) := by decide +kernel
theorem dX7_init_288 : decode cX7_init 288 = .ok (.bipush 32, 2) := by decide +kernel
theorem dX7_init_290 : decode cX7_init 290 = .ok (.bipush 100, 2) := by decide +kernel
theorem dX7_init_292 : decode cX7_init 292 = .ok (.iastore, 1) := by decide +kernel
theorem dX7_init_293 : decode cX7_init 293 = .ok (.dup, 1) := by decide +kernel
theorem dX7_init_294 : decode cX7_init 294 = .ok (.bipush 33, 2) := by decide +kernel
theorem dX7_init_296 : decode cX7_init 296 = .ok (.bipush 119, 2) := by decide +kernel
theorem dX7_init_298 : decode cX7_init 298 = .ok (.iastore, 1) := by decide +kernel
theorem dX7_init_299 : decode cX7_init 299 = .ok (.dup, 1) := by decide +kernel
theorem dX7_init_300 : decode cX7_init 300 = .ok (.bipush 34, 2) := by decide +kernel
theorem dX7_init_302 : decode cX7_init 302 = .ok (.bipush 101, 2) := by decide +kernel
theorem dX7_init_304 : decode cX7_init 304 = .ok (.iastore, 1) := by decide +kernel
theorem dX7_init_305 : decode cX7_init 305 = .ok (.dup, 1) := by decide +kernel
theorem dX7_init_306 : decode cX7_init 306 = .ok (.bipush 35, 2) := by decide +kernel
theorem dX7_init_308 : decode cX7_init 308 = .ok (.bipush 100, 2) := by decide +kernel
theorem dX7_init_310 : decode cX7_init 310 = .ok (.iastore, 1) := by decide +kernel
theorem dX7_init_311 : decode cX7_init 311 = .ok (.dup, 1) := by decide +kernel
theorem dX7_init_312 : decode cX7_init 312 = .ok (.bipush 36, 2) := by decide +kernel
theorem dX7_init_314 : decode cX7_init 314 = .ok (.bipush 108, 2) := by decide +kernel
theorem dX7_init_316 : decode cX7_init 316 = .ok (.iastore, 1) := by decide +kernel
theorem dX7_init_317 : decode cX7_init 317 = .ok (.dup, 1) := by decide +kernel
theorem dX7_init_318 : decode cX7_init 318 = .ok (.bipush 37, 2) := by decide +kernel
theorem dX7_init_320 : decode cX7_init 320 = .ok (.bipush 101, 2) := by decide +kernel
theorem dX7_init_322 : decode cX7_init 322 = .ok (.iastore, 1) := by decide +kernel
theorem dX7_init_323 : decode cX7_init 323 = .ok (.dup, 1) := by decide +kernel
theorem dX7_init_324 : decode cX7_init 324 = .ok (.bipush 38, 2) := by decide +kernel
theorem dX7_init_326 : decode cX7_init 326 = .ok (.bipush 102, 2) := by decide +kernel
theorem dX7_init_328 : decode cX7_init 328 = .ok (.iastore, 1) := by decide +kernel
theorem dX7_init_329 : decode cX7_init 329 = .ok (.dup, 1) := by decide +kernel
theorem dX7_init_330 : decode cX7_init 330 = .ok (.bipush 39, 2) := by decide +kernel
theorem dX7_init_332 : decode cX7_init 332 = .ok (.bipush 116, 2) := by decide +kernel
theorem dX7_init_334 : decode cX7_init 334 = .ok (.iastore, 1) := by decide +kernel
theorem dX7_init_335 : decode cX7_init 335 = .ok (.dup, 1) := by decide +kernel
theorem dX7_init_336 : decode cX7_init 336 = .ok (.bipush 40, 2) := by decide +kernel
theorem dX7_init_338 : decode cX7_init 338 = .ok (.bipush 114, 2) := by decide +kernel
theorem dX7_init_340 : decode cX7_init 340 = .ok (.iastore, 1) := by decide +kernel
theorem dX7_init_341 : decode cX7_init 341 = .ok (.dup, 1) := by decide +kernel
theorem dX7_init_342 : decode cX7_init 342 = .ok (.bipush 41, 2) := by decide +kernel
theorem dX7_init_344 : decode cX7_init 344 = .ok (.bipush 105, 2) := by decide +kernel
theorem dX7_init_346 : decode cX7_init 346 = .ok (.iastore, 1) := by decide +kernel
theorem dX7_init_347 : decode cX7_init 347 = .ok (.dup, 1) := by decide +kernel
theorem dX7_init_348 : decode cX7_init 348 = .ok (.bipush 42, 2) := by decide +kernel
theorem dX7_init_350 : decode cX7_init 350 = .ok (.bipush 103, 2) := by decide +kernel
theorem dX7_init_352 : decode cX7_init 352 = .ok (.iastore, 1) := by decide +kernel
theorem dX7_init_353 : decode cX7_init 353 = .ok (.dup, 1) := by decide +kernel
theorem dX7_init_354 : decode cX7_init 354 = .ok (.bipush 43, 2) := by decide +kernel
theorem dX7_init_356 : decode cX7_init 356 = .ok (.bipush 104, 2) := by decide +kernel
theorem dX7_init_358 : decode cX7_init 358 = .ok (.iastore, 1) := by decide +kernel
theorem dX7_init_359 : decode cX7_init 359 = .ok (.dup, 1) := by decide +kernel
theorem dX7_init_360 : decode cX7_init 360 = .ok (.bipush 44, 2) := by decide +kernel
theorem dX7_init_362 : decode cX7_init 362 = .ok (.bipush 116, 2) := by decide +kernel
theorem dX7_init_364 : decode cX7_init 364 = .ok (.iastore, 1) := by decide +kernel
theorem dX7_init_365 : decode cX7_init 365 = .ok (.putfield 22, 3) := by decide +kernel
theorem dX7_init_368 : decode cX7_init 368 = .ok (.aload_n 0, 1) := by decide +kernel
theorem dX7_init_369 : decode cX7_init 369 = .ok (.bipush 64, 2) := by decide +kernel
theorem dX7_init_371 : decode cX7_init 371 = .ok (.newarray .int, 2) := by decide +kernel
theorem dX7_init_373 : decode cX7_init 373 = .ok (.putfield 25, 3) := by decide +kernel
theorem dX7_init_376 : decode cX7_init 376 = .ok (.aload_n 0, 1) := by decide +kernel
theorem dX7_init_377 : decode cX7_init 377 = .ok (.bipush 8, 2) := by decide +kernel
theorem dX7_init_379 : decode cX7_init 379 = .ok (.newarray .int, 2) := by decide +kernel
theorem dX7_init_381 : decode cX7_init 381 = .ok (.putfield 28, 3) := by decide +kernel
theorem dX7_init_384 : decode cX7_init 384 = .ok (.aload_n 0, 1) := by decide +kernel
theorem dX7_init_385 : decode cX7_init 385 = .ok (.bipush 8, 2) := by decide +kernel
theorem dX7_init_387 : decode cX7_init 387 = .ok (.newarray .int, 2) := by decide +kernel
theorem dX7_init_389 : decode cX7_init 389 = .ok (.putfield 31, 3) := by decide +kernel
theorem dX7_init_392 : decode cX7_init 392 = .ok (.aload_n 0, 1) := by decide +kernel
theorem dX7_init_393 : decode cX7_init 393 = .ok (.bipush 8, 2) := by decide +kernel
theorem dX7_init_395 : decode cX7_init 395 = .ok (.newarray .int, 2) := by decide +kernel
theorem dX7_init_397 : decode cX7_init 397 = .ok (.putfield 34, 3) := by decide +kernel
theorem dX7_init_400 : decode cX7_init 400 = .ok (.aload_n 0, 1) := by decide +kernel
theorem dX7_init_401 : decode cX7_init 401 = .ok (.bipush 18, 2) := by decide +kernel
theorem dX7_init_403 : decode cX7_init 403 = .ok (.newarray .int, 2) := by decide +kernel
theorem dX7_init_405 : decode cX7_init 405 = .ok (.putfield 37, 3) := by decide +kernel
theorem dX7_init_408 : decode cX7_init 408 = .ok (.aload_n 0, 1) := by decide +kernel
theorem dX7_init_409 : decode cX7_init 409 = .ok (.bipush 24, 2) := by decide +kernel
theorem dX7_init_411 : decode cX7_init 411 = .ok (.newarray .int, 2) := by decide +kernel
theorem dX7_init_413 : decode cX7_init 413 = .ok (.putfield 40, 3) := by decide +kernel
theorem dX7_init_416 : decode cX7_init 416 = .ok (.aload_n 0, 1) := by decide +kernel
theorem dX7_init_417 : decode cX7_init 417 = .ok (.iconst 2, 1) := by decide +kernel
theorem dX7_init_418 : decode cX7_init 418 = .ok (.newarray .boolean, 2) := by decide +kernel
theorem dX7_init_420 : decode cX7_init 420 = .ok (.putfield 43, 3) := by decide +kernel
theorem dX7_init_423 : decode cX7_init 423 = .ok (.aload_n 0, 1) := by decide +kernel
theorem dX7_init_424 : decode cX7_init 424 = .ok (.iconst 4, 1) := by decide +kernel
theorem dX7_init_425 : decode cX7_init 425 = .ok (.newarray .int, 2) := by decide +kernel
theorem dX7_init_427 : decode cX7_init 427 = .ok (.dup, 1) := by decide +kernel
theorem dX7_init_428 : decode cX7_init 428 = .ok (.iconst 0, 1) := by decide +kernel
theorem dX7_init_429 : decode cX7_init 429 = .ok (.bipush (-4), 2) := by decide +kernel
theorem dX7_init_431 : decode cX7_init 431 = .ok (.iastore, 1) := by decide +kernel
theorem dX7_init_432 : decode cX7_init 432 = .ok (.dup, 1) := by decide +kernel
theorem dX7_init_433 : decode cX7_init 433 = .ok (.iconst 1, 1) := by decide +kernel
theorem dX7_init_434 : decode cX7_init 434 = .ok (.bipush (-4), 2) := by decide +kernel
theorem dX7_init_436 : decode cX7_init 436 = .ok (.iastore, 1) := by decide +kernel
theorem dX7_init_437 : decode cX7_init 437 = .ok (.dup, 1) := by decide +kernel
theorem dX7_init_438 : decode cX7_init 438 = .ok (.iconst 2, 1) := by decide +kernel
theorem dX7_init_439 : decode cX7_init 439 = .ok (.bipush (-4), 2) := by decide +kernel
theorem dX7_init_441 : decode cX7_init 441 = .ok (.iastore, 1) := by decide +kernel
theorem dX7_init_442 : decode cX7_init 442 = .ok (.dup, 1) := by decide +kernel
theorem dX7_init_443 : decode cX7_init 443 = .ok (.iconst 3, 1) := by decide +kernel
theorem dX7_init_444 : decode cX7_init 444 = .ok (.bipush (-4), 2) := by decide +kernel
theorem dX7_init_446 : decode cX7_init 446 = .ok (.iastore, 1) := by decide +kernel
theorem dX7_init_447 : decode cX7_init 447 = .ok (.putfield 47, 3) := by decide +kernel
theorem dX7_init_450 : decode cX7_init 450 = .ok (.aload_n 0, 1) := by decide +kernel
theorem dX7_init_451 : decode cX7_init 451 = .ok (.iconst 4, 1) := by decide +kernel
theorem dX7_init_452 : decode cX7_init 452 = .ok (.newarray .int, 2) := by decide +kernel
theorem dX7_init_454 : decode cX7_init 454 = .ok (.putfield 50, 3) := by decide +kernel
theorem dX7_init_457 : decode cX7_init 457 = .ok (.aload_n 0, 1) := by decide +kernel
theorem dX7_init_458 : decode cX7_init 458 = .ok (.sipush 160, 3) := by decide +kernel
theorem dX7_init_461 : decode cX7_init 461 = .ok (.newarray .int, 2) := by decide +kernel
theorem dX7_init_463 : decode cX7_init 463 = .ok (.putfield 53, 3) := by decide +kernel
theorem dX7_init_466 : decode cX7_init 466 = .ok (.return_, 1) := by decide +kernel
theorem dX7_in_0 : decode cX7_in 0 = .ok (.lload_n 0, 1) := by decide +kernel
theorem dX7_in_1 : decode cX7_in 1 = .ok (.lload_n 2, 1) := by decide +kernel
theorem dX7_in_2 : decode cX7_in 2 = .ok (.lcmp, 1) := by decide +kernel
theorem dX7_in_3 : decode cX7_in 3 = .ok (.ifCond .lt 14, 3) := by decide +kernel
theorem dX7_in_6 : decode cX7_in 6 = .ok (.lload_n 0, 1) := by decide +kernel
theorem dX7_in_7 : decode cX7_in 7 = .ok (.lload 4, 2) := by decide +kernel
theorem dX7_in_9 : decode cX7_in 9 = .ok (.lcmp, 1) := by decide +kernel
theorem dX7_in_10 : decode cX7_in 10 = .ok (.ifCond .gt 7, 3) := by decide +kernel
theorem dX7_in_13 : decode cX7_in 13 = .ok (.iconst 1, 1) := by decide +kernel
theorem dX7_in_14 : decode cX7_in 14 = .ok (.goto 4, 3) := by decide +kernel
theorem dX7_in_17 : decode cX7_in 17 = .ok (.iconst 0, 1) := by decide +kernel
theorem dX7_in_18 : decode cX7_in 18 = .ok (.ireturn, 1) := by decide +kernel
theorem dX7_feed_0 : decode cX7_feed 0 = .ok (.iload_n 1, 1) := by decide +kernel
theorem dX7_feed_1 : decode cX7_feed 1 = .ok (.i2l, 1) := by decide +kernel
theorem dX7_feed_2 : decode cX7_feed 2 = .ok (.lconst 0, 1) := by decide +kernel
theorem dX7_feed_3 : decode cX7_feed 3 = .ok (.ldc2_w 56, 3) := by decide +kernel
theorem dX7_feed_6 : decode cX7_feed 6 = .ok (.invokestatic 58, 3) := by decide +kernel
theorem dX7_feed_9 : decode cX7_feed 9 = .ok (.ifCond .ne 5, 3) := by decide +kernel
theorem dX7_feed_12 : decode cX7_feed 12 = .ok (.iconst (-1), 1) := by decide +kernel
theorem dX7_feed_13 : decode cX7_feed 13 = .ok (.ireturn, 1) := by decide +kernel
theorem dX7_feed_14 : decode cX7_feed 14 = .ok (.aload_n 0, 1) := by decide +kernel
theorem dX7_feed_15 : decode cX7_feed 15 = .ok (.getfield 62, 3) := by decide +kernel
theorem dX7_feed_18 : decode cX7_feed 18 = .ok (.sipush 160, 3) := by decide +kernel
theorem dX7_feed_21 : decode cX7_feed 21 = .ok (.if_icmp .ne 6, 3) := by decide +kernel
theorem dX7_feed_24 : decode cX7_feed 24 = .ok (.bipush (-3), 2) := by decide +kernel
theorem dX7_feed_26 : decode cX7_feed 26 = .ok (.ireturn, 1) := by decide +kernel
theorem dX7_feed_27 : decode cX7_feed 27 = .ok (.aload_n 0, 1) := by decide +kernel
theorem dX7_feed_28 : decode cX7_feed 28 = .ok (.getfield 16, 3) := by decide +kernel
theorem dX7_feed_31 : decode cX7_feed 31 = .ok (.aload_n 0, 1) := by decide +kernel
theorem dX7_feed_32 : decode cX7_feed 32 = .ok (.getfield 62, 3) := by decide +kernel
theorem dX7_feed_35 : decode cX7_feed 35 = .ok (.iload_n 1, 1) := by decide +kernel
theorem dX7_feed_36 : decode cX7_feed 36 = .ok (.iastore, 1) := by decide +kernel
theorem dX7_feed_37 : decode cX7_feed 37 = .ok (.aload_n 0, 1) := by decide +kernel
theorem dX7_feed_38 : decode cX7_feed 38 = .ok (.dup, 1) := by decide +kernel
theorem dX7_feed_39 : decode cX7_feed 39 = .ok (.getfield 62, 3) := by decide +kernel
theorem dX7_feed_42 : decode cX7_feed 42 = .ok (.iconst 1, 1) := by decide +kernel
theorem dX7_feed_43 : decode cX7_feed 43 = .ok (.iadd, 1) := by decide +kernel
theorem dX7_feed_44 : decode cX7_feed 44 = .ok (.putfield 62, 3) := by decide +kernel
theorem dX7_feed_47 : decode cX7_feed 47 = .ok (.aload_n 0, 1) := by decide +kernel
theorem dX7_feed_48 : decode cX7_feed 48 = .ok (.getfield 62, 3) := by decide +kernel
theorem dX7_feed_51 : decode cX7_feed 51 = .ok (.ireturn, 1) := by decide +kernel
theorem dX7_end_0 : decode cX7_end 0 = .ok (.iload_n 1, 1) := by decide +kernel
theorem dX7_end_1 : decode cX7_end 1 = .ok (.i2l, 1) := by decide +kernel
theorem dX7_end_2 : decode cX7_end 2 = .ok (.lconst 0, 1) := by decide +kernel
theorem dX7_end_3 : decode cX7_end 3 = .ok (.aload_n 0, 1) := by decide +kernel
theorem dX7_end_4 : decode cX7_end 4 = .ok (.getfield 62, 3) := by decide +kernel
theorem dX7_end_7 : decode cX7_end 7 = .ok (.i2l, 1) := by decide +kernel
theorem dX7_end_8 : decode cX7_end 8 = .ok (.invokestatic 58, 3) := by decide +kernel
theorem dX7_end_11 : decode cX7_end 11 = .ok (.ifCond .ne 5, 3) := by decide +kernel
theorem dX7_end_14 : decode cX7_end 14 = .ok (.iconst (-1), 1) := by decide +kernel
theorem dX7_end_15 : decode cX7_end 15 = .ok (.ireturn, 1) := by decide +kernel
theorem dX7_end_16 : decode cX7_end 16 = .ok (.aload_n 0, 1) := by decide +kernel
theorem dX7_end_17 : decode cX7_end 17 = .ok (.getfield 62, 3) := by decide +kernel
theorem dX7_end_20 : decode cX7_end 20 = .ok (.istore_n 2, 1) := by decide +kernel
theorem dX7_end_21 : decode cX7_end 21 = .ok (.aload_n 0, 1) := by decide +kernel
theorem dX7_end_22 : decode cX7_end 22 = .ok (.iload_n 1, 1) := by decide +kernel
theorem dX7_end_23 : decode cX7_end 23 = .ok (.putfield 62, 3) := by decide +kernel
theorem dX7_end_26 : decode cX7_end 26 = .ok (.iload_n 2, 1) := by decide +kernel
theorem dX7_end_27 : decode cX7_end 27 = .ok (.ireturn, 1) := by decide +kernel
theorem dX7_byteAt_0 : decode cX7_byteAt 0 = .ok (.iload_n 1, 1) := by decide +kernel
theorem dX7_byteAt_1 : decode cX7_byteAt 1 = .ok (.aload_n 0, 1) := by decide +kernel
theorem dX7_byteAt_2 : decode cX7_byteAt 2 = .ok (.getfield 62, 3) := by decide +kernel
theorem dX7_byteAt_5 : decode cX7_byteAt 5 = .ok (.if_icmp .ge 12, 3) := by decide +kernel
theorem dX7_byteAt_8 : decode cX7_byteAt 8 = .ok (.aload_n 0, 1) := by decide +kernel
theorem dX7_byteAt_9 : decode cX7_byteAt 9 = .ok (.getfield 16, 3) := by decide +kernel
theorem dX7_byteAt_12 : decode cX7_byteAt 12 = .ok (.iload_n 1, 1) := by decide +kernel
theorem dX7_byteAt_13 : decode cX7_byteAt 13 = .ok (.iaload, 1) := by decide +kernel
theorem dX7_byteAt_14 : decode cX7_byteAt 14 = .ok (.goto 5, 3) := by decide +kernel
theorem dX7_byteAt_17 : decode cX7_byteAt 17 = .ok (.bipush (-4), 2) := by decide +kernel
theorem dX7_byteAt_19 : decode cX7_byteAt 19 = .ok (.ireturn, 1) := by decide +kernel
theorem dX7_fails_0 : decode cX7_fails 0 = .ok (.aload_n 0, 1) := by decide +kernel
theorem dX7_fails_1 : decode cX7_fails 1 = .ok (.getfield 66, 3) := by decide +kernel
theorem dX7_fails_4 : decode cX7_fails 4 = .ok (.ifCond .ne 16, 3) := by decide +kernel
theorem dX7_fails_7 : decode cX7_fails 7 = .ok (.aload_n 0, 1) := by decide +kernel
theorem dX7_fails_8 : decode cX7_fails 8 = .ok (.iload_n 1, 1) := by decide +kernel
theorem dX7_fails_9 : decode cX7_fails 9 = .ok (.putfield 66, 3) := by decide +kernel
theorem dX7_fails_12 : decode cX7_fails 12 = .ok (.aload_n 0, 1) := by decide +kernel
theorem dX7_fails_13 : decode cX7_fails 13 = .ok (.aload_n 0, 1) := by decide +kernel
theorem dX7_fails_14 : decode cX7_fails 14 = .ok (.getfield 69, 3) := by decide +kernel
theorem dX7_fails_17 : decode cX7_fails 17 = .ok (.putfield 72, 3) := by decide +kernel
theorem dX7_fails_20 : decode cX7_fails 20 = .ok (.return_, 1) := by decide +kernel
theorem dX7_nameHere_0 : decode cX7_nameHere 0 = .ok (.iconst 0, 1) := by decide +kernel
theorem dX7_nameHere_1 : decode cX7_nameHere 1 = .ok (.istore_n 1, 1) := by decide +kernel
theorem dX7_nameHere_2 : decode cX7_nameHere 2 = .ok (.iload_n 1, 1) := by decide +kernel
theorem dX7_nameHere_3 : decode cX7_nameHere 3 = .ok (.bipush 10, 2) := by decide +kernel
theorem dX7_nameHere_5 : decode cX7_nameHere 5 = .ok (.if_icmp .ge 113, 3) := by decide +kernel
theorem dX7_nameHere_8 : decode cX7_nameHere 8 = .ok (.aload_n 0, 1) := by decide +kernel
theorem dX7_nameHere_9 : decode cX7_nameHere 9 = .ok (.getfield 75, 3) := by decide +kernel
theorem dX7_nameHere_12 : decode cX7_nameHere 12 = .ok (.iconst 1, 1) := by decide +kernel
theorem dX7_nameHere_13 : decode cX7_nameHere 13 = .ok (.if_icmp .ne 105, 3) := by decide +kernel
theorem dX7_nameHere_16 : decode cX7_nameHere 16 = .ok (.aload_n 0, 1) := by decide +kernel
theorem dX7_nameHere_17 : decode cX7_nameHere 17 = .ok (.getfield 78, 3) := by decide +kernel
theorem dX7_nameHere_20 : decode cX7_nameHere 20 = .ok (.aload_n 0, 1) := by decide +kernel
theorem dX7_nameHere_21 : decode cX7_nameHere 21 = .ok (.getfield 69, 3) := by decide +kernel
theorem dX7_nameHere_24 : decode cX7_nameHere 24 = .ok (.isub, 1) := by decide +kernel
theorem dX7_nameHere_25 : decode cX7_nameHere 25 = .ok (.aload_n 0, 1) := by decide +kernel
theorem dX7_nameHere_26 : decode cX7_nameHere 26 = .ok (.getfield 19, 3) := by decide +kernel
theorem dX7_nameHere_29 : decode cX7_nameHere 29 = .ok (.iload_n 1, 1) := by decide +kernel
theorem dX7_nameHere_30 : decode cX7_nameHere 30 = .ok (.iconst 1, 1) := by decide +kernel
theorem dX7_nameHere_31 : decode cX7_nameHere 31 = .ok (.iadd, 1) := by decide +kernel
theorem dX7_nameHere_32 : decode cX7_nameHere 32 = .ok (.iaload, 1) := by decide +kernel
theorem dX7_nameHere_33 : decode cX7_nameHere 33 = .ok (.aload_n 0, 1) := by decide +kernel
theorem dX7_nameHere_34 : decode cX7_nameHere 34 = .ok (.getfield 19, 3) := by decide +kernel
theorem dX7_nameHere_37 : decode cX7_nameHere 37 = .ok (.iload_n 1, 1) := by decide +kernel
theorem dX7_nameHere_38 : decode cX7_nameHere 38 = .ok (.iaload, 1) := by decide +kernel
theorem dX7_nameHere_39 : decode cX7_nameHere 39 = .ok (.isub, 1) := by decide +kernel
theorem dX7_nameHere_40 : decode cX7_nameHere 40 = .ok (.if_icmp .ne 7, 3) := by decide +kernel
theorem dX7_nameHere_43 : decode cX7_nameHere 43 = .ok (.iconst 1, 1) := by decide +kernel
theorem dX7_nameHere_44 : decode cX7_nameHere 44 = .ok (.goto 4, 3) := by decide +kernel
theorem dX7_nameHere_47 : decode cX7_nameHere 47 = .ok (.iconst 0, 1) := by decide +kernel
theorem dX7_nameHere_48 : decode cX7_nameHere 48 = .ok (.istore_n 2, 1) := by decide +kernel
theorem dX7_nameHere_49 : decode cX7_nameHere 49 = .ok (.iconst 0, 1) := by decide +kernel
theorem dX7_nameHere_50 : decode cX7_nameHere 50 = .ok (.istore_n 3, 1) := by decide +kernel
theorem dX7_nameHere_51 : decode cX7_nameHere 51 = .ok (.iload_n 2, 1) := by decide +kernel
theorem dX7_nameHere_52 : decode cX7_nameHere 52 = .ok (.ifCond .eq 54, 3) := by decide +kernel
theorem dX7_nameHere_55 : decode cX7_nameHere 55 = .ok (.iload_n 3, 1) := by decide +kernel
theorem dX7_nameHere_56 : decode cX7_nameHere 56 = .ok (.aload_n 0, 1) := by decide +kernel
theorem dX7_nameHere_57 : decode cX7_nameHere 57 = .ok (.getfield 78, 3) := by decide +kernel
theorem dX7_nameHere_60 : decode cX7_nameHere 60 = .ok (.aload_n 0, 1) := by decide +kernel
theorem dX7_nameHere_61 : decode cX7_nameHere 61 = .ok (.getfield 69, 3) := by decide +kernel
theorem dX7_nameHere_64 : decode cX7_nameHere 64 = .ok (.isub, 1) := by decide +kernel
theorem dX7_nameHere_65 : decode cX7_nameHere 65 = .ok (.if_icmp .ge 41, 3) := by decide +kernel
theorem dX7_nameHere_68 : decode cX7_nameHere 68 = .ok (.aload_n 0, 1) := by decide +kernel
theorem dX7_nameHere_69 : decode cX7_nameHere 69 = .ok (.aload_n 0, 1) := by decide +kernel
theorem dX7_nameHere_70 : decode cX7_nameHere 70 = .ok (.getfield 69, 3) := by decide +kernel
theorem dX7_nameHere_73 : decode cX7_nameHere 73 = .ok (.iload_n 3, 1) := by decide +kernel
theorem dX7_nameHere_74 : decode cX7_nameHere 74 = .ok (.iadd, 1) := by decide +kernel
theorem dX7_nameHere_75 : decode cX7_nameHere 75 = .ok (.invokevirtual 81, 3) := by decide +kernel
theorem dX7_nameHere_78 : decode cX7_nameHere 78 = .ok (.aload_n 0, 1) := by decide +kernel
theorem dX7_nameHere_79 : decode cX7_nameHere 79 = .ok (.getfield 22, 3) := by decide +kernel
theorem dX7_nameHere_82 : decode cX7_nameHere 82 = .ok (.aload_n 0, 1) := by decide +kernel
theorem dX7_nameHere_83 : decode cX7_nameHere 83 = .ok (.getfield 19, 3) := by decide +kernel
theorem dX7_nameHere_86 : decode cX7_nameHere 86 = .ok (.iload_n 1, 1) := by decide +kernel
theorem dX7_nameHere_87 : decode cX7_nameHere 87 = .ok (.iaload, 1) := by decide +kernel
theorem dX7_nameHere_88 : decode cX7_nameHere 88 = .ok (.iload_n 3, 1) := by decide +kernel
theorem dX7_nameHere_89 : decode cX7_nameHere 89 = .ok (.iadd, 1) := by decide +kernel
theorem dX7_nameHere_90 : decode cX7_nameHere 90 = .ok (.iaload, 1) := by decide +kernel
theorem dX7_nameHere_91 : decode cX7_nameHere 91 = .ok (.if_icmp .ne 7, 3) := by decide +kernel
theorem dX7_nameHere_94 : decode cX7_nameHere 94 = .ok (.iconst 1, 1) := by decide +kernel
theorem dX7_nameHere_95 : decode cX7_nameHere 95 = .ok (.goto 4, 3) := by decide +kernel
theorem dX7_nameHere_98 : decode cX7_nameHere 98 = .ok (.iconst 0, 1) := by decide +kernel
theorem dX7_nameHere_99 : decode cX7_nameHere 99 = .ok (.istore_n 2, 1) := by decide +kernel
theorem dX7_nameHere_100 : decode cX7_nameHere 100 = .ok (.iinc 3 1, 3) := by decide +kernel
theorem dX7_nameHere_103 : decode cX7_nameHere 103 = .ok (.goto (-52), 3) := by decide +kernel
theorem dX7_nameHere_106 : decode cX7_nameHere 106 = .ok (.iload_n 2, 1) := by decide +kernel
theorem dX7_nameHere_107 : decode cX7_nameHere 107 = .ok (.ifCond .eq 5, 3) := by decide +kernel
theorem dX7_nameHere_110 : decode cX7_nameHere 110 = .ok (.iload_n 1, 1) := by decide +kernel
theorem dX7_nameHere_111 : decode cX7_nameHere 111 = .ok (.ireturn, 1) := by decide +kernel
theorem dX7_nameHere_112 : decode cX7_nameHere 112 = .ok (.iinc 1 1, 3) := by decide +kernel
theorem dX7_nameHere_115 : decode cX7_nameHere 115 = .ok (.goto (-113), 3) := by decide +kernel
theorem dX7_nameHere_118 : decode cX7_nameHere 118 = .ok (.bipush (-4), 2) := by decide +kernel
theorem dX7_nameHere_120 : decode cX7_nameHere 120 = .ok (.ireturn, 1) := by decide +kernel
theorem dX7_step_0 : decode cX7_step 0 = .ok (.aload_n 0, 1) := by decide +kernel
theorem dX7_step_1 : decode cX7_step 1 = .ok (.getfield 66, 3) := by decide +kernel
theorem dX7_step_4 : decode cX7_step 4 = .ok (.ifCond .le 4, 3) := by decide +kernel
theorem dX7_step_7 : decode cX7_step 7 = .ok (.return_, 1) := by decide +kernel
theorem dX7_step_8 : decode cX7_step 8 = .ok (.aload_n 0, 1) := by decide +kernel
theorem dX7_step_9 : decode cX7_step 9 = .ok (.aload_n 0, 1) := by decide +kernel
theorem dX7_step_10 : decode cX7_step 10 = .ok (.getfield 78, 3) := by decide +kernel
theorem dX7_step_13 : decode cX7_step 13 = .ok (.invokevirtual 81, 3) := by decide +kernel
theorem dX7_step_16 : decode cX7_step 16 = .ok (.bipush 32, 2) := by decide +kernel
theorem dX7_step_18 : decode cX7_step 18 = .ok (.if_icmp .ne 16, 3) := by decide +kernel
theorem dX7_step_21 : decode cX7_step 21 = .ok (.aload_n 0, 1) := by decide +kernel
theorem dX7_step_22 : decode cX7_step 22 = .ok (.dup, 1) := by decide +kernel
theorem dX7_step_23 : decode cX7_step 23 = .ok (.getfield 78, 3) := by decide +kernel
theorem dX7_step_26 : decode cX7_step 26 = .ok (.iconst 1, 1) := by decide +kernel
theorem dX7_step_27 : decode cX7_step 27 = .ok (.iadd, 1) := by decide +kernel
theorem dX7_step_28 : decode cX7_step 28 = .ok (.putfield 78, 3) := by decide +kernel
theorem dX7_step_31 : decode cX7_step 31 = .ok (.goto (-23), 3) := by decide +kernel
theorem dX7_step_34 : decode cX7_step 34 = .ok (.aload_n 0, 1) := by decide +kernel
theorem dX7_step_35 : decode cX7_step 35 = .ok (.aload_n 0, 1) := by decide +kernel
theorem dX7_step_36 : decode cX7_step 36 = .ok (.getfield 78, 3) := by decide +kernel
theorem dX7_step_39 : decode cX7_step 39 = .ok (.putfield 69, 3) := by decide +kernel
theorem dX7_step_42 : decode cX7_step 42 = .ok (.aload_n 0, 1) := by decide +kernel
theorem dX7_step_43 : decode cX7_step 43 = .ok (.aload_n 0, 1) := by decide +kernel
theorem dX7_step_44 : decode cX7_step 44 = .ok (.getfield 78, 3) := by decide +kernel
theorem dX7_step_47 : decode cX7_step 47 = .ok (.invokevirtual 81, 3) := by decide +kernel
theorem dX7_step_50 : decode cX7_step 50 = .ok (.istore_n 1, 1) := by decide +kernel
theorem dX7_step_51 : decode cX7_step 51 = .ok (.aload_n 0, 1) := by decide +kernel
theorem dX7_step_52 : decode cX7_step 52 = .ok (.iconst 0, 1) := by decide +kernel
theorem dX7_step_53 : decode cX7_step 53 = .ok (.putfield 85, 3) := by decide +kernel
theorem dX7_step_56 : decode cX7_step 56 = .ok (.iload_n 1, 1) := by decide +kernel
theorem dX7_step_57 : decode cX7_step 57 = .ok (.bipush (-4), 2) := by decide +kernel
theorem dX7_step_59 : decode cX7_step 59 = .ok (.if_icmp .ne 11, 3) := by decide +kernel
theorem dX7_step_62 : decode cX7_step 62 = .ok (.aload_n 0, 1) := by decide +kernel
theorem dX7_step_63 : decode cX7_step 63 = .ok (.iconst 0, 1) := by decide +kernel
theorem dX7_step_64 : decode cX7_step 64 = .ok (.putfield 75, 3) := by decide +kernel
theorem dX7_step_67 : decode cX7_step 67 = .ok (.goto 202, 3) := by decide +kernel
theorem dX7_step_70 : decode cX7_step 70 = .ok (.iload_n 1, 1) := by decide +kernel
theorem dX7_step_71 : decode cX7_step 71 = .ok (.i2l, 1) := by decide +kernel
theorem dX7_step_72 : decode cX7_step 72 = .ok (.ldc2_w 88, 3) := by decide +kernel
theorem dX7_step_75 : decode cX7_step 75 = .ok (.ldc2_w 90, 3) := by decide +kernel
theorem dX7_step_78 : decode cX7_step 78 = .ok (.invokestatic 58, 3) := by decide +kernel
theorem dX7_step_81 : decode cX7_step 81 = .ok (.ifCond .eq 45, 3) := by decide +kernel
theorem dX7_step_84 : decode cX7_step 84 = .ok (.aload_n 0, 1) := by decide +kernel
theorem dX7_step_85 : decode cX7_step 85 = .ok (.aload_n 0, 1) := by decide +kernel
theorem dX7_step_86 : decode cX7_step 86 = .ok (.getfield 78, 3) := by decide +kernel
theorem dX7_step_89 : decode cX7_step 89 = .ok (.invokevirtual 81, 3) := by decide +kernel
theorem dX7_step_92 : decode cX7_step 92 = .ok (.i2l, 1) := by decide +kernel
theorem dX7_step_93 : decode cX7_step 93 = .ok (.ldc2_w 88, 3) := by decide +kernel
theorem dX7_step_96 : decode cX7_step 96 = .ok (.ldc2_w 90, 3) := by decide +kernel
theorem dX7_step_99 : decode cX7_step 99 = .ok (.invokestatic 58, 3) := by decide +kernel
theorem dX7_step_102 : decode cX7_step 102 = .ok (.ifCond .eq 16, 3) := by decide +kernel
theorem dX7_step_105 : decode cX7_step 105 = .ok (.aload_n 0, 1) := by decide +kernel
theorem dX7_step_106 : decode cX7_step 106 = .ok (.dup, 1) := by decide +kernel
theorem dX7_step_107 : decode cX7_step 107 = .ok (.getfield 78, 3) := by decide +kernel
theorem dX7_step_110 : decode cX7_step 110 = .ok (.iconst 1, 1) := by decide +kernel
theorem dX7_step_111 : decode cX7_step 111 = .ok (.iadd, 1) := by decide +kernel
theorem dX7_step_112 : decode cX7_step 112 = .ok (.putfield 78, 3) := by decide +kernel
theorem dX7_step_115 : decode cX7_step 115 = .ok (.goto (-31), 3) := by decide +kernel
theorem dX7_step_118 : decode cX7_step 118 = .ok (.aload_n 0, 1) := by decide +kernel
theorem dX7_step_119 : decode cX7_step 119 = .ok (.iconst 1, 1) := by decide +kernel
theorem dX7_step_120 : decode cX7_step 120 = .ok (.putfield 75, 3) := by decide +kernel
theorem dX7_step_123 : decode cX7_step 123 = .ok (.goto 146, 3) := by decide +kernel
theorem dX7_step_126 : decode cX7_step 126 = .ok (.iload_n 1, 1) := by decide +kernel
theorem dX7_step_127 : decode cX7_step 127 = .ok (.i2l, 1) := by decide +kernel
theorem dX7_step_128 : decode cX7_step 128 = .ok (.ldc2_w 92, 3) := by decide +kernel
theorem dX7_step_131 : decode cX7_step 131 = .ok (.ldc2_w 94, 3) := by decide +kernel
theorem dX7_step_134 : decode cX7_step 134 = .ok (.invokestatic 58, 3) := by decide +kernel
theorem dX7_step_137 : decode cX7_step 137 = .ok (.ifCond .eq 106, 3) := by decide +kernel
theorem dX7_step_140 : decode cX7_step 140 = .ok (.aload_n 0, 1) := by decide +kernel
theorem dX7_step_141 : decode cX7_step 141 = .ok (.aload_n 0, 1) := by decide +kernel
theorem dX7_step_142 : decode cX7_step 142 = .ok (.getfield 78, 3) := by decide +kernel
theorem dX7_step_145 : decode cX7_step 145 = .ok (.invokevirtual 81, 3) := by decide +kernel
theorem dX7_step_148 : decode cX7_step 148 = .ok (.i2l, 1) := by decide +kernel
theorem dX7_step_149 : decode cX7_step 149 = .ok (.ldc2_w 92, 3) := by decide +kernel
theorem dX7_step_152 : decode cX7_step 152 = .ok (.ldc2_w 94, 3) := by decide +kernel
theorem dX7_step_155 : decode cX7_step 155 = .ok (.invokestatic 58, 3) := by decide +kernel
theorem dX7_step_158 : decode cX7_step 158 = .ok (.ifCond .eq 59, 3) := by decide +kernel
theorem dX7_step_161 : decode cX7_step 161 = .ok (.aload_n 0, 1) := by decide +kernel
theorem dX7_step_162 : decode cX7_step 162 = .ok (.aload_n 0, 1) := by decide +kernel
theorem dX7_step_163 : decode cX7_step 163 = .ok (.getfield 78, 3) := by decide +kernel
theorem dX7_step_166 : decode cX7_step 166 = .ok (.aload_n 0, 1) := by decide +kernel
theorem dX7_step_167 : decode cX7_step 167 = .ok (.getfield 69, 3) := by decide +kernel
theorem dX7_step_170 : decode cX7_step 170 = .ok (.isub, 1) := by decide +kernel
theorem dX7_step_171 : decode cX7_step 171 = .ok (.iconst 2, 1) := by decide +kernel
theorem dX7_step_172 : decode cX7_step 172 = .ok (.if_icmp .ge 25, 3) := by decide +kernel
theorem dX7_step_175 : decode cX7_step 175 = .ok (.bipush 10, 2) := by decide +kernel
theorem dX7_step_177 : decode cX7_step 177 = .ok (.aload_n 0, 1) := by decide +kernel
theorem dX7_step_178 : decode cX7_step 178 = .ok (.getfield 85, 3) := by decide +kernel
theorem dX7_step_181 : decode cX7_step 181 = .ok (.imul, 1) := by decide +kernel
theorem dX7_step_182 : decode cX7_step 182 = .ok (.aload_n 0, 1) := by decide +kernel
theorem dX7_step_183 : decode cX7_step 183 = .ok (.aload_n 0, 1) := by decide +kernel
theorem dX7_step_184 : decode cX7_step 184 = .ok (.getfield 78, 3) := by decide +kernel
theorem dX7_step_187 : decode cX7_step 187 = .ok (.invokevirtual 81, 3) := by decide +kernel
theorem dX7_step_190 : decode cX7_step 190 = .ok (.iadd, 1) := by decide +kernel
theorem dX7_step_191 : decode cX7_step 191 = .ok (.bipush 48, 2) := by decide +kernel
theorem dX7_step_193 : decode cX7_step 193 = .ok (.isub, 1) := by decide +kernel
theorem dX7_step_194 : decode cX7_step 194 = .ok (.goto 7, 3) := by decide +kernel
theorem dX7_step_197 : decode cX7_step 197 = .ok (.aload_n 0, 1) := by decide +kernel
theorem dX7_step_198 : decode cX7_step 198 = .ok (.getfield 85, 3) := by decide +kernel
theorem dX7_step_201 : decode cX7_step 201 = .ok (.putfield 85, 3) := by decide +kernel
theorem dX7_step_204 : decode cX7_step 204 = .ok (.aload_n 0, 1) := by decide +kernel
theorem dX7_step_205 : decode cX7_step 205 = .ok (.dup, 1) := by decide +kernel
theorem dX7_step_206 : decode cX7_step 206 = .ok (.getfield 78, 3) := by decide +kernel
theorem dX7_step_209 : decode cX7_step 209 = .ok (.iconst 1, 1) := by decide +kernel
theorem dX7_step_210 : decode cX7_step 210 = .ok (.iadd, 1) := by decide +kernel
theorem dX7_step_211 : decode cX7_step 211 = .ok (.putfield 78, 3) := by decide +kernel
theorem dX7_step_214 : decode cX7_step 214 = .ok (.goto (-74), 3) := by decide +kernel
theorem dX7_step_217 : decode cX7_step 217 = .ok (.aload_n 0, 1) := by decide +kernel
theorem dX7_step_218 : decode cX7_step 218 = .ok (.iconst 2, 1) := by decide +kernel
theorem dX7_step_219 : decode cX7_step 219 = .ok (.putfield 75, 3) := by decide +kernel
theorem dX7_step_222 : decode cX7_step 222 = .ok (.aload_n 0, 1) := by decide +kernel
theorem dX7_step_223 : decode cX7_step 223 = .ok (.getfield 78, 3) := by decide +kernel
theorem dX7_step_226 : decode cX7_step 226 = .ok (.aload_n 0, 1) := by decide +kernel
theorem dX7_step_227 : decode cX7_step 227 = .ok (.getfield 69, 3) := by decide +kernel
theorem dX7_step_230 : decode cX7_step 230 = .ok (.isub, 1) := by decide +kernel
theorem dX7_step_231 : decode cX7_step 231 = .ok (.iconst 2, 1) := by decide +kernel
theorem dX7_step_232 : decode cX7_step 232 = .ok (.if_icmp .le 37, 3) := by decide +kernel
theorem dX7_step_235 : decode cX7_step 235 = .ok (.aload_n 0, 1) := by decide +kernel
theorem dX7_step_236 : decode cX7_step 236 = .ok (.iconst 1, 1) := by decide +kernel
theorem dX7_step_237 : decode cX7_step 237 = .ok (.invokevirtual 96, 3) := by decide +kernel
theorem dX7_step_240 : decode cX7_step 240 = .ok (.goto 29, 3) := by decide +kernel
theorem dX7_step_243 : decode cX7_step 243 = .ok (.aload_n 0, 1) := by decide +kernel
theorem dX7_step_244 : decode cX7_step 244 = .ok (.iconst 3, 1) := by decide +kernel
theorem dX7_step_245 : decode cX7_step 245 = .ok (.putfield 75, 3) := by decide +kernel
theorem dX7_step_248 : decode cX7_step 248 = .ok (.aload_n 0, 1) := by decide +kernel
theorem dX7_step_249 : decode cX7_step 249 = .ok (.dup, 1) := by decide +kernel
theorem dX7_step_250 : decode cX7_step 250 = .ok (.getfield 78, 3) := by decide +kernel
theorem dX7_step_253 : decode cX7_step 253 = .ok (.iconst 1, 1) := by decide +kernel
theorem dX7_step_254 : decode cX7_step 254 = .ok (.iadd, 1) := by decide +kernel
theorem dX7_step_255 : decode cX7_step 255 = .ok (.putfield 78, 3) := by decide +kernel
theorem dX7_step_258 : decode cX7_step 258 = .ok (.iload_n 1, 1) := by decide +kernel
theorem dX7_step_259 : decode cX7_step 259 = .ok (.bipush 59, 2) := by decide +kernel
theorem dX7_step_261 : decode cX7_step 261 = .ok (.if_icmp .eq 8, 3) := by decide +kernel
theorem dX7_step_264 : decode cX7_step 264 = .ok (.aload_n 0, 1) := by decide +kernel
theorem dX7_step_265 : decode cX7_step 265 = .ok (.iconst 1, 1) := by decide +kernel
theorem dX7_step_266 : decode cX7_step 266 = .ok (.invokevirtual 96, 3) := by decide +kernel
theorem dX7_step_269 : decode cX7_step 269 = .ok (.return_, 1) := by decide +kernel
theorem dX7_other_0 : decode cX7_other 0 = .ok (.aload_n 0, 1) := by decide +kernel
theorem dX7_other_1 : decode cX7_other 1 = .ok (.getfield 66, 3) := by decide +kernel
theorem dX7_other_4 : decode cX7_other 4 = .ok (.ifCond .ne 16, 3) := by decide +kernel
theorem dX7_other_7 : decode cX7_other 7 = .ok (.aload_n 0, 1) := by decide +kernel
theorem dX7_other_8 : decode cX7_other 8 = .ok (.getfield 75, 3) := by decide +kernel
theorem dX7_other_11 : decode cX7_other 11 = .ok (.iconst 2, 1) := by decide +kernel
theorem dX7_other_12 : decode cX7_other 12 = .ok (.if_icmp .eq 8, 3) := by decide +kernel
theorem dX7_other_15 : decode cX7_other 15 = .ok (.aload_n 0, 1) := by decide +kernel
theorem dX7_other_16 : decode cX7_other 16 = .ok (.iconst 2, 1) := by decide +kernel
theorem dX7_other_17 : decode cX7_other 17 = .ok (.invokevirtual 96, 3) := by decide +kernel
theorem dX7_other_20 : decode cX7_other 20 = .ok (.aload_n 0, 1) := by decide +kernel
theorem dX7_other_21 : decode cX7_other 21 = .ok (.getfield 66, 3) := by decide +kernel
theorem dX7_other_24 : decode cX7_other 24 = .ok (.ifCond .ne 23, 3) := by decide +kernel
theorem dX7_other_27 : decode cX7_other 27 = .ok (.aload_n 0, 1) := by decide +kernel
theorem dX7_other_28 : decode cX7_other 28 = .ok (.getfield 85, 3) := by decide +kernel
theorem dX7_other_31 : decode cX7_other 31 = .ok (.i2l, 1) := by decide +kernel
theorem dX7_other_32 : decode cX7_other 32 = .ok (.iload_n 1, 1) := by decide +kernel
theorem dX7_other_33 : decode cX7_other 33 = .ok (.i2l, 1) := by decide +kernel
theorem dX7_other_34 : decode cX7_other 34 = .ok (.iload_n 2, 1) := by decide +kernel
theorem dX7_other_35 : decode cX7_other 35 = .ok (.i2l, 1) := by decide +kernel
theorem dX7_other_36 : decode cX7_other 36 = .ok (.invokestatic 58, 3) := by decide +kernel
theorem dX7_other_39 : decode cX7_other 39 = .ok (.ifCond .ne 8, 3) := by decide +kernel
theorem dX7_other_42 : decode cX7_other 42 = .ok (.aload_n 0, 1) := by decide +kernel
theorem dX7_other_43 : decode cX7_other 43 = .ok (.iconst 3, 1) := by decide +kernel
theorem dX7_other_44 : decode cX7_other 44 = .ok (.invokevirtual 96, 3) := by decide +kernel
theorem dX7_other_47 : decode cX7_other 47 = .ok (.aload_n 0, 1) := by decide +kernel
theorem dX7_other_48 : decode cX7_other 48 = .ok (.getfield 66, 3) := by decide +kernel
theorem dX7_other_51 : decode cX7_other 51 = .ok (.ifCond .ne 20, 3) := by decide +kernel
theorem dX7_other_54 : decode cX7_other 54 = .ok (.iload_n 3, 1) := by decide +kernel
theorem dX7_other_55 : decode cX7_other 55 = .ok (.aload_n 0, 1) := by decide +kernel
theorem dX7_other_56 : decode cX7_other 56 = .ok (.getfield 85, 3) := by decide +kernel
theorem dX7_other_59 : decode cX7_other 59 = .ok (.ishr, 1) := by decide +kernel
theorem dX7_other_60 : decode cX7_other 60 = .ok (.iconst 1, 1) := by decide +kernel
theorem dX7_other_61 : decode cX7_other 61 = .ok (.iand, 1) := by decide +kernel
theorem dX7_other_62 : decode cX7_other 62 = .ok (.iconst 1, 1) := by decide +kernel
theorem dX7_other_63 : decode cX7_other 63 = .ok (.if_icmp .ne 8, 3) := by decide +kernel
theorem dX7_other_66 : decode cX7_other 66 = .ok (.aload_n 0, 1) := by decide +kernel
theorem dX7_other_67 : decode cX7_other 67 = .ok (.iconst 4, 1) := by decide +kernel
theorem dX7_other_68 : decode cX7_other 68 = .ok (.invokevirtual 96, 3) := by decide +kernel
theorem dX7_other_71 : decode cX7_other 71 = .ok (.aload_n 0, 1) := by decide +kernel
theorem dX7_other_72 : decode cX7_other 72 = .ok (.getfield 66, 3) := by decide +kernel
theorem dX7_other_75 : decode cX7_other 75 = .ok (.ifCond .ne 10, 3) := by decide +kernel
theorem dX7_other_78 : decode cX7_other 78 = .ok (.aload_n 0, 1) := by decide +kernel
theorem dX7_other_79 : decode cX7_other 79 = .ok (.getfield 85, 3) := by decide +kernel
theorem dX7_other_82 : decode cX7_other 82 = .ok (.goto 4, 3) := by decide +kernel
theorem dX7_other_85 : decode cX7_other 85 = .ok (.iload_n 1, 1) := by decide +kernel
theorem dX7_other_86 : decode cX7_other 86 = .ok (.istore 4, 2) := by decide +kernel
theorem dX7_other_88 : decode cX7_other 88 = .ok (.aload_n 0, 1) := by decide +kernel
theorem dX7_other_89 : decode cX7_other 89 = .ok (.invokevirtual 100, 3) := by decide +kernel
theorem dX7_other_92 : decode cX7_other 92 = .ok (.iload 4, 2) := by decide +kernel
theorem dX7_other_94 : decode cX7_other 94 = .ok (.ireturn, 1) := by decide +kernel
theorem dX7_handHere_0 : decode cX7_handHere 0 = .ok (.aload_n 0, 1) := by decide +kernel
theorem dX7_handHere_1 : decode cX7_handHere 1 = .ok (.iload_n 1, 1) := by decide +kernel
theorem dX7_handHere_2 : decode cX7_handHere 2 = .ok (.iload_n 2, 1) := by decide +kernel
theorem dX7_handHere_3 : decode cX7_handHere 3 = .ok (.iload_n 3, 1) := by decide +kernel
theorem dX7_handHere_4 : decode cX7_handHere 4 = .ok (.invokevirtual 103, 3) := by decide +kernel
theorem dX7_handHere_7 : decode cX7_handHere 7 = .ok (.istore 4, 2) := by decide +kernel
theorem dX7_handHere_9 : decode cX7_handHere 9 = .ok (.aload_n 0, 1) := by decide +kernel
theorem dX7_handHere_10 : decode cX7_handHere 10 = .ok (.dup, 1) := by decide +kernel
theorem dX7_handHere_11 : decode cX7_handHere 11 = .ok (.getfield 107, 3) := by decide +kernel
theorem dX7_handHere_14 : decode cX7_handHere 14 = .ok (.iconst 1, 1) := by decide +kernel
theorem dX7_handHere_15 : decode cX7_handHere 15 = .ok (.iload 4, 2) := by decide +kernel
theorem dX7_handHere_17 : decode cX7_handHere 17 = .ok (.ishl, 1) := by decide +kernel
theorem dX7_handHere_18 : decode cX7_handHere 18 = .ok (.ior, 1) := by decide +kernel
theorem dX7_handHere_19 : decode cX7_handHere 19 = .ok (.putfield 107, 3) := by decide +kernel
theorem dX7_handHere_22 : decode cX7_handHere 22 = .ok (.iload 4, 2) := by decide +kernel
theorem dX7_handHere_24 : decode cX7_handHere 24 = .ok (.ireturn, 1) := by decide +kernel
theorem dX7_readHand_0 : decode cX7_readHand 0 = .ok (.aload_n 0, 1) := by decide +kernel
theorem dX7_readHand_1 : decode cX7_readHand 1 = .ok (.invokevirtual 110, 3) := by decide +kernel
theorem dX7_readHand_4 : decode cX7_readHand 4 = .ok (.bipush 8, 2) := by decide +kernel
theorem dX7_readHand_6 : decode cX7_readHand 6 = .ok (.isub, 1) := by decide +kernel
theorem dX7_readHand_7 : decode cX7_readHand 7 = .ok (.istore_n 2, 1) := by decide +kernel
theorem dX7_readHand_8 : decode cX7_readHand 8 = .ok (.aload_n 0, 1) := by decide +kernel
theorem dX7_readHand_9 : decode cX7_readHand 9 = .ok (.getfield 66, 3) := by decide +kernel
theorem dX7_readHand_12 : decode cX7_readHand 12 = .ok (.ifCond .ne 18, 3) := by decide +kernel
theorem dX7_readHand_15 : decode cX7_readHand 15 = .ok (.iload_n 2, 1) := by decide +kernel
theorem dX7_readHand_16 : decode cX7_readHand 16 = .ok (.i2l, 1) := by decide +kernel
theorem dX7_readHand_17 : decode cX7_readHand 17 = .ok (.lconst 0, 1) := by decide +kernel
theorem dX7_readHand_18 : decode cX7_readHand 18 = .ok (.lconst 1, 1) := by decide +kernel
theorem dX7_readHand_19 : decode cX7_readHand 19 = .ok (.invokestatic 58, 3) := by decide +kernel
theorem dX7_readHand_22 : decode cX7_readHand 22 = .ok (.ifCond .ne 8, 3) := by decide +kernel
theorem dX7_readHand_25 : decode cX7_readHand 25 = .ok (.aload_n 0, 1) := by decide +kernel
theorem dX7_readHand_26 : decode cX7_readHand 26 = .ok (.iconst 2, 1) := by decide +kernel
theorem dX7_readHand_27 : decode cX7_readHand 27 = .ok (.invokevirtual 96, 3) := by decide +kernel
theorem dX7_readHand_30 : decode cX7_readHand 30 = .ok (.aload_n 0, 1) := by decide +kernel
theorem dX7_readHand_31 : decode cX7_readHand 31 = .ok (.getfield 66, 3) := by decide +kernel
theorem dX7_readHand_34 : decode cX7_readHand 34 = .ok (.ifCond .ne 27, 3) := by decide +kernel
theorem dX7_readHand_37 : decode cX7_readHand 37 = .ok (.iload_n 2, 1) := by decide +kernel
theorem dX7_readHand_38 : decode cX7_readHand 38 = .ok (.ifCond .ne 10, 3) := by decide +kernel
theorem dX7_readHand_41 : decode cX7_readHand 41 = .ok (.aload_n 0, 1) := by decide +kernel
theorem dX7_readHand_42 : decode cX7_readHand 42 = .ok (.getfield 114, 3) := by decide +kernel
theorem dX7_readHand_45 : decode cX7_readHand 45 = .ok (.goto 7, 3) := by decide +kernel
theorem dX7_readHand_48 : decode cX7_readHand 48 = .ok (.aload_n 0, 1) := by decide +kernel
theorem dX7_readHand_49 : decode cX7_readHand 49 = .ok (.getfield 117, 3) := by decide +kernel
theorem dX7_readHand_52 : decode cX7_readHand 52 = .ok (.iconst 4, 1) := by decide +kernel
theorem dX7_readHand_53 : decode cX7_readHand 53 = .ok (.if_icmp .ne 8, 3) := by decide +kernel
theorem dX7_readHand_56 : decode cX7_readHand 56 = .ok (.aload_n 0, 1) := by decide +kernel
theorem dX7_readHand_57 : decode cX7_readHand 57 = .ok (.iconst 5, 1) := by decide +kernel
theorem dX7_readHand_58 : decode cX7_readHand 58 = .ok (.invokevirtual 96, 3) := by decide +kernel
theorem dX7_readHand_61 : decode cX7_readHand 61 = .ok (.aload_n 0, 1) := by decide +kernel
theorem dX7_readHand_62 : decode cX7_readHand 62 = .ok (.getfield 66, 3) := by decide +kernel
theorem dX7_readHand_65 : decode cX7_readHand 65 = .ok (.ifCond .le 4, 3) := by decide +kernel
theorem dX7_readHand_68 : decode cX7_readHand 68 = .ok (.return_, 1) := by decide +kernel
theorem dX7_readHand_69 : decode cX7_readHand 69 = .ok (.aload_n 0, 1) := by decide +kernel
theorem dX7_readHand_70 : decode cX7_readHand 70 = .ok (.invokevirtual 100, 3) := by decide +kernel
theorem dX7_readHand_73 : decode cX7_readHand 73 = .ok (.iload_n 2, 1) := by decide +kernel
theorem dX7_readHand_74 : decode cX7_readHand 74 = .ok (.ifCond .ne 10, 3) := by decide +kernel
theorem dX7_readHand_77 : decode cX7_readHand 77 = .ok (.aload_n 0, 1) := by decide +kernel
theorem dX7_readHand_78 : decode cX7_readHand 78 = .ok (.getfield 114, 3) := by decide +kernel
theorem dX7_readHand_81 : decode cX7_readHand 81 = .ok (.goto 9, 3) := by decide +kernel
theorem dX7_readHand_84 : decode cX7_readHand 84 = .ok (.iconst 4, 1) := by decide +kernel
theorem dX7_readHand_85 : decode cX7_readHand 85 = .ok (.aload_n 0, 1) := by decide +kernel
theorem dX7_readHand_86 : decode cX7_readHand 86 = .ok (.getfield 117, 3) := by decide +kernel
theorem dX7_readHand_89 : decode cX7_readHand 89 = .ok (.iadd, 1) := by decide +kernel
theorem dX7_readHand_90 : decode cX7_readHand 90 = .ok (.istore_n 3, 1) := by decide +kernel
theorem dX7_readHand_91 : decode cX7_readHand 91 = .ok (.aload_n 0, 1) := by decide +kernel
theorem dX7_readHand_92 : decode cX7_readHand 92 = .ok (.getfield 13, 3) := by decide +kernel
theorem dX7_readHand_95 : decode cX7_readHand 95 = .ok (.iload_n 3, 1) := by decide +kernel
theorem dX7_readHand_96 : decode cX7_readHand 96 = .ok (.iload_n 1, 1) := by decide +kernel
theorem dX7_readHand_97 : decode cX7_readHand 97 = .ok (.iastore, 1) := by decide +kernel
theorem dX7_readHand_98 : decode cX7_readHand 98 = .ok (.aload_n 0, 1) := by decide +kernel
theorem dX7_readHand_99 : decode cX7_readHand 99 = .ok (.getfield 13, 3) := by decide +kernel
theorem dX7_readHand_102 : decode cX7_readHand 102 = .ok (.bipush 8, 2) := by decide +kernel
theorem dX7_readHand_104 : decode cX7_readHand 104 = .ok (.iload_n 3, 1) := by decide +kernel
theorem dX7_readHand_105 : decode cX7_readHand 105 = .ok (.iadd, 1) := by decide +kernel
theorem dX7_readHand_106 : decode cX7_readHand 106 = .ok (.aload_n 0, 1) := by decide +kernel
theorem dX7_readHand_107 : decode cX7_readHand 107 = .ok (.iconst 0, 1) := by decide +kernel
theorem dX7_readHand_108 : decode cX7_readHand 108 = .ok (.bipush 9, 2) := by decide +kernel
theorem dX7_readHand_110 : decode cX7_readHand 110 = .ok (.iconst 0, 1) := by decide +kernel
theorem dX7_readHand_111 : decode cX7_readHand 111 = .ok (.invokevirtual 103, 3) := by decide +kernel
theorem dX7_readHand_114 : decode cX7_readHand 114 = .ok (.iastore, 1) := by decide +kernel
theorem dX7_readHand_115 : decode cX7_readHand 115 = .ok (.aload_n 0, 1) := by decide +kernel
theorem dX7_readHand_116 : decode cX7_readHand 116 = .ok (.getfield 13, 3) := by decide +kernel
theorem dX7_readHand_119 : decode cX7_readHand 119 = .ok (.bipush 16, 2) := by decide +kernel
theorem dX7_readHand_121 : decode cX7_readHand 121 = .ok (.iload_n 3, 1) := by decide +kernel
theorem dX7_readHand_122 : decode cX7_readHand 122 = .ok (.iadd, 1) := by decide +kernel
theorem dX7_readHand_123 : decode cX7_readHand 123 = .ok (.aload_n 0, 1) := by decide +kernel
theorem dX7_readHand_124 : decode cX7_readHand 124 = .ok (.iconst 0, 1) := by decide +kernel
theorem dX7_readHand_125 : decode cX7_readHand 125 = .ok (.bipush 9, 2) := by decide +kernel
theorem dX7_readHand_127 : decode cX7_readHand 127 = .ok (.iconst 0, 1) := by decide +kernel
theorem dX7_readHand_128 : decode cX7_readHand 128 = .ok (.invokevirtual 103, 3) := by decide +kernel
theorem dX7_readHand_131 : decode cX7_readHand 131 = .ok (.iastore, 1) := by decide +kernel
theorem dX7_readHand_132 : decode cX7_readHand 132 = .ok (.aload_n 0, 1) := by decide +kernel
theorem dX7_readHand_133 : decode cX7_readHand 133 = .ok (.getfield 13, 3) := by decide +kernel
theorem dX7_readHand_136 : decode cX7_readHand 136 = .ok (.bipush 24, 2) := by decide +kernel
theorem dX7_readHand_138 : decode cX7_readHand 138 = .ok (.iload_n 3, 1) := by decide +kernel
theorem dX7_readHand_139 : decode cX7_readHand 139 = .ok (.iadd, 1) := by decide +kernel
theorem dX7_readHand_140 : decode cX7_readHand 140 = .ok (.aload_n 0, 1) := by decide +kernel
theorem dX7_readHand_141 : decode cX7_readHand 141 = .ok (.iconst 0, 1) := by decide +kernel
theorem dX7_readHand_142 : decode cX7_readHand 142 = .ok (.iconst 2, 1) := by decide +kernel
theorem dX7_readHand_143 : decode cX7_readHand 143 = .ok (.iconst 0, 1) := by decide +kernel
theorem dX7_readHand_144 : decode cX7_readHand 144 = .ok (.invokevirtual 103, 3) := by decide +kernel
theorem dX7_readHand_147 : decode cX7_readHand 147 = .ok (.iastore, 1) := by decide +kernel
theorem dX7_readHand_148 : decode cX7_readHand 148 = .ok (.aload_n 0, 1) := by decide +kernel
theorem dX7_readHand_149 : decode cX7_readHand 149 = .ok (.dup, 1) := by decide +kernel
theorem dX7_readHand_150 : decode cX7_readHand 150 = .ok (.getfield 114, 3) := by decide +kernel
theorem dX7_readHand_153 : decode cX7_readHand 153 = .ok (.iload_n 2, 1) := by decide +kernel
theorem dX7_readHand_154 : decode cX7_readHand 154 = .ok (.ifCond .ne 7, 3) := by decide +kernel
theorem dX7_readHand_157 : decode cX7_readHand 157 = .ok (.iconst 1, 1) := by decide +kernel
theorem dX7_readHand_158 : decode cX7_readHand 158 = .ok (.goto 4, 3) := by decide +kernel
theorem dX7_readHand_161 : decode cX7_readHand 161 = .ok (.iconst 0, 1) := by decide +kernel
theorem dX7_readHand_162 : decode cX7_readHand 162 = .ok (.iadd, 1) := by decide +kernel
theorem dX7_readHand_163 : decode cX7_readHand 163 = .ok (.putfield 114, 3) := by decide +kernel
theorem dX7_readHand_166 : decode cX7_readHand 166 = .ok (.aload_n 0, 1) := by decide +kernel
theorem dX7_readHand_167 : decode cX7_readHand 167 = .ok (.dup, 1) := by decide +kernel
theorem dX7_readHand_168 : decode cX7_readHand 168 = .ok (.getfield 117, 3) := by decide +kernel
theorem dX7_readHand_171 : decode cX7_readHand 171 = .ok (.iload_n 2, 1) := by decide +kernel
theorem dX7_readHand_172 : decode cX7_readHand 172 = .ok (.iadd, 1) := by decide +kernel
theorem dX7_readHand_173 : decode cX7_readHand 173 = .ok (.putfield 117, 3) := by decide +kernel
theorem dX7_readHand_176 : decode cX7_readHand 176 = .ok (.return_, 1) := by decide +kernel
theorem dX7_readMore_0 : decode cX7_readMore 0 = .ok (.iload_n 1, 1) := by decide +kernel
theorem dX7_readMore_1 : decode cX7_readMore 1 = .ok (.iconst 3, 1) := by decide +kernel
theorem dX7_readMore_2 : decode cX7_readMore 2 = .ok (.if_icmp .gt 11, 3) := by decide +kernel
theorem dX7_readMore_5 : decode cX7_readMore 5 = .ok (.aload_n 0, 1) := by decide +kernel
theorem dX7_readMore_6 : decode cX7_readMore 6 = .ok (.iload_n 1, 1) := by decide +kernel
theorem dX7_readMore_7 : decode cX7_readMore 7 = .ok (.invokevirtual 120, 3) := by decide +kernel
theorem dX7_readMore_10 : decode cX7_readMore 10 = .ok (.goto 184, 3) := by decide +kernel
theorem dX7_readMore_13 : decode cX7_readMore 13 = .ok (.iload_n 1, 1) := by decide +kernel
theorem dX7_readMore_14 : decode cX7_readMore 14 = .ok (.iconst 4, 1) := by decide +kernel
theorem dX7_readMore_15 : decode cX7_readMore 15 = .ok (.if_icmp .ne 49, 3) := by decide +kernel
theorem dX7_readMore_18 : decode cX7_readMore 18 = .ok (.aload_n 0, 1) := by decide +kernel
theorem dX7_readMore_19 : decode cX7_readMore 19 = .ok (.iconst 0, 1) := by decide +kernel
theorem dX7_readMore_20 : decode cX7_readMore 20 = .ok (.bipush 7, 2) := by decide +kernel
theorem dX7_readMore_22 : decode cX7_readMore 22 = .ok (.aload_n 0, 1) := by decide +kernel
theorem dX7_readMore_23 : decode cX7_readMore 23 = .ok (.getfield 123, 3) := by decide +kernel
theorem dX7_readMore_26 : decode cX7_readMore 26 = .ok (.invokevirtual 126, 3) := by decide +kernel
theorem dX7_readMore_29 : decode cX7_readMore 29 = .ok (.istore_n 2, 1) := by decide +kernel
theorem dX7_readMore_30 : decode cX7_readMore 30 = .ok (.aload_n 0, 1) := by decide +kernel
theorem dX7_readMore_31 : decode cX7_readMore 31 = .ok (.dup, 1) := by decide +kernel
theorem dX7_readMore_32 : decode cX7_readMore 32 = .ok (.getfield 123, 3) := by decide +kernel
theorem dX7_readMore_35 : decode cX7_readMore 35 = .ok (.iconst 1, 1) := by decide +kernel
theorem dX7_readMore_36 : decode cX7_readMore 36 = .ok (.iload_n 2, 1) := by decide +kernel
theorem dX7_readMore_37 : decode cX7_readMore 37 = .ok (.ishl, 1) := by decide +kernel
theorem dX7_readMore_38 : decode cX7_readMore 38 = .ok (.ior, 1) := by decide +kernel
theorem dX7_readMore_39 : decode cX7_readMore 39 = .ok (.putfield 123, 3) := by decide +kernel
theorem dX7_readMore_42 : decode cX7_readMore 42 = .ok (.aload_n 0, 1) := by decide +kernel
theorem dX7_readMore_43 : decode cX7_readMore 43 = .ok (.getfield 13, 3) := by decide +kernel
theorem dX7_readMore_46 : decode cX7_readMore 46 = .ok (.bipush 32, 2) := by decide +kernel
theorem dX7_readMore_48 : decode cX7_readMore 48 = .ok (.iload_n 2, 1) := by decide +kernel
theorem dX7_readMore_49 : decode cX7_readMore 49 = .ok (.iadd, 1) := by decide +kernel
theorem dX7_readMore_50 : decode cX7_readMore 50 = .ok (.aload_n 0, 1) := by decide +kernel
theorem dX7_readMore_51 : decode cX7_readMore 51 = .ok (.iconst 0, 1) := by decide +kernel
theorem dX7_readMore_52 : decode cX7_readMore 52 = .ok (.bipush 7, 2) := by decide +kernel
theorem dX7_readMore_54 : decode cX7_readMore 54 = .ok (.iconst 0, 1) := by decide +kernel
theorem dX7_readMore_55 : decode cX7_readMore 55 = .ok (.invokevirtual 126, 3) := by decide +kernel
theorem dX7_readMore_58 : decode cX7_readMore 58 = .ok (.iload_n 2, 1) := by decide +kernel
theorem dX7_readMore_59 : decode cX7_readMore 59 = .ok (.isub, 1) := by decide +kernel
theorem dX7_readMore_60 : decode cX7_readMore 60 = .ok (.iastore, 1) := by decide +kernel
theorem dX7_readMore_61 : decode cX7_readMore 61 = .ok (.goto 133, 3) := by decide +kernel
theorem dX7_readMore_64 : decode cX7_readMore 64 = .ok (.iload_n 1, 1) := by decide +kernel
theorem dX7_readMore_65 : decode cX7_readMore 65 = .ok (.iconst 5, 1) := by decide +kernel
theorem dX7_readMore_66 : decode cX7_readMore 66 = .ok (.if_icmp .ne 32, 3) := by decide +kernel
theorem dX7_readMore_69 : decode cX7_readMore 69 = .ok (.aload_n 0, 1) := by decide +kernel
theorem dX7_readMore_70 : decode cX7_readMore 70 = .ok (.getfield 13, 3) := by decide +kernel
theorem dX7_readMore_73 : decode cX7_readMore 73 = .ok (.bipush 44, 2) := by decide +kernel
theorem dX7_readMore_75 : decode cX7_readMore 75 = .ok (.dup2, 1) := by decide +kernel
theorem dX7_readMore_76 : decode cX7_readMore 76 = .ok (.iaload, 1) := by decide +kernel
theorem dX7_readMore_77 : decode cX7_readMore 77 = .ok (.iconst 1, 1) := by decide +kernel
theorem dX7_readMore_78 : decode cX7_readMore 78 = .ok (.aload_n 0, 1) := by decide +kernel
theorem dX7_readMore_79 : decode cX7_readMore 79 = .ok (.iconst 0, 1) := by decide +kernel
theorem dX7_readMore_80 : decode cX7_readMore 80 = .ok (.bipush 7, 2) := by decide +kernel
theorem dX7_readMore_82 : decode cX7_readMore 82 = .ok (.aload_n 0, 1) := by decide +kernel
theorem dX7_readMore_83 : decode cX7_readMore 83 = .ok (.getfield 13, 3) := by decide +kernel
theorem dX7_readMore_86 : decode cX7_readMore 86 = .ok (.bipush 44, 2) := by decide +kernel
theorem dX7_readMore_88 : decode cX7_readMore 88 = .ok (.iaload, 1) := by decide +kernel
theorem dX7_readMore_89 : decode cX7_readMore 89 = .ok (.invokevirtual 126, 3) := by decide +kernel
theorem dX7_readMore_92 : decode cX7_readMore 92 = .ok (.ishl, 1) := by decide +kernel
theorem dX7_readMore_93 : decode cX7_readMore 93 = .ok (.ior, 1) := by decide +kernel
theorem dX7_readMore_94 : decode cX7_readMore 94 = .ok (.iastore, 1) := by decide +kernel
theorem dX7_readMore_95 : decode cX7_readMore 95 = .ok (.goto 99, 3) := by decide +kernel
theorem dX7_readMore_98 : decode cX7_readMore 98 = .ok (.iload_n 1, 1) := by decide +kernel
theorem dX7_readMore_99 : decode cX7_readMore 99 = .ok (.bipush 6, 2) := by decide +kernel
theorem dX7_readMore_101 : decode cX7_readMore 101 = .ok (.if_icmp .ne 44, 3) := by decide +kernel
theorem dX7_readMore_104 : decode cX7_readMore 104 = .ok (.aload_n 0, 1) := by decide +kernel
theorem dX7_readMore_105 : decode cX7_readMore 105 = .ok (.iconst 0, 1) := by decide +kernel
theorem dX7_readMore_106 : decode cX7_readMore 106 = .ok (.iconst 3, 1) := by decide +kernel
theorem dX7_readMore_107 : decode cX7_readMore 107 = .ok (.iconst 0, 1) := by decide +kernel
theorem dX7_readMore_108 : decode cX7_readMore 108 = .ok (.invokevirtual 126, 3) := by decide +kernel
theorem dX7_readMore_111 : decode cX7_readMore 111 = .ok (.istore_n 2, 1) := by decide +kernel
theorem dX7_readMore_112 : decode cX7_readMore 112 = .ok (.aload_n 0, 1) := by decide +kernel
theorem dX7_readMore_113 : decode cX7_readMore 113 = .ok (.getfield 13, 3) := by decide +kernel
theorem dX7_readMore_116 : decode cX7_readMore 116 = .ok (.bipush 40, 2) := by decide +kernel
theorem dX7_readMore_118 : decode cX7_readMore 118 = .ok (.iload_n 2, 1) := by decide +kernel
theorem dX7_readMore_119 : decode cX7_readMore 119 = .ok (.iadd, 1) := by decide +kernel
theorem dX7_readMore_120 : decode cX7_readMore 120 = .ok (.dup2, 1) := by decide +kernel
theorem dX7_readMore_121 : decode cX7_readMore 121 = .ok (.iaload, 1) := by decide +kernel
theorem dX7_readMore_122 : decode cX7_readMore 122 = .ok (.iconst 1, 1) := by decide +kernel
theorem dX7_readMore_123 : decode cX7_readMore 123 = .ok (.aload_n 0, 1) := by decide +kernel
theorem dX7_readMore_124 : decode cX7_readMore 124 = .ok (.iconst 4, 1) := by decide +kernel
theorem dX7_readMore_125 : decode cX7_readMore 125 = .ok (.bipush 7, 2) := by decide +kernel
theorem dX7_readMore_127 : decode cX7_readMore 127 = .ok (.aload_n 0, 1) := by decide +kernel
theorem dX7_readMore_128 : decode cX7_readMore 128 = .ok (.getfield 13, 3) := by decide +kernel
theorem dX7_readMore_131 : decode cX7_readMore 131 = .ok (.bipush 40, 2) := by decide +kernel
theorem dX7_readMore_133 : decode cX7_readMore 133 = .ok (.iload_n 2, 1) := by decide +kernel
theorem dX7_readMore_134 : decode cX7_readMore 134 = .ok (.iadd, 1) := by decide +kernel
theorem dX7_readMore_135 : decode cX7_readMore 135 = .ok (.iaload, 1) := by decide +kernel
theorem dX7_readMore_136 : decode cX7_readMore 136 = .ok (.invokevirtual 126, 3) := by decide +kernel
theorem dX7_readMore_139 : decode cX7_readMore 139 = .ok (.ishl, 1) := by decide +kernel
theorem dX7_readMore_140 : decode cX7_readMore 140 = .ok (.ior, 1) := by decide +kernel
theorem dX7_readMore_141 : decode cX7_readMore 141 = .ok (.iastore, 1) := by decide +kernel
theorem dX7_readMore_142 : decode cX7_readMore 142 = .ok (.goto 52, 3) := by decide +kernel
theorem dX7_readMore_145 : decode cX7_readMore 145 = .ok (.aload_n 0, 1) := by decide +kernel
theorem dX7_readMore_146 : decode cX7_readMore 146 = .ok (.iconst 0, 1) := by decide +kernel
theorem dX7_readMore_147 : decode cX7_readMore 147 = .ok (.iconst 3, 1) := by decide +kernel
theorem dX7_readMore_148 : decode cX7_readMore 148 = .ok (.aload_n 0, 1) := by decide +kernel
theorem dX7_readMore_149 : decode cX7_readMore 149 = .ok (.getfield 129, 3) := by decide +kernel
theorem dX7_readMore_152 : decode cX7_readMore 152 = .ok (.invokevirtual 126, 3) := by decide +kernel
theorem dX7_readMore_155 : decode cX7_readMore 155 = .ok (.istore_n 2, 1) := by decide +kernel
theorem dX7_readMore_156 : decode cX7_readMore 156 = .ok (.aload_n 0, 1) := by decide +kernel
theorem dX7_readMore_157 : decode cX7_readMore 157 = .ok (.iconst 4, 1) := by decide +kernel
theorem dX7_readMore_158 : decode cX7_readMore 158 = .ok (.bipush 7, 2) := by decide +kernel
theorem dX7_readMore_160 : decode cX7_readMore 160 = .ok (.aload_n 0, 1) := by decide +kernel
theorem dX7_readMore_161 : decode cX7_readMore 161 = .ok (.getfield 129, 3) := by decide +kernel
theorem dX7_readMore_164 : decode cX7_readMore 164 = .ok (.invokevirtual 126, 3) := by decide +kernel
theorem dX7_readMore_167 : decode cX7_readMore 167 = .ok (.istore_n 3, 1) := by decide +kernel
theorem dX7_readMore_168 : decode cX7_readMore 168 = .ok (.aload_n 0, 1) := by decide +kernel
theorem dX7_readMore_169 : decode cX7_readMore 169 = .ok (.dup, 1) := by decide +kernel
theorem dX7_readMore_170 : decode cX7_readMore 170 = .ok (.getfield 129, 3) := by decide +kernel
theorem dX7_readMore_173 : decode cX7_readMore 173 = .ok (.iconst 1, 1) := by decide +kernel
theorem dX7_readMore_174 : decode cX7_readMore 174 = .ok (.iload_n 2, 1) := by decide +kernel
theorem dX7_readMore_175 : decode cX7_readMore 175 = .ok (.ishl, 1) := by decide +kernel
theorem dX7_readMore_176 : decode cX7_readMore 176 = .ok (.iconst 1, 1) := by decide +kernel
theorem dX7_readMore_177 : decode cX7_readMore 177 = .ok (.iload_n 3, 1) := by decide +kernel
theorem dX7_readMore_178 : decode cX7_readMore 178 = .ok (.ishl, 1) := by decide +kernel
theorem dX7_readMore_179 : decode cX7_readMore 179 = .ok (.ior, 1) := by decide +kernel
theorem dX7_readMore_180 : decode cX7_readMore 180 = .ok (.ior, 1) := by decide +kernel
theorem dX7_readMore_181 : decode cX7_readMore 181 = .ok (.putfield 129, 3) := by decide +kernel
theorem dX7_readMore_184 : decode cX7_readMore 184 = .ok (.aload_n 0, 1) := by decide +kernel
theorem dX7_readMore_185 : decode cX7_readMore 185 = .ok (.getfield 13, 3) := by decide +kernel
theorem dX7_readMore_188 : decode cX7_readMore 188 = .ok (.bipush 45, 2) := by decide +kernel
theorem dX7_readMore_190 : decode cX7_readMore 190 = .ok (.iload_n 2, 1) := by decide +kernel
theorem dX7_readMore_191 : decode cX7_readMore 191 = .ok (.iadd, 1) := by decide +kernel
theorem dX7_readMore_192 : decode cX7_readMore 192 = .ok (.iload_n 3, 1) := by decide +kernel
theorem dX7_readMore_193 : decode cX7_readMore 193 = .ok (.iastore, 1) := by decide +kernel
theorem dX7_readMore_194 : decode cX7_readMore 194 = .ok (.return_, 1) := by decide +kernel
theorem dX7_readLine_0 : decode cX7_readLine 0 = .ok (.aload_n 0, 1) := by decide +kernel
theorem dX7_readLine_1 : decode cX7_readLine 1 = .ok (.invokevirtual 110, 3) := by decide +kernel
theorem dX7_readLine_4 : decode cX7_readLine 4 = .ok (.istore_n 1, 1) := by decide +kernel
theorem dX7_readLine_5 : decode cX7_readLine 5 = .ok (.iload_n 1, 1) := by decide +kernel
theorem dX7_readLine_6 : decode cX7_readLine 6 = .ok (.i2l, 1) := by decide +kernel
theorem dX7_readLine_7 : decode cX7_readLine 7 = .ok (.lconst 0, 1) := by decide +kernel
theorem dX7_readLine_8 : decode cX7_readLine 8 = .ok (.ldc2_w 132, 3) := by decide +kernel
theorem dX7_readLine_11 : decode cX7_readLine 11 = .ok (.invokestatic 58, 3) := by decide +kernel
theorem dX7_readLine_14 : decode cX7_readLine 14 = .ok (.ifCond .ne 9, 3) := by decide +kernel
theorem dX7_readLine_17 : decode cX7_readLine 17 = .ok (.aload_n 0, 1) := by decide +kernel
theorem dX7_readLine_18 : decode cX7_readLine 18 = .ok (.iconst 2, 1) := by decide +kernel
theorem dX7_readLine_19 : decode cX7_readLine 19 = .ok (.invokevirtual 96, 3) := by decide +kernel
theorem dX7_readLine_22 : decode cX7_readLine 22 = .ok (.return_, 1) := by decide +kernel
theorem dX7_readLine_23 : decode cX7_readLine 23 = .ok (.aload_n 0, 1) := by decide +kernel
theorem dX7_readLine_24 : decode cX7_readLine 24 = .ok (.invokevirtual 100, 3) := by decide +kernel
theorem dX7_readLine_27 : decode cX7_readLine 27 = .ok (.aload_n 0, 1) := by decide +kernel
theorem dX7_readLine_28 : decode cX7_readLine 28 = .ok (.getfield 66, 3) := by decide +kernel
theorem dX7_readLine_31 : decode cX7_readLine 31 = .ok (.ifCond .le 4, 3) := by decide +kernel
theorem dX7_readLine_34 : decode cX7_readLine 34 = .ok (.return_, 1) := by decide +kernel
theorem dX7_readLine_35 : decode cX7_readLine 35 = .ok (.aload_n 0, 1) := by decide +kernel
theorem dX7_readLine_36 : decode cX7_readLine 36 = .ok (.iload_n 1, 1) := by decide +kernel
theorem dX7_readLine_37 : decode cX7_readLine 37 = .ok (.invokevirtual 134, 3) := by decide +kernel
theorem dX7_readLine_40 : decode cX7_readLine 40 = .ok (.aload_n 0, 1) := by decide +kernel
theorem dX7_readLine_41 : decode cX7_readLine 41 = .ok (.getfield 66, 3) := by decide +kernel
theorem dX7_readLine_44 : decode cX7_readLine 44 = .ok (.ifCond .ne 16, 3) := by decide +kernel
theorem dX7_readLine_47 : decode cX7_readLine 47 = .ok (.aload_n 0, 1) := by decide +kernel
theorem dX7_readLine_48 : decode cX7_readLine 48 = .ok (.getfield 75, 3) := by decide +kernel
theorem dX7_readLine_51 : decode cX7_readLine 51 = .ok (.iconst 3, 1) := by decide +kernel
theorem dX7_readLine_52 : decode cX7_readLine 52 = .ok (.if_icmp .eq 8, 3) := by decide +kernel
theorem dX7_readLine_55 : decode cX7_readLine 55 = .ok (.aload_n 0, 1) := by decide +kernel
theorem dX7_readLine_56 : decode cX7_readLine 56 = .ok (.iconst 2, 1) := by decide +kernel
theorem dX7_readLine_57 : decode cX7_readLine 57 = .ok (.invokevirtual 96, 3) := by decide +kernel
theorem dX7_readLine_60 : decode cX7_readLine 60 = .ok (.aload_n 0, 1) := by decide +kernel
theorem dX7_readLine_61 : decode cX7_readLine 61 = .ok (.invokevirtual 100, 3) := by decide +kernel
theorem dX7_readLine_64 : decode cX7_readLine 64 = .ok (.return_, 1) := by decide +kernel
theorem dX7_handsOf_0 : decode cX7_handsOf 0 = .ok (.iconst 1, 1) := by decide +kernel
theorem dX7_handsOf_1 : decode cX7_handsOf 1 = .ok (.iload_n 0, 1) := by decide +kernel
theorem dX7_handsOf_2 : decode cX7_handsOf 2 = .ok (.ishl, 1) := by decide +kernel
theorem dX7_handsOf_3 : decode cX7_handsOf 3 = .ok (.iconst 1, 1) := by decide +kernel
theorem dX7_handsOf_4 : decode cX7_handsOf 4 = .ok (.isub, 1) := by decide +kernel
theorem dX7_handsOf_5 : decode cX7_handsOf 5 = .ok (.iconst 1, 1) := by decide +kernel
theorem dX7_handsOf_6 : decode cX7_handsOf 6 = .ok (.iload_n 1, 1) := by decide +kernel
theorem dX7_handsOf_7 : decode cX7_handsOf 7 = .ok (.ishl, 1) := by decide +kernel
theorem dX7_handsOf_8 : decode cX7_handsOf 8 = .ok (.iconst 1, 1) := by decide +kernel
theorem dX7_handsOf_9 : decode cX7_handsOf 9 = .ok (.isub, 1) := by decide +kernel
theorem dX7_handsOf_10 : decode cX7_handsOf 10 = .ok (.iconst 4, 1) := by decide +kernel
theorem dX7_handsOf_11 : decode cX7_handsOf 11 = .ok (.ishl, 1) := by decide +kernel
theorem dX7_handsOf_12 : decode cX7_handsOf 12 = .ok (.ior, 1) := by decide +kernel
theorem dX7_handsOf_13 : decode cX7_handsOf 13 = .ok (.ireturn, 1) := by decide +kernel
theorem dX7_text_0 : decode cX7_text 0 = .ok (.aload_n 0, 1) := by decide +kernel
theorem dX7_text_1 : decode cX7_text 1 = .ok (.iconst 0, 1) := by decide +kernel
theorem dX7_text_2 : decode cX7_text 2 = .ok (.putfield 66, 3) := by decide +kernel
theorem dX7_text_5 : decode cX7_text 5 = .ok (.aload_n 0, 1) := by decide +kernel
theorem dX7_text_6 : decode cX7_text 6 = .ok (.iconst 0, 1) := by decide +kernel
theorem dX7_text_7 : decode cX7_text 7 = .ok (.putfield 78, 3) := by decide +kernel
theorem dX7_text_10 : decode cX7_text 10 = .ok (.aload_n 0, 1) := by decide +kernel
theorem dX7_text_11 : decode cX7_text 11 = .ok (.iconst 0, 1) := by decide +kernel
theorem dX7_text_12 : decode cX7_text 12 = .ok (.putfield 114, 3) := by decide +kernel
theorem dX7_text_15 : decode cX7_text 15 = .ok (.aload_n 0, 1) := by decide +kernel
theorem dX7_text_16 : decode cX7_text 16 = .ok (.iconst 0, 1) := by decide +kernel
theorem dX7_text_17 : decode cX7_text 17 = .ok (.putfield 117, 3) := by decide +kernel
theorem dX7_text_20 : decode cX7_text 20 = .ok (.aload_n 0, 1) := by decide +kernel
theorem dX7_text_21 : decode cX7_text 21 = .ok (.iconst 0, 1) := by decide +kernel
theorem dX7_text_22 : decode cX7_text 22 = .ok (.putfield 123, 3) := by decide +kernel
theorem dX7_text_25 : decode cX7_text 25 = .ok (.aload_n 0, 1) := by decide +kernel
theorem dX7_text_26 : decode cX7_text 26 = .ok (.iconst 0, 1) := by decide +kernel
theorem dX7_text_27 : decode cX7_text 27 = .ok (.putfield 129, 3) := by decide +kernel
theorem dX7_text_30 : decode cX7_text 30 = .ok (.aload_n 0, 1) := by decide +kernel
theorem dX7_text_31 : decode cX7_text 31 = .ok (.iconst 0, 1) := by decide +kernel
theorem dX7_text_32 : decode cX7_text 32 = .ok (.putfield 107, 3) := by decide +kernel
theorem dX7_text_35 : decode cX7_text 35 = .ok (.iconst 0, 1) := by decide +kernel
theorem dX7_text_36 : decode cX7_text 36 = .ok (.istore_n 1, 1) := by decide +kernel
theorem dX7_text_37 : decode cX7_text 37 = .ok (.iconst 0, 1) := by decide +kernel
theorem dX7_text_38 : decode cX7_text 38 = .ok (.istore_n 2, 1) := by decide +kernel
theorem dX7_text_39 : decode cX7_text 39 = .ok (.iload_n 2, 1) := by decide +kernel
theorem dX7_text_40 : decode cX7_text 40 = .ok (.bipush 50, 2) := by decide +kernel
theorem dX7_text_42 : decode cX7_text 42 = .ok (.if_icmp .ge 16, 3) := by decide +kernel
theorem dX7_text_45 : decode cX7_text 45 = .ok (.aload_n 0, 1) := by decide +kernel
theorem dX7_text_46 : decode cX7_text 46 = .ok (.getfield 13, 3) := by decide +kernel
theorem dX7_text_49 : decode cX7_text 49 = .ok (.iload_n 2, 1) := by decide +kernel
theorem dX7_text_50 : decode cX7_text 50 = .ok (.iconst 0, 1) := by decide +kernel
theorem dX7_text_51 : decode cX7_text 51 = .ok (.iastore, 1) := by decide +kernel
theorem dX7_text_52 : decode cX7_text 52 = .ok (.iinc 2 1, 3) := by decide +kernel
theorem dX7_text_55 : decode cX7_text 55 = .ok (.goto (-16), 3) := by decide +kernel
theorem dX7_text_58 : decode cX7_text 58 = .ok (.aload_n 0, 1) := by decide +kernel
theorem dX7_text_59 : decode cX7_text 59 = .ok (.invokevirtual 100, 3) := by decide +kernel
theorem dX7_text_62 : decode cX7_text 62 = .ok (.aload_n 0, 1) := by decide +kernel
theorem dX7_text_63 : decode cX7_text 63 = .ok (.getfield 66, 3) := by decide +kernel
theorem dX7_text_66 : decode cX7_text 66 = .ok (.ifCond .ne 20, 3) := by decide +kernel
theorem dX7_text_69 : decode cX7_text 69 = .ok (.aload_n 0, 1) := by decide +kernel
theorem dX7_text_70 : decode cX7_text 70 = .ok (.getfield 75, 3) := by decide +kernel
theorem dX7_text_73 : decode cX7_text 73 = .ok (.ifCond .eq 13, 3) := by decide +kernel
theorem dX7_text_76 : decode cX7_text 76 = .ok (.aload_n 0, 1) := by decide +kernel
theorem dX7_text_77 : decode cX7_text 77 = .ok (.invokevirtual 137, 3) := by decide +kernel
theorem dX7_text_80 : decode cX7_text 80 = .ok (.iinc 1 1, 3) := by decide +kernel
theorem dX7_text_83 : decode cX7_text 83 = .ok (.goto (-21), 3) := by decide +kernel
theorem dX7_text_86 : decode cX7_text 86 = .ok (.aload_n 0, 1) := by decide +kernel
theorem dX7_text_87 : decode cX7_text 87 = .ok (.getfield 66, 3) := by decide +kernel
theorem dX7_text_90 : decode cX7_text 90 = .ok (.ifCond .ne 30, 3) := by decide +kernel
theorem dX7_text_93 : decode cX7_text 93 = .ok (.aload_n 0, 1) := by decide +kernel
theorem dX7_text_94 : decode cX7_text 94 = .ok (.getfield 107, 3) := by decide +kernel
theorem dX7_text_97 : decode cX7_text 97 = .ok (.aload_n 0, 1) := by decide +kernel
theorem dX7_text_98 : decode cX7_text 98 = .ok (.getfield 114, 3) := by decide +kernel
theorem dX7_text_101 : decode cX7_text 101 = .ok (.aload_n 0, 1) := by decide +kernel
theorem dX7_text_102 : decode cX7_text 102 = .ok (.getfield 117, 3) := by decide +kernel
theorem dX7_text_105 : decode cX7_text 105 = .ok (.invokestatic 140, 3) := by decide +kernel
theorem dX7_text_108 : decode cX7_text 108 = .ok (.iconst (-1), 1) := by decide +kernel
theorem dX7_text_109 : decode cX7_text 109 = .ok (.ixor, 1) := by decide +kernel
theorem dX7_text_110 : decode cX7_text 110 = .ok (.iand, 1) := by decide +kernel
theorem dX7_text_111 : decode cX7_text 111 = .ok (.ifCond .eq 9, 3) := by decide +kernel
theorem dX7_text_114 : decode cX7_text 114 = .ok (.aload_n 0, 1) := by decide +kernel
theorem dX7_text_115 : decode cX7_text 115 = .ok (.bipush 6, 2) := by decide +kernel
theorem dX7_text_117 : decode cX7_text 117 = .ok (.invokevirtual 96, 3) := by decide +kernel
theorem dX7_text_120 : decode cX7_text 120 = .ok (.aload_n 0, 1) := by decide +kernel
theorem dX7_text_121 : decode cX7_text 121 = .ok (.iconst 0, 1) := by decide +kernel
theorem dX7_text_122 : decode cX7_text 122 = .ok (.putfield 62, 3) := by decide +kernel
theorem dX7_text_125 : decode cX7_text 125 = .ok (.aload_n 0, 1) := by decide +kernel
theorem dX7_text_126 : decode cX7_text 126 = .ok (.aload_n 0, 1) := by decide +kernel
theorem dX7_text_127 : decode cX7_text 127 = .ok (.getfield 66, 3) := by decide +kernel
theorem dX7_text_130 : decode cX7_text 130 = .ok (.putfield 144, 3) := by decide +kernel
theorem dX7_text_133 : decode cX7_text 133 = .ok (.aload_n 0, 1) := by decide +kernel
theorem dX7_text_134 : decode cX7_text 134 = .ok (.getfield 66, 3) := by decide +kernel
theorem dX7_text_137 : decode cX7_text 137 = .ok (.ifCond .le 11, 3) := by decide +kernel
theorem dX7_text_140 : decode cX7_text 140 = .ok (.bipush (-10), 2) := by decide +kernel
theorem dX7_text_142 : decode cX7_text 142 = .ok (.aload_n 0, 1) := by decide +kernel
theorem dX7_text_143 : decode cX7_text 143 = .ok (.getfield 72, 3) := by decide +kernel
theorem dX7_text_146 : decode cX7_text 146 = .ok (.isub, 1) := by decide +kernel
theorem dX7_text_147 : decode cX7_text 147 = .ok (.ireturn, 1) := by decide +kernel
theorem dX7_text_148 : decode cX7_text 148 = .ok (.iconst 0, 1) := by decide +kernel
theorem dX7_text_149 : decode cX7_text 149 = .ok (.istore_n 2, 1) := by decide +kernel
theorem dX7_text_150 : decode cX7_text 150 = .ok (.iload_n 2, 1) := by decide +kernel
theorem dX7_text_151 : decode cX7_text 151 = .ok (.bipush 50, 2) := by decide +kernel
theorem dX7_text_153 : decode cX7_text 153 = .ok (.if_icmp .ge 21, 3) := by decide +kernel
theorem dX7_text_156 : decode cX7_text 156 = .ok (.aload_n 0, 1) := by decide +kernel
theorem dX7_text_157 : decode cX7_text 157 = .ok (.getfield 7, 3) := by decide +kernel
theorem dX7_text_160 : decode cX7_text 160 = .ok (.iload_n 2, 1) := by decide +kernel
theorem dX7_text_161 : decode cX7_text 161 = .ok (.aload_n 0, 1) := by decide +kernel
theorem dX7_text_162 : decode cX7_text 162 = .ok (.getfield 13, 3) := by decide +kernel
theorem dX7_text_165 : decode cX7_text 165 = .ok (.iload_n 2, 1) := by decide +kernel
theorem dX7_text_166 : decode cX7_text 166 = .ok (.iaload, 1) := by decide +kernel
theorem dX7_text_167 : decode cX7_text 167 = .ok (.iastore, 1) := by decide +kernel
theorem dX7_text_168 : decode cX7_text 168 = .ok (.iinc 2 1, 3) := by decide +kernel
theorem dX7_text_171 : decode cX7_text 171 = .ok (.goto (-21), 3) := by decide +kernel
theorem dX7_text_174 : decode cX7_text 174 = .ok (.aload_n 0, 1) := by decide +kernel
theorem dX7_text_175 : decode cX7_text 175 = .ok (.aload_n 0, 1) := by decide +kernel
theorem dX7_text_176 : decode cX7_text 176 = .ok (.getfield 114, 3) := by decide +kernel
theorem dX7_text_179 : decode cX7_text 179 = .ok (.putfield 147, 3) := by decide +kernel
theorem dX7_text_182 : decode cX7_text 182 = .ok (.aload_n 0, 1) := by decide +kernel
theorem dX7_text_183 : decode cX7_text 183 = .ok (.aload_n 0, 1) := by decide +kernel
theorem dX7_text_184 : decode cX7_text 184 = .ok (.getfield 117, 3) := by decide +kernel
theorem dX7_text_187 : decode cX7_text 187 = .ok (.putfield 150, 3) := by decide +kernel
theorem dX7_text_190 : decode cX7_text 190 = .ok (.aload_n 0, 1) := by decide +kernel
theorem dX7_text_191 : decode cX7_text 191 = .ok (.iconst 0, 1) := by decide +kernel
theorem dX7_text_192 : decode cX7_text 192 = .ok (.putfield 153, 3) := by decide +kernel
theorem dX7_text_195 : decode cX7_text 195 = .ok (.aload_n 0, 1) := by decide +kernel
theorem dX7_text_196 : decode cX7_text 196 = .ok (.getfield 43, 3) := by decide +kernel
theorem dX7_text_199 : decode cX7_text 199 = .ok (.iconst 0, 1) := by decide +kernel
theorem dX7_text_200 : decode cX7_text 200 = .ok (.iconst 0, 1) := by decide +kernel
theorem dX7_text_201 : decode cX7_text 201 = .ok (.bastore, 1) := by decide +kernel
theorem dX7_text_202 : decode cX7_text 202 = .ok (.aload_n 0, 1) := by decide +kernel
theorem dX7_text_203 : decode cX7_text 203 = .ok (.getfield 43, 3) := by decide +kernel
theorem dX7_text_206 : decode cX7_text 206 = .ok (.iconst 1, 1) := by decide +kernel
theorem dX7_text_207 : decode cX7_text 207 = .ok (.iconst 0, 1) := by decide +kernel
theorem dX7_text_208 : decode cX7_text 208 = .ok (.bastore, 1) := by decide +kernel
theorem dX7_text_209 : decode cX7_text 209 = .ok (.iload_n 1, 1) := by decide +kernel
theorem dX7_text_210 : decode cX7_text 210 = .ok (.ireturn, 1) := by decide +kernel
theorem dX7_fault_0 : decode cX7_fault 0 = .ok (.aload_n 0, 1) := by decide +kernel
theorem dX7_fault_1 : decode cX7_fault 1 = .ok (.getfield 144, 3) := by decide +kernel
theorem dX7_fault_4 : decode cX7_fault 4 = .ok (.ireturn, 1) := by decide +kernel
theorem dX7_isHand_0 : decode cX7_isHand 0 = .ok (.iload_n 1, 1) := by decide +kernel
theorem dX7_isHand_1 : decode cX7_isHand 1 = .ok (.i2l, 1) := by decide +kernel
theorem dX7_isHand_2 : decode cX7_isHand 2 = .ok (.lconst 0, 1) := by decide +kernel
theorem dX7_isHand_3 : decode cX7_isHand 3 = .ok (.aload_n 0, 1) := by decide +kernel
theorem dX7_isHand_4 : decode cX7_isHand 4 = .ok (.getfield 147, 3) := by decide +kernel
theorem dX7_isHand_7 : decode cX7_isHand 7 = .ok (.iconst 1, 1) := by decide +kernel
theorem dX7_isHand_8 : decode cX7_isHand 8 = .ok (.isub, 1) := by decide +kernel
theorem dX7_isHand_9 : decode cX7_isHand 9 = .ok (.i2l, 1) := by decide +kernel
theorem dX7_isHand_10 : decode cX7_isHand 10 = .ok (.invokestatic 58, 3) := by decide +kernel
theorem dX7_isHand_13 : decode cX7_isHand 13 = .ok (.ifCond .ne 23, 3) := by decide +kernel
theorem dX7_isHand_16 : decode cX7_isHand 16 = .ok (.iload_n 1, 1) := by decide +kernel
theorem dX7_isHand_17 : decode cX7_isHand 17 = .ok (.i2l, 1) := by decide +kernel
theorem dX7_isHand_18 : decode cX7_isHand 18 = .ok (.ldc2_w 156, 3) := by decide +kernel
theorem dX7_isHand_21 : decode cX7_isHand 21 = .ok (.iconst 4, 1) := by decide +kernel
theorem dX7_isHand_22 : decode cX7_isHand 22 = .ok (.aload_n 0, 1) := by decide +kernel
theorem dX7_isHand_23 : decode cX7_isHand 23 = .ok (.getfield 150, 3) := by decide +kernel
theorem dX7_isHand_26 : decode cX7_isHand 26 = .ok (.iadd, 1) := by decide +kernel
theorem dX7_isHand_27 : decode cX7_isHand 27 = .ok (.iconst 1, 1) := by decide +kernel
theorem dX7_isHand_28 : decode cX7_isHand 28 = .ok (.isub, 1) := by decide +kernel
theorem dX7_isHand_29 : decode cX7_isHand 29 = .ok (.i2l, 1) := by decide +kernel
theorem dX7_isHand_30 : decode cX7_isHand 30 = .ok (.invokestatic 58, 3) := by decide +kernel
theorem dX7_isHand_33 : decode cX7_isHand 33 = .ok (.ifCond .eq 7, 3) := by decide +kernel
theorem dX7_isHand_36 : decode cX7_isHand 36 = .ok (.iconst 1, 1) := by decide +kernel
theorem dX7_isHand_37 : decode cX7_isHand 37 = .ok (.goto 4, 3) := by decide +kernel
theorem dX7_isHand_40 : decode cX7_isHand 40 = .ok (.iconst 0, 1) := by decide +kernel
theorem dX7_isHand_41 : decode cX7_isHand 41 = .ok (.ireturn, 1) := by decide +kernel
theorem dX7_areTwo_0 : decode cX7_areTwo 0 = .ok (.aload_n 0, 1) := by decide +kernel
theorem dX7_areTwo_1 : decode cX7_areTwo 1 = .ok (.iload_n 1, 1) := by decide +kernel
theorem dX7_areTwo_2 : decode cX7_areTwo 2 = .ok (.invokevirtual 158, 3) := by decide +kernel
theorem dX7_areTwo_5 : decode cX7_areTwo 5 = .ok (.ifCond .eq 25, 3) := by decide +kernel
theorem dX7_areTwo_8 : decode cX7_areTwo 8 = .ok (.aload_n 0, 1) := by decide +kernel
theorem dX7_areTwo_9 : decode cX7_areTwo 9 = .ok (.iload_n 2, 1) := by decide +kernel
theorem dX7_areTwo_10 : decode cX7_areTwo 10 = .ok (.invokevirtual 158, 3) := by decide +kernel
theorem dX7_areTwo_13 : decode cX7_areTwo 13 = .ok (.ifCond .eq 17, 3) := by decide +kernel
theorem dX7_areTwo_16 : decode cX7_areTwo 16 = .ok (.iload_n 1, 1) := by decide +kernel
theorem dX7_areTwo_17 : decode cX7_areTwo 17 = .ok (.iconst 4, 1) := by decide +kernel
theorem dX7_areTwo_18 : decode cX7_areTwo 18 = .ok (.if_icmp .ge 12, 3) := by decide +kernel
theorem dX7_areTwo_21 : decode cX7_areTwo 21 = .ok (.iload_n 2, 1) := by decide +kernel
theorem dX7_areTwo_22 : decode cX7_areTwo 22 = .ok (.iconst 4, 1) := by decide +kernel
theorem dX7_areTwo_23 : decode cX7_areTwo 23 = .ok (.if_icmp .lt 7, 3) := by decide +kernel
theorem dX7_areTwo_26 : decode cX7_areTwo 26 = .ok (.iconst 1, 1) := by decide +kernel
theorem dX7_areTwo_27 : decode cX7_areTwo 27 = .ok (.goto 4, 3) := by decide +kernel
theorem dX7_areTwo_30 : decode cX7_areTwo 30 = .ok (.iconst 0, 1) := by decide +kernel
theorem dX7_areTwo_31 : decode cX7_areTwo 31 = .ok (.ireturn, 1) := by decide +kernel
theorem dX7_bitsOf_0 : decode cX7_bitsOf 0 = .ok (.iconst 0, 1) := by decide +kernel
theorem dX7_bitsOf_1 : decode cX7_bitsOf 1 = .ok (.istore_n 1, 1) := by decide +kernel
theorem dX7_bitsOf_2 : decode cX7_bitsOf 2 = .ok (.iconst 0, 1) := by decide +kernel
theorem dX7_bitsOf_3 : decode cX7_bitsOf 3 = .ok (.istore_n 2, 1) := by decide +kernel
theorem dX7_bitsOf_4 : decode cX7_bitsOf 4 = .ok (.iload_n 2, 1) := by decide +kernel
theorem dX7_bitsOf_5 : decode cX7_bitsOf 5 = .ok (.bipush 8, 2) := by decide +kernel
theorem dX7_bitsOf_7 : decode cX7_bitsOf 7 = .ok (.if_icmp .ge 17, 3) := by decide +kernel
theorem dX7_bitsOf_10 : decode cX7_bitsOf 10 = .ok (.iload_n 1, 1) := by decide +kernel
theorem dX7_bitsOf_11 : decode cX7_bitsOf 11 = .ok (.iload_n 0, 1) := by decide +kernel
theorem dX7_bitsOf_12 : decode cX7_bitsOf 12 = .ok (.iload_n 2, 1) := by decide +kernel
theorem dX7_bitsOf_13 : decode cX7_bitsOf 13 = .ok (.ishr, 1) := by decide +kernel
theorem dX7_bitsOf_14 : decode cX7_bitsOf 14 = .ok (.iconst 1, 1) := by decide +kernel
theorem dX7_bitsOf_15 : decode cX7_bitsOf 15 = .ok (.iand, 1) := by decide +kernel
theorem dX7_bitsOf_16 : decode cX7_bitsOf 16 = .ok (.iadd, 1) := by decide +kernel
theorem dX7_bitsOf_17 : decode cX7_bitsOf 17 = .ok (.istore_n 1, 1) := by decide +kernel
theorem dX7_bitsOf_18 : decode cX7_bitsOf 18 = .ok (.iinc 2 1, 3) := by decide +kernel
theorem dX7_bitsOf_21 : decode cX7_bitsOf 21 = .ok (.goto (-17), 3) := by decide +kernel
theorem dX7_bitsOf_24 : decode cX7_bitsOf 24 = .ok (.iload_n 1, 1) := by decide +kernel
theorem dX7_bitsOf_25 : decode cX7_bitsOf 25 = .ok (.ireturn, 1) := by decide +kernel
theorem dX7_wedTo_0 : decode cX7_wedTo 0 = .ok (.iload_n 1, 1) := by decide +kernel
theorem dX7_wedTo_1 : decode cX7_wedTo 1 = .ok (.iconst 4, 1) := by decide +kernel
theorem dX7_wedTo_2 : decode cX7_wedTo 2 = .ok (.if_icmp .ge 30, 3) := by decide +kernel
theorem dX7_wedTo_5 : decode cX7_wedTo 5 = .ok (.aload_n 0, 1) := by decide +kernel
theorem dX7_wedTo_6 : decode cX7_wedTo 6 = .ok (.getfield 7, 3) := by decide +kernel
theorem dX7_wedTo_9 : decode cX7_wedTo 9 = .ok (.bipush 45, 2) := by decide +kernel
theorem dX7_wedTo_11 : decode cX7_wedTo 11 = .ok (.iload_n 1, 1) := by decide +kernel
theorem dX7_wedTo_12 : decode cX7_wedTo 12 = .ok (.iadd, 1) := by decide +kernel
theorem dX7_wedTo_13 : decode cX7_wedTo 13 = .ok (.iaload, 1) := by decide +kernel
theorem dX7_wedTo_14 : decode cX7_wedTo 14 = .ok (.ifCond .ne 8, 3) := by decide +kernel
theorem dX7_wedTo_17 : decode cX7_wedTo 17 = .ok (.bipush (-4), 2) := by decide +kernel
theorem dX7_wedTo_19 : decode cX7_wedTo 19 = .ok (.goto 12, 3) := by decide +kernel
theorem dX7_wedTo_22 : decode cX7_wedTo 22 = .ok (.aload_n 0, 1) := by decide +kernel
theorem dX7_wedTo_23 : decode cX7_wedTo 23 = .ok (.getfield 7, 3) := by decide +kernel
theorem dX7_wedTo_26 : decode cX7_wedTo 26 = .ok (.bipush 45, 2) := by decide +kernel
theorem dX7_wedTo_28 : decode cX7_wedTo 28 = .ok (.iload_n 1, 1) := by decide +kernel
theorem dX7_wedTo_29 : decode cX7_wedTo 29 = .ok (.iadd, 1) := by decide +kernel
theorem dX7_wedTo_30 : decode cX7_wedTo 30 = .ok (.iaload, 1) := by decide +kernel
theorem dX7_wedTo_31 : decode cX7_wedTo 31 = .ok (.ireturn, 1) := by decide +kernel
theorem dX7_wedTo_32 : decode cX7_wedTo 32 = .ok (.iconst 0, 1) := by decide +kernel
theorem dX7_wedTo_33 : decode cX7_wedTo 33 = .ok (.istore_n 2, 1) := by decide +kernel
theorem dX7_wedTo_34 : decode cX7_wedTo 34 = .ok (.iload_n 2, 1) := by decide +kernel
theorem dX7_wedTo_35 : decode cX7_wedTo 35 = .ok (.iconst 4, 1) := by decide +kernel
theorem dX7_wedTo_36 : decode cX7_wedTo 36 = .ok (.if_icmp .ge 24, 3) := by decide +kernel
theorem dX7_wedTo_39 : decode cX7_wedTo 39 = .ok (.aload_n 0, 1) := by decide +kernel
theorem dX7_wedTo_40 : decode cX7_wedTo 40 = .ok (.getfield 7, 3) := by decide +kernel
theorem dX7_wedTo_43 : decode cX7_wedTo 43 = .ok (.bipush 45, 2) := by decide +kernel
theorem dX7_wedTo_45 : decode cX7_wedTo 45 = .ok (.iload_n 2, 1) := by decide +kernel
theorem dX7_wedTo_46 : decode cX7_wedTo 46 = .ok (.iadd, 1) := by decide +kernel
theorem dX7_wedTo_47 : decode cX7_wedTo 47 = .ok (.iaload, 1) := by decide +kernel
theorem dX7_wedTo_48 : decode cX7_wedTo 48 = .ok (.iload_n 1, 1) := by decide +kernel
theorem dX7_wedTo_49 : decode cX7_wedTo 49 = .ok (.if_icmp .ne 5, 3) := by decide +kernel
theorem dX7_wedTo_52 : decode cX7_wedTo 52 = .ok (.iload_n 2, 1) := by decide +kernel
theorem dX7_wedTo_53 : decode cX7_wedTo 53 = .ok (.ireturn, 1) := by decide +kernel
theorem dX7_wedTo_54 : decode cX7_wedTo 54 = .ok (.iinc 2 1, 3) := by decide +kernel
theorem dX7_wedTo_57 : decode cX7_wedTo 57 = .ok (.goto (-23), 3) := by decide +kernel
theorem dX7_wedTo_60 : decode cX7_wedTo 60 = .ok (.bipush (-4), 2) := by decide +kernel
theorem dX7_wedTo_62 : decode cX7_wedTo 62 = .ok (.ireturn, 1) := by decide +kernel
theorem dX7_wedOnes_0 : decode cX7_wedOnes 0 = .ok (.iconst 0, 1) := by decide +kernel
theorem dX7_wedOnes_1 : decode cX7_wedOnes 1 = .ok (.istore_n 1, 1) := by decide +kernel
theorem dX7_wedOnes_2 : decode cX7_wedOnes 2 = .ok (.iconst 0, 1) := by decide +kernel
theorem dX7_wedOnes_3 : decode cX7_wedOnes 3 = .ok (.istore_n 2, 1) := by decide +kernel
theorem dX7_wedOnes_4 : decode cX7_wedOnes 4 = .ok (.iload_n 2, 1) := by decide +kernel
theorem dX7_wedOnes_5 : decode cX7_wedOnes 5 = .ok (.bipush 8, 2) := by decide +kernel
theorem dX7_wedOnes_7 : decode cX7_wedOnes 7 = .ok (.if_icmp .ge 29, 3) := by decide +kernel
theorem dX7_wedOnes_10 : decode cX7_wedOnes 10 = .ok (.iload_n 1, 1) := by decide +kernel
theorem dX7_wedOnes_11 : decode cX7_wedOnes 11 = .ok (.aload_n 0, 1) := by decide +kernel
theorem dX7_wedOnes_12 : decode cX7_wedOnes 12 = .ok (.iload_n 2, 1) := by decide +kernel
theorem dX7_wedOnes_13 : decode cX7_wedOnes 13 = .ok (.invokevirtual 162, 3) := by decide +kernel
theorem dX7_wedOnes_16 : decode cX7_wedOnes 16 = .ok (.bipush (-4), 2) := by decide +kernel
theorem dX7_wedOnes_18 : decode cX7_wedOnes 18 = .ok (.if_icmp .ne 7, 3) := by decide +kernel
theorem dX7_wedOnes_21 : decode cX7_wedOnes 21 = .ok (.iconst 0, 1) := by decide +kernel
theorem dX7_wedOnes_22 : decode cX7_wedOnes 22 = .ok (.goto 6, 3) := by decide +kernel
theorem dX7_wedOnes_25 : decode cX7_wedOnes 25 = .ok (.iconst 1, 1) := by decide +kernel
theorem dX7_wedOnes_26 : decode cX7_wedOnes 26 = .ok (.iload_n 2, 1) := by decide +kernel
theorem dX7_wedOnes_27 : decode cX7_wedOnes 27 = .ok (.ishl, 1) := by decide +kernel
theorem dX7_wedOnes_28 : decode cX7_wedOnes 28 = .ok (.ior, 1) := by decide +kernel
theorem dX7_wedOnes_29 : decode cX7_wedOnes 29 = .ok (.istore_n 1, 1) := by decide +kernel
theorem dX7_wedOnes_30 : decode cX7_wedOnes 30 = .ok (.iinc 2 1, 3) := by decide +kernel
theorem dX7_wedOnes_33 : decode cX7_wedOnes 33 = .ok (.goto (-29), 3) := by decide +kernel
theorem dX7_wedOnes_36 : decode cX7_wedOnes 36 = .ok (.iload_n 1, 1) := by decide +kernel
theorem dX7_wedOnes_37 : decode cX7_wedOnes 37 = .ok (.ireturn, 1) := by decide +kernel
theorem dX7_rule_0 : decode cX7_rule 0 = .ok (.iload_n 1, 1) := by decide +kernel
theorem dX7_rule_1 : decode cX7_rule 1 = .ok (.tableswitch 66 0 4 #[35, 40, 45, 53, 58], 35) := by decide +kernel
theorem dX7_rule_36 : decode cX7_rule 36 = .ok (.aload_n 0, 1) := by decide +kernel
theorem dX7_rule_37 : decode cX7_rule 37 = .ok (.getfield 147, 3) := by decide +kernel
theorem dX7_rule_40 : decode cX7_rule 40 = .ok (.ireturn, 1) := by decide +kernel
theorem dX7_rule_41 : decode cX7_rule 41 = .ok (.aload_n 0, 1) := by decide +kernel
theorem dX7_rule_42 : decode cX7_rule 42 = .ok (.getfield 150, 3) := by decide +kernel
theorem dX7_rule_45 : decode cX7_rule 45 = .ok (.ireturn, 1) := by decide +kernel
theorem dX7_rule_46 : decode cX7_rule 46 = .ok (.aload_n 0, 1) := by decide +kernel
theorem dX7_rule_47 : decode cX7_rule 47 = .ok (.getfield 7, 3) := by decide +kernel
theorem dX7_rule_50 : decode cX7_rule 50 = .ok (.bipush 44, 2) := by decide +kernel
theorem dX7_rule_52 : decode cX7_rule 52 = .ok (.iaload, 1) := by decide +kernel
theorem dX7_rule_53 : decode cX7_rule 53 = .ok (.ireturn, 1) := by decide +kernel
theorem dX7_rule_54 : decode cX7_rule 54 = .ok (.aload_n 0, 1) := by decide +kernel
theorem dX7_rule_55 : decode cX7_rule 55 = .ok (.invokevirtual 165, 3) := by decide +kernel
theorem dX7_rule_58 : decode cX7_rule 58 = .ok (.ireturn, 1) := by decide +kernel
theorem dX7_rule_59 : decode cX7_rule 59 = .ok (.aload_n 0, 1) := by decide +kernel
theorem dX7_rule_60 : decode cX7_rule 60 = .ok (.getfield 7, 3) := by decide +kernel
theorem dX7_rule_63 : decode cX7_rule 63 = .ok (.bipush 49, 2) := by decide +kernel
theorem dX7_rule_65 : decode cX7_rule 65 = .ok (.iaload, 1) := by decide +kernel
theorem dX7_rule_66 : decode cX7_rule 66 = .ok (.ireturn, 1) := by decide +kernel
theorem dX7_rule_67 : decode cX7_rule 67 = .ok (.iconst (-1), 1) := by decide +kernel
theorem dX7_rule_68 : decode cX7_rule 68 = .ok (.ireturn, 1) := by decide +kernel
theorem dX7_areFolded_0 : decode cX7_areFolded 0 = .ok (.iload_n 1, 1) := by decide +kernel
theorem dX7_areFolded_1 : decode cX7_areFolded 1 = .ok (.iload_n 2, 1) := by decide +kernel
theorem dX7_areFolded_2 : decode cX7_areFolded 2 = .ok (.if_icmp .ge 7, 3) := by decide +kernel
theorem dX7_areFolded_5 : decode cX7_areFolded 5 = .ok (.iload_n 1, 1) := by decide +kernel
theorem dX7_areFolded_6 : decode cX7_areFolded 6 = .ok (.goto 4, 3) := by decide +kernel
theorem dX7_areFolded_9 : decode cX7_areFolded 9 = .ok (.iload_n 2, 1) := by decide +kernel
theorem dX7_areFolded_10 : decode cX7_areFolded 10 = .ok (.istore_n 3, 1) := by decide +kernel
theorem dX7_areFolded_11 : decode cX7_areFolded 11 = .ok (.iload_n 1, 1) := by decide +kernel
theorem dX7_areFolded_12 : decode cX7_areFolded 12 = .ok (.iload_n 2, 1) := by decide +kernel
theorem dX7_areFolded_13 : decode cX7_areFolded 13 = .ok (.if_icmp .ge 7, 3) := by decide +kernel
theorem dX7_areFolded_16 : decode cX7_areFolded 16 = .ok (.iload_n 2, 1) := by decide +kernel
theorem dX7_areFolded_17 : decode cX7_areFolded 17 = .ok (.goto 4, 3) := by decide +kernel
theorem dX7_areFolded_20 : decode cX7_areFolded 20 = .ok (.iload_n 1, 1) := by decide +kernel
theorem dX7_areFolded_21 : decode cX7_areFolded 21 = .ok (.istore 4, 2) := by decide +kernel
theorem dX7_areFolded_23 : decode cX7_areFolded 23 = .ok (.aload_n 0, 1) := by decide +kernel
theorem dX7_areFolded_24 : decode cX7_areFolded 24 = .ok (.getfield 7, 3) := by decide +kernel
theorem dX7_areFolded_27 : decode cX7_areFolded 27 = .ok (.bipush 40, 2) := by decide +kernel
theorem dX7_areFolded_29 : decode cX7_areFolded 29 = .ok (.iload_n 3, 1) := by decide +kernel
theorem dX7_areFolded_30 : decode cX7_areFolded 30 = .ok (.iadd, 1) := by decide +kernel
theorem dX7_areFolded_31 : decode cX7_areFolded 31 = .ok (.iaload, 1) := by decide +kernel
theorem dX7_areFolded_32 : decode cX7_areFolded 32 = .ok (.iload 4, 2) := by decide +kernel
theorem dX7_areFolded_34 : decode cX7_areFolded 34 = .ok (.ishr, 1) := by decide +kernel
theorem dX7_areFolded_35 : decode cX7_areFolded 35 = .ok (.iconst 1, 1) := by decide +kernel
theorem dX7_areFolded_36 : decode cX7_areFolded 36 = .ok (.iand, 1) := by decide +kernel
theorem dX7_areFolded_37 : decode cX7_areFolded 37 = .ok (.iconst 1, 1) := by decide +kernel
theorem dX7_areFolded_38 : decode cX7_areFolded 38 = .ok (.if_icmp .ne 7, 3) := by decide +kernel
theorem dX7_areFolded_41 : decode cX7_areFolded 41 = .ok (.iconst 1, 1) := by decide +kernel
theorem dX7_areFolded_42 : decode cX7_areFolded 42 = .ok (.goto 4, 3) := by decide +kernel
theorem dX7_areFolded_45 : decode cX7_areFolded 45 = .ok (.iconst 0, 1) := by decide +kernel
theorem dX7_areFolded_46 : decode cX7_areFolded 46 = .ok (.ireturn, 1) := by decide +kernel
theorem dX7_foldedWith_0 : decode cX7_foldedWith 0 = .ok (.iconst 0, 1) := by decide +kernel
theorem dX7_foldedWith_1 : decode cX7_foldedWith 1 = .ok (.istore_n 2, 1) := by decide +kernel
theorem dX7_foldedWith_2 : decode cX7_foldedWith 2 = .ok (.iconst 0, 1) := by decide +kernel
theorem dX7_foldedWith_3 : decode cX7_foldedWith 3 = .ok (.istore_n 3, 1) := by decide +kernel
theorem dX7_foldedWith_4 : decode cX7_foldedWith 4 = .ok (.iload_n 3, 1) := by decide +kernel
theorem dX7_foldedWith_5 : decode cX7_foldedWith 5 = .ok (.bipush 8, 2) := by decide +kernel
theorem dX7_foldedWith_7 : decode cX7_foldedWith 7 = .ok (.if_icmp .ge 37, 3) := by decide +kernel
theorem dX7_foldedWith_10 : decode cX7_foldedWith 10 = .ok (.iload_n 2, 1) := by decide +kernel
theorem dX7_foldedWith_11 : decode cX7_foldedWith 11 = .ok (.iload_n 1, 1) := by decide +kernel
theorem dX7_foldedWith_12 : decode cX7_foldedWith 12 = .ok (.iconst 4, 1) := by decide +kernel
theorem dX7_foldedWith_13 : decode cX7_foldedWith 13 = .ok (.idiv, 1) := by decide +kernel
theorem dX7_foldedWith_14 : decode cX7_foldedWith 14 = .ok (.iload_n 3, 1) := by decide +kernel
theorem dX7_foldedWith_15 : decode cX7_foldedWith 15 = .ok (.iconst 4, 1) := by decide +kernel
theorem dX7_foldedWith_16 : decode cX7_foldedWith 16 = .ok (.idiv, 1) := by decide +kernel
theorem dX7_foldedWith_17 : decode cX7_foldedWith 17 = .ok (.if_icmp .eq 18, 3) := by decide +kernel
theorem dX7_foldedWith_20 : decode cX7_foldedWith 20 = .ok (.aload_n 0, 1) := by decide +kernel
theorem dX7_foldedWith_21 : decode cX7_foldedWith 21 = .ok (.iload_n 1, 1) := by decide +kernel
theorem dX7_foldedWith_22 : decode cX7_foldedWith 22 = .ok (.iload_n 3, 1) := by decide +kernel
theorem dX7_foldedWith_23 : decode cX7_foldedWith 23 = .ok (.invokevirtual 168, 3) := by decide +kernel
theorem dX7_foldedWith_26 : decode cX7_foldedWith 26 = .ok (.ifCond .eq 9, 3) := by decide +kernel
theorem dX7_foldedWith_29 : decode cX7_foldedWith 29 = .ok (.iconst 1, 1) := by decide +kernel
theorem dX7_foldedWith_30 : decode cX7_foldedWith 30 = .ok (.iload_n 3, 1) := by decide +kernel
theorem dX7_foldedWith_31 : decode cX7_foldedWith 31 = .ok (.ishl, 1) := by decide +kernel
theorem dX7_foldedWith_32 : decode cX7_foldedWith 32 = .ok (.goto 4, 3) := by decide +kernel
theorem dX7_foldedWith_35 : decode cX7_foldedWith 35 = .ok (.iconst 0, 1) := by decide +kernel
theorem dX7_foldedWith_36 : decode cX7_foldedWith 36 = .ok (.ior, 1) := by decide +kernel
theorem dX7_foldedWith_37 : decode cX7_foldedWith 37 = .ok (.istore_n 2, 1) := by decide +kernel
theorem dX7_foldedWith_38 : decode cX7_foldedWith 38 = .ok (.iinc 3 1, 3) := by decide +kernel
theorem dX7_foldedWith_41 : decode cX7_foldedWith 41 = .ok (.goto (-37), 3) := by decide +kernel
theorem dX7_foldedWith_44 : decode cX7_foldedWith 44 = .ok (.iload_n 2, 1) := by decide +kernel
theorem dX7_foldedWith_45 : decode cX7_foldedWith 45 = .ok (.ireturn, 1) := by decide +kernel
theorem dX7_penOf_0 : decode cX7_penOf 0 = .ok (.aload_n 0, 1) := by decide +kernel
theorem dX7_penOf_1 : decode cX7_penOf 1 = .ok (.getfield 7, 3) := by decide +kernel
theorem dX7_penOf_4 : decode cX7_penOf 4 = .ok (.bipush 32, 2) := by decide +kernel
theorem dX7_penOf_6 : decode cX7_penOf 6 = .ok (.iload_n 1, 1) := by decide +kernel
theorem dX7_penOf_7 : decode cX7_penOf 7 = .ok (.iadd, 1) := by decide +kernel
theorem dX7_penOf_8 : decode cX7_penOf 8 = .ok (.iaload, 1) := by decide +kernel
theorem dX7_penOf_9 : decode cX7_penOf 9 = .ok (.iload_n 1, 1) := by decide +kernel
theorem dX7_penOf_10 : decode cX7_penOf 10 = .ok (.iadd, 1) := by decide +kernel
theorem dX7_penOf_11 : decode cX7_penOf 11 = .ok (.ireturn, 1) := by decide +kernel
theorem dX7_hand_0 : decode cX7_hand 0 = .ok (.aload_n 0, 1) := by decide +kernel
theorem dX7_hand_1 : decode cX7_hand 1 = .ok (.iload_n 1, 1) := by decide +kernel
theorem dX7_hand_2 : decode cX7_hand 2 = .ok (.invokevirtual 158, 3) := by decide +kernel
theorem dX7_hand_5 : decode cX7_hand 5 = .ok (.ifCond .ne 5, 3) := by decide +kernel
theorem dX7_hand_8 : decode cX7_hand 8 = .ok (.iconst (-1), 1) := by decide +kernel
theorem dX7_hand_9 : decode cX7_hand 9 = .ok (.ireturn, 1) := by decide +kernel
theorem dX7_hand_10 : decode cX7_hand 10 = .ok (.iload_n 2, 1) := by decide +kernel
theorem dX7_hand_11 : decode cX7_hand 11 = .ok (.tableswitch 71 0 6 #[41, 41, 41, 41, 53, 59, 65], 41) := by decide +kernel
theorem dX7_hand_52 : decode cX7_hand 52 = .ok (.aload_n 0, 1) := by decide +kernel
theorem dX7_hand_53 : decode cX7_hand 53 = .ok (.getfield 7, 3) := by decide +kernel
theorem dX7_hand_56 : decode cX7_hand 56 = .ok (.bipush 8, 2) := by decide +kernel
theorem dX7_hand_58 : decode cX7_hand 58 = .ok (.iload_n 2, 1) := by decide +kernel
theorem dX7_hand_59 : decode cX7_hand 59 = .ok (.imul, 1) := by decide +kernel
theorem dX7_hand_60 : decode cX7_hand 60 = .ok (.iload_n 1, 1) := by decide +kernel
theorem dX7_hand_61 : decode cX7_hand 61 = .ok (.iadd, 1) := by decide +kernel
theorem dX7_hand_62 : decode cX7_hand 62 = .ok (.iaload, 1) := by decide +kernel
theorem dX7_hand_63 : decode cX7_hand 63 = .ok (.ireturn, 1) := by decide +kernel
theorem dX7_hand_64 : decode cX7_hand 64 = .ok (.aload_n 0, 1) := by decide +kernel
theorem dX7_hand_65 : decode cX7_hand 65 = .ok (.iload_n 1, 1) := by decide +kernel
theorem dX7_hand_66 : decode cX7_hand 66 = .ok (.invokevirtual 172, 3) := by decide +kernel
theorem dX7_hand_69 : decode cX7_hand 69 = .ok (.ireturn, 1) := by decide +kernel
theorem dX7_hand_70 : decode cX7_hand 70 = .ok (.aload_n 0, 1) := by decide +kernel
theorem dX7_hand_71 : decode cX7_hand 71 = .ok (.iload_n 1, 1) := by decide +kernel
theorem dX7_hand_72 : decode cX7_hand 72 = .ok (.invokevirtual 162, 3) := by decide +kernel
theorem dX7_hand_75 : decode cX7_hand 75 = .ok (.ireturn, 1) := by decide +kernel
theorem dX7_hand_76 : decode cX7_hand 76 = .ok (.aload_n 0, 1) := by decide +kernel
theorem dX7_hand_77 : decode cX7_hand 77 = .ok (.iload_n 1, 1) := by decide +kernel
theorem dX7_hand_78 : decode cX7_hand 78 = .ok (.invokevirtual 175, 3) := by decide +kernel
theorem dX7_hand_81 : decode cX7_hand 81 = .ok (.ireturn, 1) := by decide +kernel
theorem dX7_hand_82 : decode cX7_hand 82 = .ok (.iconst (-1), 1) := by decide +kernel
theorem dX7_hand_83 : decode cX7_hand 83 = .ok (.ireturn, 1) := by decide +kernel
theorem dX7_isRun_0 : decode cX7_isRun 0 = .ok (.aload_n 0, 1) := by decide +kernel
theorem dX7_isRun_1 : decode cX7_isRun 1 = .ok (.getfield 7, 3) := by decide +kernel
theorem dX7_isRun_4 : decode cX7_isRun 4 = .ok (.bipush 44, 2) := by decide +kernel
theorem dX7_isRun_6 : decode cX7_isRun 6 = .ok (.iaload, 1) := by decide +kernel
theorem dX7_isRun_7 : decode cX7_isRun 7 = .ok (.iload_n 1, 1) := by decide +kernel
theorem dX7_isRun_8 : decode cX7_isRun 8 = .ok (.ishr, 1) := by decide +kernel
theorem dX7_isRun_9 : decode cX7_isRun 9 = .ok (.iconst 1, 1) := by decide +kernel
theorem dX7_isRun_10 : decode cX7_isRun 10 = .ok (.iand, 1) := by decide +kernel
theorem dX7_isRun_11 : decode cX7_isRun 11 = .ok (.iconst 1, 1) := by decide +kernel
theorem dX7_isRun_12 : decode cX7_isRun 12 = .ok (.if_icmp .ne 7, 3) := by decide +kernel
theorem dX7_isRun_15 : decode cX7_isRun 15 = .ok (.iconst 1, 1) := by decide +kernel
theorem dX7_isRun_16 : decode cX7_isRun 16 = .ok (.goto 4, 3) := by decide +kernel
theorem dX7_isRun_19 : decode cX7_isRun 19 = .ok (.iconst 0, 1) := by decide +kernel
theorem dX7_isRun_20 : decode cX7_isRun 20 = .ok (.ireturn, 1) := by decide +kernel
theorem dX7_runsWith_0 : decode cX7_runsWith 0 = .ok (.iload_n 1, 1) := by decide +kernel
theorem dX7_runsWith_1 : decode cX7_runsWith 1 = .ok (.iconst 4, 1) := by decide +kernel
theorem dX7_runsWith_2 : decode cX7_runsWith 2 = .ok (.irem, 1) := by decide +kernel
theorem dX7_runsWith_3 : decode cX7_runsWith 3 = .ok (.ifCond .le 17, 3) := by decide +kernel
theorem dX7_runsWith_6 : decode cX7_runsWith 6 = .ok (.aload_n 0, 1) := by decide +kernel
theorem dX7_runsWith_7 : decode cX7_runsWith 7 = .ok (.iload_n 1, 1) := by decide +kernel
theorem dX7_runsWith_8 : decode cX7_runsWith 8 = .ok (.iconst 1, 1) := by decide +kernel
theorem dX7_runsWith_9 : decode cX7_runsWith 9 = .ok (.isub, 1) := by decide +kernel
theorem dX7_runsWith_10 : decode cX7_runsWith 10 = .ok (.invokevirtual 178, 3) := by decide +kernel
theorem dX7_runsWith_13 : decode cX7_runsWith 13 = .ok (.ifCond .eq 7, 3) := by decide +kernel
theorem dX7_runsWith_16 : decode cX7_runsWith 16 = .ok (.iload_n 1, 1) := by decide +kernel
theorem dX7_runsWith_17 : decode cX7_runsWith 17 = .ok (.iconst 1, 1) := by decide +kernel
theorem dX7_runsWith_18 : decode cX7_runsWith 18 = .ok (.isub, 1) := by decide +kernel
theorem dX7_runsWith_19 : decode cX7_runsWith 19 = .ok (.ireturn, 1) := by decide +kernel
theorem dX7_runsWith_20 : decode cX7_runsWith 20 = .ok (.aload_n 0, 1) := by decide +kernel
theorem dX7_runsWith_21 : decode cX7_runsWith 21 = .ok (.iload_n 1, 1) := by decide +kernel
theorem dX7_runsWith_22 : decode cX7_runsWith 22 = .ok (.invokevirtual 178, 3) := by decide +kernel
theorem dX7_runsWith_25 : decode cX7_runsWith 25 = .ok (.ifCond .eq 26, 3) := by decide +kernel
theorem dX7_runsWith_28 : decode cX7_runsWith 28 = .ok (.iload_n 1, 1) := by decide +kernel
theorem dX7_runsWith_29 : decode cX7_runsWith 29 = .ok (.iconst 4, 1) := by decide +kernel
theorem dX7_runsWith_30 : decode cX7_runsWith 30 = .ok (.irem, 1) := by decide +kernel
theorem dX7_runsWith_31 : decode cX7_runsWith 31 = .ok (.iconst 3, 1) := by decide +kernel
theorem dX7_runsWith_32 : decode cX7_runsWith 32 = .ok (.if_icmp .ge 19, 3) := by decide +kernel
theorem dX7_runsWith_35 : decode cX7_runsWith 35 = .ok (.aload_n 0, 1) := by decide +kernel
theorem dX7_runsWith_36 : decode cX7_runsWith 36 = .ok (.iload_n 1, 1) := by decide +kernel
theorem dX7_runsWith_37 : decode cX7_runsWith 37 = .ok (.iconst 1, 1) := by decide +kernel
theorem dX7_runsWith_38 : decode cX7_runsWith 38 = .ok (.iadd, 1) := by decide +kernel
theorem dX7_runsWith_39 : decode cX7_runsWith 39 = .ok (.invokevirtual 158, 3) := by decide +kernel
theorem dX7_runsWith_42 : decode cX7_runsWith 42 = .ok (.ifCond .eq 9, 3) := by decide +kernel
theorem dX7_runsWith_45 : decode cX7_runsWith 45 = .ok (.iload_n 1, 1) := by decide +kernel
theorem dX7_runsWith_46 : decode cX7_runsWith 46 = .ok (.iconst 1, 1) := by decide +kernel
theorem dX7_runsWith_47 : decode cX7_runsWith 47 = .ok (.iadd, 1) := by decide +kernel
theorem dX7_runsWith_48 : decode cX7_runsWith 48 = .ok (.goto 4, 3) := by decide +kernel
theorem dX7_runsWith_51 : decode cX7_runsWith 51 = .ok (.iload_n 1, 1) := by decide +kernel
theorem dX7_runsWith_52 : decode cX7_runsWith 52 = .ok (.ireturn, 1) := by decide +kernel
theorem dX7_shows_0 : decode cX7_shows 0 = .ok (.aload_n 0, 1) := by decide +kernel
theorem dX7_shows_1 : decode cX7_shows 1 = .ok (.iload_n 1, 1) := by decide +kernel
theorem dX7_shows_2 : decode cX7_shows 2 = .ok (.invokevirtual 172, 3) := by decide +kernel
theorem dX7_shows_5 : decode cX7_shows 5 = .ok (.istore_n 3, 1) := by decide +kernel
theorem dX7_shows_6 : decode cX7_shows 6 = .ok (.aload_n 0, 1) := by decide +kernel
theorem dX7_shows_7 : decode cX7_shows 7 = .ok (.getfield 7, 3) := by decide +kernel
theorem dX7_shows_10 : decode cX7_shows 10 = .ok (.bipush 8, 2) := by decide +kernel
theorem dX7_shows_12 : decode cX7_shows 12 = .ok (.bipush 8, 2) := by decide +kernel
theorem dX7_shows_14 : decode cX7_shows 14 = .ok (.iload_n 2, 1) := by decide +kernel
theorem dX7_shows_15 : decode cX7_shows 15 = .ok (.imul, 1) := by decide +kernel
theorem dX7_shows_16 : decode cX7_shows 16 = .ok (.iadd, 1) := by decide +kernel
theorem dX7_shows_17 : decode cX7_shows 17 = .ok (.iload_n 3, 1) := by decide +kernel
theorem dX7_shows_18 : decode cX7_shows 18 = .ok (.iadd, 1) := by decide +kernel
theorem dX7_shows_19 : decode cX7_shows 19 = .ok (.iaload, 1) := by decide +kernel
theorem dX7_shows_20 : decode cX7_shows 20 = .ok (.istore 4, 2) := by decide +kernel
theorem dX7_shows_22 : decode cX7_shows 22 = .ok (.aload_n 0, 1) := by decide +kernel
theorem dX7_shows_23 : decode cX7_shows 23 = .ok (.iload_n 1, 1) := by decide +kernel
theorem dX7_shows_24 : decode cX7_shows 24 = .ok (.invokevirtual 181, 3) := by decide +kernel
theorem dX7_shows_27 : decode cX7_shows 27 = .ok (.istore 5, 2) := by decide +kernel
theorem dX7_shows_29 : decode cX7_shows 29 = .ok (.iload 5, 2) := by decide +kernel
theorem dX7_shows_31 : decode cX7_shows 31 = .ok (.iload_n 1, 1) := by decide +kernel
theorem dX7_shows_32 : decode cX7_shows 32 = .ok (.if_icmp .eq 8, 3) := by decide +kernel
theorem dX7_shows_35 : decode cX7_shows 35 = .ok (.iload_n 2, 1) := by decide +kernel
theorem dX7_shows_36 : decode cX7_shows 36 = .ok (.iconst 2, 1) := by decide +kernel
theorem dX7_shows_37 : decode cX7_shows 37 = .ok (.if_icmp .ne 8, 3) := by decide +kernel
theorem dX7_shows_40 : decode cX7_shows 40 = .ok (.iload 4, 2) := by decide +kernel
theorem dX7_shows_42 : decode cX7_shows 42 = .ok (.goto 27, 3) := by decide +kernel
theorem dX7_shows_45 : decode cX7_shows 45 = .ok (.iload 4, 2) := by decide +kernel
theorem dX7_shows_47 : decode cX7_shows 47 = .ok (.aload_n 0, 1) := by decide +kernel
theorem dX7_shows_48 : decode cX7_shows 48 = .ok (.getfield 7, 3) := by decide +kernel
theorem dX7_shows_51 : decode cX7_shows 51 = .ok (.bipush 8, 2) := by decide +kernel
theorem dX7_shows_53 : decode cX7_shows 53 = .ok (.bipush 8, 2) := by decide +kernel
theorem dX7_shows_55 : decode cX7_shows 55 = .ok (.iload_n 2, 1) := by decide +kernel
theorem dX7_shows_56 : decode cX7_shows 56 = .ok (.imul, 1) := by decide +kernel
theorem dX7_shows_57 : decode cX7_shows 57 = .ok (.iadd, 1) := by decide +kernel
theorem dX7_shows_58 : decode cX7_shows 58 = .ok (.aload_n 0, 1) := by decide +kernel
theorem dX7_shows_59 : decode cX7_shows 59 = .ok (.iload 5, 2) := by decide +kernel
theorem dX7_shows_61 : decode cX7_shows 61 = .ok (.invokevirtual 172, 3) := by decide +kernel
theorem dX7_shows_64 : decode cX7_shows 64 = .ok (.iadd, 1) := by decide +kernel
theorem dX7_shows_65 : decode cX7_shows 65 = .ok (.iaload, 1) := by decide +kernel
theorem dX7_shows_66 : decode cX7_shows 66 = .ok (.iadd, 1) := by decide +kernel
theorem dX7_shows_67 : decode cX7_shows 67 = .ok (.iconst 2, 1) := by decide +kernel
theorem dX7_shows_68 : decode cX7_shows 68 = .ok (.idiv, 1) := by decide +kernel
theorem dX7_shows_69 : decode cX7_shows 69 = .ok (.ireturn, 1) := by decide +kernel
theorem dX7_page_0 : decode cX7_page 0 = .ok (.aload_n 0, 1) := by decide +kernel
theorem dX7_page_1 : decode cX7_page 1 = .ok (.iload_n 1, 1) := by decide +kernel
theorem dX7_page_2 : decode cX7_page 2 = .ok (.invokevirtual 158, 3) := by decide +kernel
theorem dX7_page_5 : decode cX7_page 5 = .ok (.ifCond .eq 24, 3) := by decide +kernel
theorem dX7_page_8 : decode cX7_page 8 = .ok (.iload_n 2, 1) := by decide +kernel
theorem dX7_page_9 : decode cX7_page 9 = .ok (.i2l, 1) := by decide +kernel
theorem dX7_page_10 : decode cX7_page 10 = .ok (.lconst 0, 1) := by decide +kernel
theorem dX7_page_11 : decode cX7_page 11 = .ok (.ldc2_w 184, 3) := by decide +kernel
theorem dX7_page_14 : decode cX7_page 14 = .ok (.invokestatic 58, 3) := by decide +kernel
theorem dX7_page_17 : decode cX7_page 17 = .ok (.ifCond .eq 12, 3) := by decide +kernel
theorem dX7_page_20 : decode cX7_page 20 = .ok (.aload_n 0, 1) := by decide +kernel
theorem dX7_page_21 : decode cX7_page 21 = .ok (.iload_n 1, 1) := by decide +kernel
theorem dX7_page_22 : decode cX7_page 22 = .ok (.iload_n 2, 1) := by decide +kernel
theorem dX7_page_23 : decode cX7_page 23 = .ok (.invokevirtual 186, 3) := by decide +kernel
theorem dX7_page_26 : decode cX7_page 26 = .ok (.goto 4, 3) := by decide +kernel
theorem dX7_page_29 : decode cX7_page 29 = .ok (.iconst (-1), 1) := by decide +kernel
theorem dX7_page_30 : decode cX7_page 30 = .ok (.ireturn, 1) := by decide +kernel
theorem dX7_far_0 : decode cX7_far 0 = .ok (.iload_n 0, 1) := by decide +kernel
theorem dX7_far_1 : decode cX7_far 1 = .ok (.iload_n 1, 1) := by decide +kernel
theorem dX7_far_2 : decode cX7_far 2 = .ok (.if_icmp .le 9, 3) := by decide +kernel
theorem dX7_far_5 : decode cX7_far 5 = .ok (.iload_n 0, 1) := by decide +kernel
theorem dX7_far_6 : decode cX7_far 6 = .ok (.iload_n 1, 1) := by decide +kernel
theorem dX7_far_7 : decode cX7_far 7 = .ok (.isub, 1) := by decide +kernel
theorem dX7_far_8 : decode cX7_far 8 = .ok (.goto 6, 3) := by decide +kernel
theorem dX7_far_11 : decode cX7_far 11 = .ok (.iload_n 1, 1) := by decide +kernel
theorem dX7_far_12 : decode cX7_far 12 = .ok (.iload_n 0, 1) := by decide +kernel
theorem dX7_far_13 : decode cX7_far 13 = .ok (.isub, 1) := by decide +kernel
theorem dX7_far_14 : decode cX7_far 14 = .ok (.ireturn, 1) := by decide +kernel
theorem dX7_likesOf_0 : decode cX7_likesOf 0 = .ok (.aload_n 0, 1) := by decide +kernel
theorem dX7_likesOf_1 : decode cX7_likesOf 1 = .ok (.iload_n 2, 1) := by decide +kernel
theorem dX7_likesOf_2 : decode cX7_likesOf 2 = .ok (.iconst 0, 1) := by decide +kernel
theorem dX7_likesOf_3 : decode cX7_likesOf 3 = .ok (.invokevirtual 186, 3) := by decide +kernel
theorem dX7_likesOf_6 : decode cX7_likesOf 6 = .ok (.istore_n 3, 1) := by decide +kernel
theorem dX7_likesOf_7 : decode cX7_likesOf 7 = .ok (.aload_n 0, 1) := by decide +kernel
theorem dX7_likesOf_8 : decode cX7_likesOf 8 = .ok (.iload_n 2, 1) := by decide +kernel
theorem dX7_likesOf_9 : decode cX7_likesOf 9 = .ok (.iconst 1, 1) := by decide +kernel
theorem dX7_likesOf_10 : decode cX7_likesOf 10 = .ok (.invokevirtual 186, 3) := by decide +kernel
theorem dX7_likesOf_13 : decode cX7_likesOf 13 = .ok (.istore 4, 2) := by decide +kernel
theorem dX7_likesOf_15 : decode cX7_likesOf 15 = .ok (.bipush 20, 2) := by decide +kernel
theorem dX7_likesOf_17 : decode cX7_likesOf 17 = .ok (.iload_n 3, 1) := by decide +kernel
theorem dX7_likesOf_18 : decode cX7_likesOf 18 = .ok (.aload_n 0, 1) := by decide +kernel
theorem dX7_likesOf_19 : decode cX7_likesOf 19 = .ok (.getfield 7, 3) := by decide +kernel
theorem dX7_likesOf_22 : decode cX7_likesOf 22 = .ok (.bipush 8, 2) := by decide +kernel
theorem dX7_likesOf_24 : decode cX7_likesOf 24 = .ok (.iload_n 1, 1) := by decide +kernel
theorem dX7_likesOf_25 : decode cX7_likesOf 25 = .ok (.iadd, 1) := by decide +kernel
theorem dX7_likesOf_26 : decode cX7_likesOf 26 = .ok (.iaload, 1) := by decide +kernel
theorem dX7_likesOf_27 : decode cX7_likesOf 27 = .ok (.invokestatic 189, 3) := by decide +kernel
theorem dX7_likesOf_30 : decode cX7_likesOf 30 = .ok (.isub, 1) := by decide +kernel
theorem dX7_likesOf_31 : decode cX7_likesOf 31 = .ok (.iload 4, 2) := by decide +kernel
theorem dX7_likesOf_33 : decode cX7_likesOf 33 = .ok (.aload_n 0, 1) := by decide +kernel
theorem dX7_likesOf_34 : decode cX7_likesOf 34 = .ok (.getfield 7, 3) := by decide +kernel
theorem dX7_likesOf_37 : decode cX7_likesOf 37 = .ok (.bipush 16, 2) := by decide +kernel
theorem dX7_likesOf_39 : decode cX7_likesOf 39 = .ok (.iload_n 1, 1) := by decide +kernel
theorem dX7_likesOf_40 : decode cX7_likesOf 40 = .ok (.iadd, 1) := by decide +kernel
theorem dX7_likesOf_41 : decode cX7_likesOf 41 = .ok (.iaload, 1) := by decide +kernel
theorem dX7_likesOf_42 : decode cX7_likesOf 42 = .ok (.invokestatic 189, 3) := by decide +kernel
theorem dX7_likesOf_45 : decode cX7_likesOf 45 = .ok (.isub, 1) := by decide +kernel
theorem dX7_likesOf_46 : decode cX7_likesOf 46 = .ok (.istore 5, 2) := by decide +kernel
theorem dX7_likesOf_48 : decode cX7_likesOf 48 = .ok (.aload_n 0, 1) := by decide +kernel
theorem dX7_likesOf_49 : decode cX7_likesOf 49 = .ok (.getfield 7, 3) := by decide +kernel
theorem dX7_likesOf_52 : decode cX7_likesOf 52 = .ok (.iload_n 1, 1) := by decide +kernel
theorem dX7_likesOf_53 : decode cX7_likesOf 53 = .ok (.iaload, 1) := by decide +kernel
theorem dX7_likesOf_54 : decode cX7_likesOf 54 = .ok (.tableswitch 62 0 2 #[26, 29, 57], 26) := by decide +kernel
theorem dX7_likesOf_80 : decode cX7_likesOf 80 = .ok (.iload 5, 2) := by decide +kernel
theorem dX7_likesOf_82 : decode cX7_likesOf 82 = .ok (.ireturn, 1) := by decide +kernel
theorem dX7_likesOf_83 : decode cX7_likesOf 83 = .ok (.aload_n 0, 1) := by decide +kernel
theorem dX7_likesOf_84 : decode cX7_likesOf 84 = .ok (.iload_n 2, 1) := by decide +kernel
theorem dX7_likesOf_85 : decode cX7_likesOf 85 = .ok (.iconst 2, 1) := by decide +kernel
theorem dX7_likesOf_86 : decode cX7_likesOf 86 = .ok (.invokevirtual 186, 3) := by decide +kernel
theorem dX7_likesOf_89 : decode cX7_likesOf 89 = .ok (.aload_n 0, 1) := by decide +kernel
theorem dX7_likesOf_90 : decode cX7_likesOf 90 = .ok (.getfield 7, 3) := by decide +kernel
theorem dX7_likesOf_93 : decode cX7_likesOf 93 = .ok (.bipush 24, 2) := by decide +kernel
theorem dX7_likesOf_95 : decode cX7_likesOf 95 = .ok (.iload_n 1, 1) := by decide +kernel
theorem dX7_likesOf_96 : decode cX7_likesOf 96 = .ok (.iadd, 1) := by decide +kernel
theorem dX7_likesOf_97 : decode cX7_likesOf 97 = .ok (.iaload, 1) := by decide +kernel
theorem dX7_likesOf_98 : decode cX7_likesOf 98 = .ok (.if_icmp .ne 10, 3) := by decide +kernel
theorem dX7_likesOf_101 : decode cX7_likesOf 101 = .ok (.iload 5, 2) := by decide +kernel
theorem dX7_likesOf_103 : decode cX7_likesOf 103 = .ok (.iconst 3, 1) := by decide +kernel
theorem dX7_likesOf_104 : decode cX7_likesOf 104 = .ok (.iadd, 1) := by decide +kernel
theorem dX7_likesOf_105 : decode cX7_likesOf 105 = .ok (.goto 5, 3) := by decide +kernel
theorem dX7_likesOf_108 : decode cX7_likesOf 108 = .ok (.iload 5, 2) := by decide +kernel
theorem dX7_likesOf_110 : decode cX7_likesOf 110 = .ok (.ireturn, 1) := by decide +kernel
theorem dX7_likesOf_111 : decode cX7_likesOf 111 = .ok (.iload_n 3, 1) := by decide +kernel
theorem dX7_likesOf_112 : decode cX7_likesOf 112 = .ok (.iload 4, 2) := by decide +kernel
theorem dX7_likesOf_114 : decode cX7_likesOf 114 = .ok (.iadd, 1) := by decide +kernel
theorem dX7_likesOf_115 : decode cX7_likesOf 115 = .ok (.ireturn, 1) := by decide +kernel
theorem dX7_likesOf_116 : decode cX7_likesOf 116 = .ok (.bipush 20, 2) := by decide +kernel
theorem dX7_likesOf_118 : decode cX7_likesOf 118 = .ok (.iload_n 3, 1) := by decide +kernel
theorem dX7_likesOf_119 : decode cX7_likesOf 119 = .ok (.isub, 1) := by decide +kernel
theorem dX7_likesOf_120 : decode cX7_likesOf 120 = .ok (.iload 4, 2) := by decide +kernel
theorem dX7_likesOf_122 : decode cX7_likesOf 122 = .ok (.isub, 1) := by decide +kernel
theorem dX7_likesOf_123 : decode cX7_likesOf 123 = .ok (.ireturn, 1) := by decide +kernel
theorem dX7_likes_0 : decode cX7_likes 0 = .ok (.aload_n 0, 1) := by decide +kernel
theorem dX7_likes_1 : decode cX7_likes 1 = .ok (.iload_n 1, 1) := by decide +kernel
theorem dX7_likes_2 : decode cX7_likes 2 = .ok (.invokevirtual 158, 3) := by decide +kernel
theorem dX7_likes_5 : decode cX7_likes 5 = .ok (.ifCond .eq 29, 3) := by decide +kernel
theorem dX7_likes_8 : decode cX7_likes 8 = .ok (.aload_n 0, 1) := by decide +kernel
theorem dX7_likes_9 : decode cX7_likes 9 = .ok (.iload_n 2, 1) := by decide +kernel
theorem dX7_likes_10 : decode cX7_likes 10 = .ok (.invokevirtual 158, 3) := by decide +kernel
theorem dX7_likes_13 : decode cX7_likes 13 = .ok (.ifCond .eq 21, 3) := by decide +kernel
theorem dX7_likes_16 : decode cX7_likes 16 = .ok (.iload_n 1, 1) := by decide +kernel
theorem dX7_likes_17 : decode cX7_likes 17 = .ok (.iconst 4, 1) := by decide +kernel
theorem dX7_likes_18 : decode cX7_likes 18 = .ok (.idiv, 1) := by decide +kernel
theorem dX7_likes_19 : decode cX7_likes 19 = .ok (.iload_n 2, 1) := by decide +kernel
theorem dX7_likes_20 : decode cX7_likes 20 = .ok (.iconst 4, 1) := by decide +kernel
theorem dX7_likes_21 : decode cX7_likes 21 = .ok (.idiv, 1) := by decide +kernel
theorem dX7_likes_22 : decode cX7_likes 22 = .ok (.if_icmp .eq 12, 3) := by decide +kernel
theorem dX7_likes_25 : decode cX7_likes 25 = .ok (.aload_n 0, 1) := by decide +kernel
theorem dX7_likes_26 : decode cX7_likes 26 = .ok (.iload_n 1, 1) := by decide +kernel
theorem dX7_likes_27 : decode cX7_likes 27 = .ok (.iload_n 2, 1) := by decide +kernel
theorem dX7_likes_28 : decode cX7_likes 28 = .ok (.invokevirtual 192, 3) := by decide +kernel
theorem dX7_likes_31 : decode cX7_likes 31 = .ok (.goto 4, 3) := by decide +kernel
theorem dX7_likes_34 : decode cX7_likes 34 = .ok (.iconst (-1), 1) := by decide +kernel
theorem dX7_likes_35 : decode cX7_likes 35 = .ok (.ireturn, 1) := by decide +kernel
theorem dX7_laysTable_0 : decode cX7_laysTable 0 = .ok (.iconst 0, 1) := by decide +kernel
theorem dX7_laysTable_1 : decode cX7_laysTable 1 = .ok (.istore_n 2, 1) := by decide +kernel
theorem dX7_laysTable_2 : decode cX7_laysTable 2 = .ok (.iload_n 2, 1) := by decide +kernel
theorem dX7_laysTable_3 : decode cX7_laysTable 3 = .ok (.bipush 8, 2) := by decide +kernel
theorem dX7_laysTable_5 : decode cX7_laysTable 5 = .ok (.if_icmp .ge 106, 3) := by decide +kernel
theorem dX7_laysTable_8 : decode cX7_laysTable 8 = .ok (.iconst 0, 1) := by decide +kernel
theorem dX7_laysTable_9 : decode cX7_laysTable 9 = .ok (.istore_n 3, 1) := by decide +kernel
theorem dX7_laysTable_10 : decode cX7_laysTable 10 = .ok (.iload_n 3, 1) := by decide +kernel
theorem dX7_laysTable_11 : decode cX7_laysTable 11 = .ok (.bipush 8, 2) := by decide +kernel
theorem dX7_laysTable_13 : decode cX7_laysTable 13 = .ok (.if_icmp .ge 92, 3) := by decide +kernel
theorem dX7_laysTable_16 : decode cX7_laysTable 16 = .ok (.aload_n 0, 1) := by decide +kernel
theorem dX7_laysTable_17 : decode cX7_laysTable 17 = .ok (.iload_n 2, 1) := by decide +kernel
theorem dX7_laysTable_18 : decode cX7_laysTable 18 = .ok (.invokevirtual 158, 3) := by decide +kernel
theorem dX7_laysTable_21 : decode cX7_laysTable 21 = .ok (.ifCond .eq 49, 3) := by decide +kernel
theorem dX7_laysTable_24 : decode cX7_laysTable 24 = .ok (.aload_n 0, 1) := by decide +kernel
theorem dX7_laysTable_25 : decode cX7_laysTable 25 = .ok (.iload_n 3, 1) := by decide +kernel
theorem dX7_laysTable_26 : decode cX7_laysTable 26 = .ok (.invokevirtual 158, 3) := by decide +kernel
theorem dX7_laysTable_29 : decode cX7_laysTable 29 = .ok (.ifCond .eq 41, 3) := by decide +kernel
theorem dX7_laysTable_32 : decode cX7_laysTable 32 = .ok (.iload_n 2, 1) := by decide +kernel
theorem dX7_laysTable_33 : decode cX7_laysTable 33 = .ok (.iconst 4, 1) := by decide +kernel
theorem dX7_laysTable_34 : decode cX7_laysTable 34 = .ok (.idiv, 1) := by decide +kernel
theorem dX7_laysTable_35 : decode cX7_laysTable 35 = .ok (.iload_n 3, 1) := by decide +kernel
theorem dX7_laysTable_36 : decode cX7_laysTable 36 = .ok (.iconst 4, 1) := by decide +kernel
theorem dX7_laysTable_37 : decode cX7_laysTable 37 = .ok (.idiv, 1) := by decide +kernel
theorem dX7_laysTable_38 : decode cX7_laysTable 38 = .ok (.if_icmp .eq 32, 3) := by decide +kernel
theorem dX7_laysTable_41 : decode cX7_laysTable 41 = .ok (.iload_n 1, 1) := by decide +kernel
theorem dX7_laysTable_42 : decode cX7_laysTable 42 = .ok (.iload_n 2, 1) := by decide +kernel
theorem dX7_laysTable_43 : decode cX7_laysTable 43 = .ok (.ishr, 1) := by decide +kernel
theorem dX7_laysTable_44 : decode cX7_laysTable 44 = .ok (.iconst 1, 1) := by decide +kernel
theorem dX7_laysTable_45 : decode cX7_laysTable 45 = .ok (.iand, 1) := by decide +kernel
theorem dX7_laysTable_46 : decode cX7_laysTable 46 = .ok (.ifCond .ne 24, 3) := by decide +kernel
theorem dX7_laysTable_49 : decode cX7_laysTable 49 = .ok (.iload_n 1, 1) := by decide +kernel
theorem dX7_laysTable_50 : decode cX7_laysTable 50 = .ok (.iload_n 3, 1) := by decide +kernel
theorem dX7_laysTable_51 : decode cX7_laysTable 51 = .ok (.ishr, 1) := by decide +kernel
theorem dX7_laysTable_52 : decode cX7_laysTable 52 = .ok (.iconst 1, 1) := by decide +kernel
theorem dX7_laysTable_53 : decode cX7_laysTable 53 = .ok (.iand, 1) := by decide +kernel
theorem dX7_laysTable_54 : decode cX7_laysTable 54 = .ok (.ifCond .ne 16, 3) := by decide +kernel
theorem dX7_laysTable_57 : decode cX7_laysTable 57 = .ok (.aload_n 0, 1) := by decide +kernel
theorem dX7_laysTable_58 : decode cX7_laysTable 58 = .ok (.iload_n 2, 1) := by decide +kernel
theorem dX7_laysTable_59 : decode cX7_laysTable 59 = .ok (.iload_n 3, 1) := by decide +kernel
theorem dX7_laysTable_60 : decode cX7_laysTable 60 = .ok (.invokevirtual 168, 3) := by decide +kernel
theorem dX7_laysTable_63 : decode cX7_laysTable 63 = .ok (.ifCond .ne 7, 3) := by decide +kernel
theorem dX7_laysTable_66 : decode cX7_laysTable 66 = .ok (.iconst 1, 1) := by decide +kernel
theorem dX7_laysTable_67 : decode cX7_laysTable 67 = .ok (.goto 4, 3) := by decide +kernel
theorem dX7_laysTable_70 : decode cX7_laysTable 70 = .ok (.iconst 0, 1) := by decide +kernel
theorem dX7_laysTable_71 : decode cX7_laysTable 71 = .ok (.istore 4, 2) := by decide +kernel
theorem dX7_laysTable_73 : decode cX7_laysTable 73 = .ok (.aload_n 0, 1) := by decide +kernel
theorem dX7_laysTable_74 : decode cX7_laysTable 74 = .ok (.getfield 25, 3) := by decide +kernel
theorem dX7_laysTable_77 : decode cX7_laysTable 77 = .ok (.bipush 8, 2) := by decide +kernel
theorem dX7_laysTable_79 : decode cX7_laysTable 79 = .ok (.iload_n 2, 1) := by decide +kernel
theorem dX7_laysTable_80 : decode cX7_laysTable 80 = .ok (.imul, 1) := by decide +kernel
theorem dX7_laysTable_81 : decode cX7_laysTable 81 = .ok (.iload_n 3, 1) := by decide +kernel
theorem dX7_laysTable_82 : decode cX7_laysTable 82 = .ok (.iadd, 1) := by decide +kernel
theorem dX7_laysTable_83 : decode cX7_laysTable 83 = .ok (.iload 4, 2) := by decide +kernel
theorem dX7_laysTable_85 : decode cX7_laysTable 85 = .ok (.ifCond .eq 12, 3) := by decide +kernel
theorem dX7_laysTable_88 : decode cX7_laysTable 88 = .ok (.aload_n 0, 1) := by decide +kernel
theorem dX7_laysTable_89 : decode cX7_laysTable 89 = .ok (.iload_n 2, 1) := by decide +kernel
theorem dX7_laysTable_90 : decode cX7_laysTable 90 = .ok (.iload_n 3, 1) := by decide +kernel
theorem dX7_laysTable_91 : decode cX7_laysTable 91 = .ok (.invokevirtual 192, 3) := by decide +kernel
theorem dX7_laysTable_94 : decode cX7_laysTable 94 = .ok (.goto 4, 3) := by decide +kernel
theorem dX7_laysTable_97 : decode cX7_laysTable 97 = .ok (.iconst (-1), 1) := by decide +kernel
theorem dX7_laysTable_98 : decode cX7_laysTable 98 = .ok (.iastore, 1) := by decide +kernel
theorem dX7_laysTable_99 : decode cX7_laysTable 99 = .ok (.iinc 3 1, 3) := by decide +kernel
theorem dX7_laysTable_102 : decode cX7_laysTable 102 = .ok (.goto (-92), 3) := by decide +kernel
theorem dX7_laysTable_105 : decode cX7_laysTable 105 = .ok (.iinc 2 1, 3) := by decide +kernel
theorem dX7_laysTable_108 : decode cX7_laysTable 108 = .ok (.goto (-106), 3) := by decide +kernel
theorem dX7_laysTable_111 : decode cX7_laysTable 111 = .ok (.return_, 1) := by decide +kernel
theorem dX7_isRather_0 : decode cX7_isRather 0 = .ok (.aload_n 0, 1) := by decide +kernel
theorem dX7_isRather_1 : decode cX7_isRather 1 = .ok (.getfield 25, 3) := by decide +kernel
theorem dX7_isRather_4 : decode cX7_isRather 4 = .ok (.bipush 8, 2) := by decide +kernel
theorem dX7_isRather_6 : decode cX7_isRather 6 = .ok (.iload_n 1, 1) := by decide +kernel
theorem dX7_isRather_7 : decode cX7_isRather 7 = .ok (.imul, 1) := by decide +kernel
theorem dX7_isRather_8 : decode cX7_isRather 8 = .ok (.iload_n 2, 1) := by decide +kernel
theorem dX7_isRather_9 : decode cX7_isRather 9 = .ok (.iadd, 1) := by decide +kernel
theorem dX7_isRather_10 : decode cX7_isRather 10 = .ok (.iaload, 1) := by decide +kernel
theorem dX7_isRather_11 : decode cX7_isRather 11 = .ok (.istore 4, 2) := by decide +kernel
theorem dX7_isRather_13 : decode cX7_isRather 13 = .ok (.iload 4, 2) := by decide +kernel
theorem dX7_isRather_15 : decode cX7_isRather 15 = .ok (.ifCond .ge 5, 3) := by decide +kernel
theorem dX7_isRather_18 : decode cX7_isRather 18 = .ok (.iconst 0, 1) := by decide +kernel
theorem dX7_isRather_19 : decode cX7_isRather 19 = .ok (.ireturn, 1) := by decide +kernel
theorem dX7_isRather_20 : decode cX7_isRather 20 = .ok (.iload_n 3, 1) := by decide +kernel
theorem dX7_isRather_21 : decode cX7_isRather 21 = .ok (.bipush (-4), 2) := by decide +kernel
theorem dX7_isRather_23 : decode cX7_isRather 23 = .ok (.if_icmp .ne 7, 3) := by decide +kernel
theorem dX7_isRather_26 : decode cX7_isRather 26 = .ok (.iconst (-1), 1) := by decide +kernel
theorem dX7_isRather_27 : decode cX7_isRather 27 = .ok (.goto 14, 3) := by decide +kernel
theorem dX7_isRather_30 : decode cX7_isRather 30 = .ok (.aload_n 0, 1) := by decide +kernel
theorem dX7_isRather_31 : decode cX7_isRather 31 = .ok (.getfield 25, 3) := by decide +kernel
theorem dX7_isRather_34 : decode cX7_isRather 34 = .ok (.bipush 8, 2) := by decide +kernel
theorem dX7_isRather_36 : decode cX7_isRather 36 = .ok (.iload_n 1, 1) := by decide +kernel
theorem dX7_isRather_37 : decode cX7_isRather 37 = .ok (.imul, 1) := by decide +kernel
theorem dX7_isRather_38 : decode cX7_isRather 38 = .ok (.iload_n 3, 1) := by decide +kernel
theorem dX7_isRather_39 : decode cX7_isRather 39 = .ok (.iadd, 1) := by decide +kernel
theorem dX7_isRather_40 : decode cX7_isRather 40 = .ok (.iaload, 1) := by decide +kernel
theorem dX7_isRather_41 : decode cX7_isRather 41 = .ok (.istore 5, 2) := by decide +kernel
theorem dX7_isRather_43 : decode cX7_isRather 43 = .ok (.iload 4, 2) := by decide +kernel
theorem dX7_isRather_45 : decode cX7_isRather 45 = .ok (.iload 5, 2) := by decide +kernel
theorem dX7_isRather_47 : decode cX7_isRather 47 = .ok (.if_icmp .gt 15, 3) := by decide +kernel
theorem dX7_isRather_50 : decode cX7_isRather 50 = .ok (.iload 4, 2) := by decide +kernel
theorem dX7_isRather_52 : decode cX7_isRather 52 = .ok (.iload 5, 2) := by decide +kernel
theorem dX7_isRather_54 : decode cX7_isRather 54 = .ok (.if_icmp .ne 12, 3) := by decide +kernel
theorem dX7_isRather_57 : decode cX7_isRather 57 = .ok (.iload_n 2, 1) := by decide +kernel
theorem dX7_isRather_58 : decode cX7_isRather 58 = .ok (.iload_n 3, 1) := by decide +kernel
theorem dX7_isRather_59 : decode cX7_isRather 59 = .ok (.if_icmp .ge 7, 3) := by decide +kernel
theorem dX7_isRather_62 : decode cX7_isRather 62 = .ok (.iconst 1, 1) := by decide +kernel
theorem dX7_isRather_63 : decode cX7_isRather 63 = .ok (.goto 4, 3) := by decide +kernel
theorem dX7_isRather_66 : decode cX7_isRather 66 = .ok (.iconst 0, 1) := by decide +kernel
theorem dX7_isRather_67 : decode cX7_isRather 67 = .ok (.ireturn, 1) := by decide +kernel
theorem dX7_rather_0 : decode cX7_rather 0 = .ok (.aload_n 0, 1) := by decide +kernel
theorem dX7_rather_1 : decode cX7_rather 1 = .ok (.iload_n 1, 1) := by decide +kernel
theorem dX7_rather_2 : decode cX7_rather 2 = .ok (.invokevirtual 158, 3) := by decide +kernel
theorem dX7_rather_5 : decode cX7_rather 5 = .ok (.ifCond .eq 7, 3) := by decide +kernel
theorem dX7_rather_8 : decode cX7_rather 8 = .ok (.iload_n 2, 1) := by decide +kernel
theorem dX7_rather_9 : decode cX7_rather 9 = .ok (.ifCond .ge 5, 3) := by decide +kernel
theorem dX7_rather_12 : decode cX7_rather 12 = .ok (.iconst (-1), 1) := by decide +kernel
theorem dX7_rather_13 : decode cX7_rather 13 = .ok (.ireturn, 1) := by decide +kernel
theorem dX7_rather_14 : decode cX7_rather 14 = .ok (.aload_n 0, 1) := by decide +kernel
theorem dX7_rather_15 : decode cX7_rather 15 = .ok (.iconst 0, 1) := by decide +kernel
theorem dX7_rather_16 : decode cX7_rather 16 = .ok (.invokevirtual 195, 3) := by decide +kernel
theorem dX7_rather_19 : decode cX7_rather 19 = .ok (.iconst 0, 1) := by decide +kernel
theorem dX7_rather_20 : decode cX7_rather 20 = .ok (.istore_n 3, 1) := by decide +kernel
theorem dX7_rather_21 : decode cX7_rather 21 = .ok (.iload_n 3, 1) := by decide +kernel
theorem dX7_rather_22 : decode cX7_rather 22 = .ok (.bipush 8, 2) := by decide +kernel
theorem dX7_rather_24 : decode cX7_rather 24 = .ok (.if_icmp .ge 77, 3) := by decide +kernel
theorem dX7_rather_27 : decode cX7_rather 27 = .ok (.iconst 0, 1) := by decide +kernel
theorem dX7_rather_28 : decode cX7_rather 28 = .ok (.istore 4, 2) := by decide +kernel
theorem dX7_rather_30 : decode cX7_rather 30 = .ok (.iconst 0, 1) := by decide +kernel
theorem dX7_rather_31 : decode cX7_rather 31 = .ok (.istore 5, 2) := by decide +kernel
theorem dX7_rather_33 : decode cX7_rather 33 = .ok (.iload 5, 2) := by decide +kernel
theorem dX7_rather_35 : decode cX7_rather 35 = .ok (.bipush 8, 2) := by decide +kernel
theorem dX7_rather_37 : decode cX7_rather 37 = .ok (.if_icmp .ge 36, 3) := by decide +kernel
theorem dX7_rather_40 : decode cX7_rather 40 = .ok (.iload 4, 2) := by decide +kernel
theorem dX7_rather_42 : decode cX7_rather 42 = .ok (.iload 5, 2) := by decide +kernel
theorem dX7_rather_44 : decode cX7_rather 44 = .ok (.iload_n 3, 1) := by decide +kernel
theorem dX7_rather_45 : decode cX7_rather 45 = .ok (.if_icmp .eq 18, 3) := by decide +kernel
theorem dX7_rather_48 : decode cX7_rather 48 = .ok (.aload_n 0, 1) := by decide +kernel
theorem dX7_rather_49 : decode cX7_rather 49 = .ok (.iload_n 1, 1) := by decide +kernel
theorem dX7_rather_50 : decode cX7_rather 50 = .ok (.iload 5, 2) := by decide +kernel
theorem dX7_rather_52 : decode cX7_rather 52 = .ok (.iload_n 3, 1) := by decide +kernel
theorem dX7_rather_53 : decode cX7_rather 53 = .ok (.invokevirtual 198, 3) := by decide +kernel
theorem dX7_rather_56 : decode cX7_rather 56 = .ok (.ifCond .eq 7, 3) := by decide +kernel
theorem dX7_rather_59 : decode cX7_rather 59 = .ok (.iconst 1, 1) := by decide +kernel
theorem dX7_rather_60 : decode cX7_rather 60 = .ok (.goto 4, 3) := by decide +kernel
theorem dX7_rather_63 : decode cX7_rather 63 = .ok (.iconst 0, 1) := by decide +kernel
theorem dX7_rather_64 : decode cX7_rather 64 = .ok (.iadd, 1) := by decide +kernel
theorem dX7_rather_65 : decode cX7_rather 65 = .ok (.istore 4, 2) := by decide +kernel
theorem dX7_rather_67 : decode cX7_rather 67 = .ok (.iinc 5 1, 3) := by decide +kernel
theorem dX7_rather_70 : decode cX7_rather 70 = .ok (.goto (-37), 3) := by decide +kernel
theorem dX7_rather_73 : decode cX7_rather 73 = .ok (.aload_n 0, 1) := by decide +kernel
theorem dX7_rather_74 : decode cX7_rather 74 = .ok (.getfield 25, 3) := by decide +kernel
theorem dX7_rather_77 : decode cX7_rather 77 = .ok (.bipush 8, 2) := by decide +kernel
theorem dX7_rather_79 : decode cX7_rather 79 = .ok (.iload_n 1, 1) := by decide +kernel
theorem dX7_rather_80 : decode cX7_rather 80 = .ok (.imul, 1) := by decide +kernel
theorem dX7_rather_81 : decode cX7_rather 81 = .ok (.iload_n 3, 1) := by decide +kernel
theorem dX7_rather_82 : decode cX7_rather 82 = .ok (.iadd, 1) := by decide +kernel
theorem dX7_rather_83 : decode cX7_rather 83 = .ok (.iaload, 1) := by decide +kernel
theorem dX7_rather_84 : decode cX7_rather 84 = .ok (.ifCond .lt 11, 3) := by decide +kernel
theorem dX7_rather_87 : decode cX7_rather 87 = .ok (.iload 4, 2) := by decide +kernel
theorem dX7_rather_89 : decode cX7_rather 89 = .ok (.iload_n 2, 1) := by decide +kernel
theorem dX7_rather_90 : decode cX7_rather 90 = .ok (.if_icmp .ne 5, 3) := by decide +kernel
theorem dX7_rather_93 : decode cX7_rather 93 = .ok (.iload_n 3, 1) := by decide +kernel
theorem dX7_rather_94 : decode cX7_rather 94 = .ok (.ireturn, 1) := by decide +kernel
theorem dX7_rather_95 : decode cX7_rather 95 = .ok (.iinc 3 1, 3) := by decide +kernel
theorem dX7_rather_98 : decode cX7_rather 98 = .ok (.goto (-77), 3) := by decide +kernel
theorem dX7_rather_101 : decode cX7_rather 101 = .ok (.bipush (-4), 2) := by decide +kernel
theorem dX7_rather_103 : decode cX7_rather 103 = .ok (.ireturn, 1) := by decide +kernel
theorem dX7_puts_0 : decode cX7_puts 0 = .ok (.iload_n 1, 1) := by decide +kernel
theorem dX7_puts_1 : decode cX7_puts 1 = .ok (.ifCond .ne 5, 3) := by decide +kernel
theorem dX7_puts_4 : decode cX7_puts 4 = .ok (.iconst (-1), 1) := by decide +kernel
theorem dX7_puts_5 : decode cX7_puts 5 = .ok (.ireturn, 1) := by decide +kernel
theorem dX7_puts_6 : decode cX7_puts 6 = .ok (.aload_n 0, 1) := by decide +kernel
theorem dX7_puts_7 : decode cX7_puts 7 = .ok (.getfield 7, 3) := by decide +kernel
theorem dX7_puts_10 : decode cX7_puts 10 = .ok (.iload_n 2, 1) := by decide +kernel
theorem dX7_puts_11 : decode cX7_puts 11 = .ok (.iaload, 1) := by decide +kernel
theorem dX7_puts_12 : decode cX7_puts 12 = .ok (.iload 4, 2) := by decide +kernel
theorem dX7_puts_14 : decode cX7_puts 14 = .ok (.iadd, 1) := by decide +kernel
theorem dX7_puts_15 : decode cX7_puts 15 = .ok (.istore 5, 2) := by decide +kernel
theorem dX7_puts_17 : decode cX7_puts 17 = .ok (.aload_n 0, 1) := by decide +kernel
theorem dX7_puts_18 : decode cX7_puts 18 = .ok (.getfield 7, 3) := by decide +kernel
theorem dX7_puts_21 : decode cX7_puts 21 = .ok (.iload_n 2, 1) := by decide +kernel
theorem dX7_puts_22 : decode cX7_puts 22 = .ok (.iload_n 3, 1) := by decide +kernel
theorem dX7_puts_23 : decode cX7_puts 23 = .ok (.iload 4, 2) := by decide +kernel
theorem dX7_puts_25 : decode cX7_puts 25 = .ok (.isub, 1) := by decide +kernel
theorem dX7_puts_26 : decode cX7_puts 26 = .ok (.iastore, 1) := by decide +kernel
theorem dX7_puts_27 : decode cX7_puts 27 = .ok (.iload 5, 2) := by decide +kernel
theorem dX7_puts_29 : decode cX7_puts 29 = .ok (.ireturn, 1) := by decide +kernel
theorem dX7_pens_0 : decode cX7_pens 0 = .ok (.aload_n 0, 1) := by decide +kernel
theorem dX7_pens_1 : decode cX7_pens 1 = .ok (.aload_n 0, 1) := by decide +kernel
theorem dX7_pens_2 : decode cX7_pens 2 = .ok (.iload_n 1, 1) := by decide +kernel
theorem dX7_pens_3 : decode cX7_pens 3 = .ok (.invokevirtual 158, 3) := by decide +kernel
theorem dX7_pens_6 : decode cX7_pens 6 = .ok (.ifCond .eq 15, 3) := by decide +kernel
theorem dX7_pens_9 : decode cX7_pens 9 = .ok (.aload_n 0, 1) := by decide +kernel
theorem dX7_pens_10 : decode cX7_pens 10 = .ok (.iload_n 2, 1) := by decide +kernel
theorem dX7_pens_11 : decode cX7_pens 11 = .ok (.invokevirtual 158, 3) := by decide +kernel
theorem dX7_pens_14 : decode cX7_pens 14 = .ok (.ifCond .eq 7, 3) := by decide +kernel
theorem dX7_pens_17 : decode cX7_pens 17 = .ok (.iconst 1, 1) := by decide +kernel
theorem dX7_pens_18 : decode cX7_pens 18 = .ok (.goto 4, 3) := by decide +kernel
theorem dX7_pens_21 : decode cX7_pens 21 = .ok (.iconst 0, 1) := by decide +kernel
theorem dX7_pens_22 : decode cX7_pens 22 = .ok (.bipush 32, 2) := by decide +kernel
theorem dX7_pens_24 : decode cX7_pens 24 = .ok (.iload_n 1, 1) := by decide +kernel
theorem dX7_pens_25 : decode cX7_pens 25 = .ok (.iadd, 1) := by decide +kernel
theorem dX7_pens_26 : decode cX7_pens 26 = .ok (.iload_n 2, 1) := by decide +kernel
theorem dX7_pens_27 : decode cX7_pens 27 = .ok (.iload_n 1, 1) := by decide +kernel
theorem dX7_pens_28 : decode cX7_pens 28 = .ok (.invokevirtual 202, 3) := by decide +kernel
theorem dX7_pens_31 : decode cX7_pens 31 = .ok (.ireturn, 1) := by decide +kernel
theorem dX7_alter_0 : decode cX7_alter 0 = .ok (.aload_n 0, 1) := by decide +kernel
theorem dX7_alter_1 : decode cX7_alter 1 = .ok (.iload_n 1, 1) := by decide +kernel
theorem dX7_alter_2 : decode cX7_alter 2 = .ok (.invokevirtual 158, 3) := by decide +kernel
theorem dX7_alter_5 : decode cX7_alter 5 = .ok (.ifCond .eq 15, 3) := by decide +kernel
theorem dX7_alter_8 : decode cX7_alter 8 = .ok (.iload_n 2, 1) := by decide +kernel
theorem dX7_alter_9 : decode cX7_alter 9 = .ok (.i2l, 1) := by decide +kernel
theorem dX7_alter_10 : decode cX7_alter 10 = .ok (.lconst 0, 1) := by decide +kernel
theorem dX7_alter_11 : decode cX7_alter 11 = .ok (.ldc2_w 156, 3) := by decide +kernel
theorem dX7_alter_14 : decode cX7_alter 14 = .ok (.invokestatic 58, 3) := by decide +kernel
theorem dX7_alter_17 : decode cX7_alter 17 = .ok (.ifCond .ne 5, 3) := by decide +kernel
theorem dX7_alter_20 : decode cX7_alter 20 = .ok (.iconst (-1), 1) := by decide +kernel
theorem dX7_alter_21 : decode cX7_alter 21 = .ok (.ireturn, 1) := by decide +kernel
theorem dX7_alter_22 : decode cX7_alter 22 = .ok (.iload_n 2, 1) := by decide +kernel
theorem dX7_alter_23 : decode cX7_alter 23 = .ok (.iconst 4, 1) := by decide +kernel
theorem dX7_alter_24 : decode cX7_alter 24 = .ok (.if_icmp .ne 10, 3) := by decide +kernel
theorem dX7_alter_27 : decode cX7_alter 27 = .ok (.aload_n 0, 1) := by decide +kernel
theorem dX7_alter_28 : decode cX7_alter 28 = .ok (.iload_n 1, 1) := by decide +kernel
theorem dX7_alter_29 : decode cX7_alter 29 = .ok (.iload_n 3, 1) := by decide +kernel
theorem dX7_alter_30 : decode cX7_alter 30 = .ok (.invokevirtual 206, 3) := by decide +kernel
theorem dX7_alter_33 : decode cX7_alter 33 = .ok (.ireturn, 1) := by decide +kernel
theorem dX7_alter_34 : decode cX7_alter 34 = .ok (.aload_n 0, 1) := by decide +kernel
theorem dX7_alter_35 : decode cX7_alter 35 = .ok (.iload_n 3, 1) := by decide +kernel
theorem dX7_alter_36 : decode cX7_alter 36 = .ok (.i2l, 1) := by decide +kernel
theorem dX7_alter_37 : decode cX7_alter 37 = .ok (.lconst 0, 1) := by decide +kernel
theorem dX7_alter_38 : decode cX7_alter 38 = .ok (.iload_n 2, 1) := by decide +kernel
theorem dX7_alter_39 : decode cX7_alter 39 = .ok (.ifCond .ne 9, 3) := by decide +kernel
theorem dX7_alter_42 : decode cX7_alter 42 = .ok (.ldc2_w 209, 3) := by decide +kernel
theorem dX7_alter_45 : decode cX7_alter 45 = .ok (.goto 17, 3) := by decide +kernel
theorem dX7_alter_48 : decode cX7_alter 48 = .ok (.iload_n 2, 1) := by decide +kernel
theorem dX7_alter_49 : decode cX7_alter 49 = .ok (.iconst 3, 1) := by decide +kernel
theorem dX7_alter_50 : decode cX7_alter 50 = .ok (.if_icmp .ne 9, 3) := by decide +kernel
theorem dX7_alter_53 : decode cX7_alter 53 = .ok (.ldc2_w 184, 3) := by decide +kernel
theorem dX7_alter_56 : decode cX7_alter 56 = .ok (.goto 6, 3) := by decide +kernel
theorem dX7_alter_59 : decode cX7_alter 59 = .ok (.ldc2_w 211, 3) := by decide +kernel
theorem dX7_alter_62 : decode cX7_alter 62 = .ok (.invokestatic 58, 3) := by decide +kernel
theorem dX7_alter_65 : decode cX7_alter 65 = .ok (.bipush 8, 2) := by decide +kernel
theorem dX7_alter_67 : decode cX7_alter 67 = .ok (.iload_n 2, 1) := by decide +kernel
theorem dX7_alter_68 : decode cX7_alter 68 = .ok (.imul, 1) := by decide +kernel
theorem dX7_alter_69 : decode cX7_alter 69 = .ok (.iload_n 1, 1) := by decide +kernel
theorem dX7_alter_70 : decode cX7_alter 70 = .ok (.iadd, 1) := by decide +kernel
theorem dX7_alter_71 : decode cX7_alter 71 = .ok (.iload_n 3, 1) := by decide +kernel
theorem dX7_alter_72 : decode cX7_alter 72 = .ok (.iconst 0, 1) := by decide +kernel
theorem dX7_alter_73 : decode cX7_alter 73 = .ok (.invokevirtual 202, 3) := by decide +kernel
theorem dX7_alter_76 : decode cX7_alter 76 = .ok (.ireturn, 1) := by decide +kernel
theorem dX7_run_0 : decode cX7_run 0 = .ok (.aload_n 0, 1) := by decide +kernel
theorem dX7_run_1 : decode cX7_run 1 = .ok (.iload_n 1, 1) := by decide +kernel
theorem dX7_run_2 : decode cX7_run 2 = .ok (.invokevirtual 158, 3) := by decide +kernel
theorem dX7_run_5 : decode cX7_run 5 = .ok (.ifCond .ne 5, 3) := by decide +kernel
theorem dX7_run_8 : decode cX7_run 8 = .ok (.iconst (-1), 1) := by decide +kernel
theorem dX7_run_9 : decode cX7_run 9 = .ok (.ireturn, 1) := by decide +kernel
theorem dX7_run_10 : decode cX7_run 10 = .ok (.aload_n 0, 1) := by decide +kernel
theorem dX7_run_11 : decode cX7_run 11 = .ok (.getfield 7, 3) := by decide +kernel
theorem dX7_run_14 : decode cX7_run 14 = .ok (.bipush 44, 2) := by decide +kernel
theorem dX7_run_16 : decode cX7_run 16 = .ok (.iaload, 1) := by decide +kernel
theorem dX7_run_17 : decode cX7_run 17 = .ok (.iload_n 1, 1) := by decide +kernel
theorem dX7_run_18 : decode cX7_run 18 = .ok (.ishr, 1) := by decide +kernel
theorem dX7_run_19 : decode cX7_run 19 = .ok (.iconst 1, 1) := by decide +kernel
theorem dX7_run_20 : decode cX7_run 20 = .ok (.iand, 1) := by decide +kernel
theorem dX7_run_21 : decode cX7_run 21 = .ok (.istore_n 3, 1) := by decide +kernel
theorem dX7_run_22 : decode cX7_run 22 = .ok (.aload_n 0, 1) := by decide +kernel
theorem dX7_run_23 : decode cX7_run 23 = .ok (.getfield 7, 3) := by decide +kernel
theorem dX7_run_26 : decode cX7_run 26 = .ok (.bipush 44, 2) := by decide +kernel
theorem dX7_run_28 : decode cX7_run 28 = .ok (.aload_n 0, 1) := by decide +kernel
theorem dX7_run_29 : decode cX7_run 29 = .ok (.getfield 7, 3) := by decide +kernel
theorem dX7_run_32 : decode cX7_run 32 = .ok (.bipush 44, 2) := by decide +kernel
theorem dX7_run_34 : decode cX7_run 34 = .ok (.iaload, 1) := by decide +kernel
theorem dX7_run_35 : decode cX7_run 35 = .ok (.iconst 1, 1) := by decide +kernel
theorem dX7_run_36 : decode cX7_run 36 = .ok (.iload_n 1, 1) := by decide +kernel
theorem dX7_run_37 : decode cX7_run 37 = .ok (.ishl, 1) := by decide +kernel
theorem dX7_run_38 : decode cX7_run 38 = .ok (.iconst (-1), 1) := by decide +kernel
theorem dX7_run_39 : decode cX7_run 39 = .ok (.ixor, 1) := by decide +kernel
theorem dX7_run_40 : decode cX7_run 40 = .ok (.iand, 1) := by decide +kernel
theorem dX7_run_41 : decode cX7_run 41 = .ok (.iload_n 2, 1) := by decide +kernel
theorem dX7_run_42 : decode cX7_run 42 = .ok (.ifCond .eq 9, 3) := by decide +kernel
theorem dX7_run_45 : decode cX7_run 45 = .ok (.iconst 1, 1) := by decide +kernel
theorem dX7_run_46 : decode cX7_run 46 = .ok (.iload_n 1, 1) := by decide +kernel
theorem dX7_run_47 : decode cX7_run 47 = .ok (.ishl, 1) := by decide +kernel
theorem dX7_run_48 : decode cX7_run 48 = .ok (.goto 4, 3) := by decide +kernel
theorem dX7_run_51 : decode cX7_run 51 = .ok (.iconst 0, 1) := by decide +kernel
theorem dX7_run_52 : decode cX7_run 52 = .ok (.ior, 1) := by decide +kernel
theorem dX7_run_53 : decode cX7_run 53 = .ok (.iastore, 1) := by decide +kernel
theorem dX7_run_54 : decode cX7_run 54 = .ok (.iload_n 3, 1) := by decide +kernel
theorem dX7_run_55 : decode cX7_run 55 = .ok (.ireturn, 1) := by decide +kernel
theorem dX7_fold_0 : decode cX7_fold 0 = .ok (.aload_n 0, 1) := by decide +kernel
theorem dX7_fold_1 : decode cX7_fold 1 = .ok (.iload_n 1, 1) := by decide +kernel
theorem dX7_fold_2 : decode cX7_fold 2 = .ok (.iload_n 2, 1) := by decide +kernel
theorem dX7_fold_3 : decode cX7_fold 3 = .ok (.invokevirtual 213, 3) := by decide +kernel
theorem dX7_fold_6 : decode cX7_fold 6 = .ok (.ifCond .ne 5, 3) := by decide +kernel
theorem dX7_fold_9 : decode cX7_fold 9 = .ok (.iconst (-1), 1) := by decide +kernel
theorem dX7_fold_10 : decode cX7_fold 10 = .ok (.ireturn, 1) := by decide +kernel
theorem dX7_fold_11 : decode cX7_fold 11 = .ok (.aload_n 0, 1) := by decide +kernel
theorem dX7_fold_12 : decode cX7_fold 12 = .ok (.getfield 7, 3) := by decide +kernel
theorem dX7_fold_15 : decode cX7_fold 15 = .ok (.bipush 40, 2) := by decide +kernel
theorem dX7_fold_17 : decode cX7_fold 17 = .ok (.iload_n 1, 1) := by decide +kernel
theorem dX7_fold_18 : decode cX7_fold 18 = .ok (.iadd, 1) := by decide +kernel
theorem dX7_fold_19 : decode cX7_fold 19 = .ok (.iaload, 1) := by decide +kernel
theorem dX7_fold_20 : decode cX7_fold 20 = .ok (.iload_n 2, 1) := by decide +kernel
theorem dX7_fold_21 : decode cX7_fold 21 = .ok (.ishr, 1) := by decide +kernel
theorem dX7_fold_22 : decode cX7_fold 22 = .ok (.iconst 1, 1) := by decide +kernel
theorem dX7_fold_23 : decode cX7_fold 23 = .ok (.iand, 1) := by decide +kernel
theorem dX7_fold_24 : decode cX7_fold 24 = .ok (.istore 4, 2) := by decide +kernel
theorem dX7_fold_26 : decode cX7_fold 26 = .ok (.aload_n 0, 1) := by decide +kernel
theorem dX7_fold_27 : decode cX7_fold 27 = .ok (.getfield 7, 3) := by decide +kernel
theorem dX7_fold_30 : decode cX7_fold 30 = .ok (.bipush 40, 2) := by decide +kernel
theorem dX7_fold_32 : decode cX7_fold 32 = .ok (.iload_n 1, 1) := by decide +kernel
theorem dX7_fold_33 : decode cX7_fold 33 = .ok (.iadd, 1) := by decide +kernel
theorem dX7_fold_34 : decode cX7_fold 34 = .ok (.aload_n 0, 1) := by decide +kernel
theorem dX7_fold_35 : decode cX7_fold 35 = .ok (.getfield 7, 3) := by decide +kernel
theorem dX7_fold_38 : decode cX7_fold 38 = .ok (.bipush 40, 2) := by decide +kernel
theorem dX7_fold_40 : decode cX7_fold 40 = .ok (.iload_n 1, 1) := by decide +kernel
theorem dX7_fold_41 : decode cX7_fold 41 = .ok (.iadd, 1) := by decide +kernel
theorem dX7_fold_42 : decode cX7_fold 42 = .ok (.iaload, 1) := by decide +kernel
theorem dX7_fold_43 : decode cX7_fold 43 = .ok (.iconst 1, 1) := by decide +kernel
theorem dX7_fold_44 : decode cX7_fold 44 = .ok (.iload_n 2, 1) := by decide +kernel
theorem dX7_fold_45 : decode cX7_fold 45 = .ok (.ishl, 1) := by decide +kernel
theorem dX7_fold_46 : decode cX7_fold 46 = .ok (.iconst (-1), 1) := by decide +kernel
theorem dX7_fold_47 : decode cX7_fold 47 = .ok (.ixor, 1) := by decide +kernel
theorem dX7_fold_48 : decode cX7_fold 48 = .ok (.iand, 1) := by decide +kernel
theorem dX7_fold_49 : decode cX7_fold 49 = .ok (.iload_n 3, 1) := by decide +kernel
theorem dX7_fold_50 : decode cX7_fold 50 = .ok (.ifCond .eq 9, 3) := by decide +kernel
theorem dX7_fold_53 : decode cX7_fold 53 = .ok (.iconst 1, 1) := by decide +kernel
theorem dX7_fold_54 : decode cX7_fold 54 = .ok (.iload_n 2, 1) := by decide +kernel
theorem dX7_fold_55 : decode cX7_fold 55 = .ok (.ishl, 1) := by decide +kernel
theorem dX7_fold_56 : decode cX7_fold 56 = .ok (.goto 4, 3) := by decide +kernel
theorem dX7_fold_59 : decode cX7_fold 59 = .ok (.iconst 0, 1) := by decide +kernel
theorem dX7_fold_60 : decode cX7_fold 60 = .ok (.ior, 1) := by decide +kernel
theorem dX7_fold_61 : decode cX7_fold 61 = .ok (.iastore, 1) := by decide +kernel
theorem dX7_fold_62 : decode cX7_fold 62 = .ok (.iload 4, 2) := by decide +kernel
theorem dX7_fold_64 : decode cX7_fold 64 = .ok (.ireturn, 1) := by decide +kernel
theorem dX7_wed_0 : decode cX7_wed 0 = .ok (.aload_n 0, 1) := by decide +kernel
theorem dX7_wed_1 : decode cX7_wed 1 = .ok (.iload_n 1, 1) := by decide +kernel
theorem dX7_wed_2 : decode cX7_wed 2 = .ok (.iload_n 2, 1) := by decide +kernel
theorem dX7_wed_3 : decode cX7_wed 3 = .ok (.invokevirtual 213, 3) := by decide +kernel
theorem dX7_wed_6 : decode cX7_wed 6 = .ok (.ifCond .ne 5, 3) := by decide +kernel
theorem dX7_wed_9 : decode cX7_wed 9 = .ok (.iconst (-1), 1) := by decide +kernel
theorem dX7_wed_10 : decode cX7_wed 10 = .ok (.ireturn, 1) := by decide +kernel
theorem dX7_wed_11 : decode cX7_wed 11 = .ok (.aload_n 0, 1) := by decide +kernel
theorem dX7_wed_12 : decode cX7_wed 12 = .ok (.iload_n 1, 1) := by decide +kernel
theorem dX7_wed_13 : decode cX7_wed 13 = .ok (.invokevirtual 162, 3) := by decide +kernel
theorem dX7_wed_16 : decode cX7_wed 16 = .ok (.bipush (-4), 2) := by decide +kernel
theorem dX7_wed_18 : decode cX7_wed 18 = .ok (.if_icmp .ne 22, 3) := by decide +kernel
theorem dX7_wed_21 : decode cX7_wed 21 = .ok (.aload_n 0, 1) := by decide +kernel
theorem dX7_wed_22 : decode cX7_wed 22 = .ok (.iload_n 2, 1) := by decide +kernel
theorem dX7_wed_23 : decode cX7_wed 23 = .ok (.invokevirtual 162, 3) := by decide +kernel
theorem dX7_wed_26 : decode cX7_wed 26 = .ok (.bipush (-4), 2) := by decide +kernel
theorem dX7_wed_28 : decode cX7_wed 28 = .ok (.if_icmp .ne 12, 3) := by decide +kernel
theorem dX7_wed_31 : decode cX7_wed 31 = .ok (.aload_n 0, 1) := by decide +kernel
theorem dX7_wed_32 : decode cX7_wed 32 = .ok (.iload_n 1, 1) := by decide +kernel
theorem dX7_wed_33 : decode cX7_wed 33 = .ok (.iload_n 2, 1) := by decide +kernel
theorem dX7_wed_34 : decode cX7_wed 34 = .ok (.invokevirtual 168, 3) := by decide +kernel
theorem dX7_wed_37 : decode cX7_wed 37 = .ok (.ifCond .eq 6, 3) := by decide +kernel
theorem dX7_wed_40 : decode cX7_wed 40 = .ok (.bipush (-2), 2) := by decide +kernel
theorem dX7_wed_42 : decode cX7_wed 42 = .ok (.ireturn, 1) := by decide +kernel
theorem dX7_wed_43 : decode cX7_wed 43 = .ok (.aload_n 0, 1) := by decide +kernel
theorem dX7_wed_44 : decode cX7_wed 44 = .ok (.getfield 7, 3) := by decide +kernel
theorem dX7_wed_47 : decode cX7_wed 47 = .ok (.bipush 45, 2) := by decide +kernel
theorem dX7_wed_49 : decode cX7_wed 49 = .ok (.iload_n 1, 1) := by decide +kernel
theorem dX7_wed_50 : decode cX7_wed 50 = .ok (.iadd, 1) := by decide +kernel
theorem dX7_wed_51 : decode cX7_wed 51 = .ok (.iload_n 2, 1) := by decide +kernel
theorem dX7_wed_52 : decode cX7_wed 52 = .ok (.iastore, 1) := by decide +kernel
theorem dX7_wed_53 : decode cX7_wed 53 = .ok (.aload_n 0, 1) := by decide +kernel
theorem dX7_wed_54 : decode cX7_wed 54 = .ok (.invokevirtual 165, 3) := by decide +kernel
theorem dX7_wed_57 : decode cX7_wed 57 = .ok (.invokestatic 216, 3) := by decide +kernel
theorem dX7_wed_60 : decode cX7_wed 60 = .ok (.iconst 2, 1) := by decide +kernel
theorem dX7_wed_61 : decode cX7_wed 61 = .ok (.idiv, 1) := by decide +kernel
theorem dX7_wed_62 : decode cX7_wed 62 = .ok (.ireturn, 1) := by decide +kernel
theorem dX7_part_0 : decode cX7_part 0 = .ok (.aload_n 0, 1) := by decide +kernel
theorem dX7_part_1 : decode cX7_part 1 = .ok (.iload_n 1, 1) := by decide +kernel
theorem dX7_part_2 : decode cX7_part 2 = .ok (.invokevirtual 158, 3) := by decide +kernel
theorem dX7_part_5 : decode cX7_part 5 = .ok (.ifCond .ne 5, 3) := by decide +kernel
theorem dX7_part_8 : decode cX7_part 8 = .ok (.iconst (-1), 1) := by decide +kernel
theorem dX7_part_9 : decode cX7_part 9 = .ok (.ireturn, 1) := by decide +kernel
theorem dX7_part_10 : decode cX7_part 10 = .ok (.aload_n 0, 1) := by decide +kernel
theorem dX7_part_11 : decode cX7_part 11 = .ok (.iload_n 1, 1) := by decide +kernel
theorem dX7_part_12 : decode cX7_part 12 = .ok (.invokevirtual 162, 3) := by decide +kernel
theorem dX7_part_15 : decode cX7_part 15 = .ok (.istore_n 2, 1) := by decide +kernel
theorem dX7_part_16 : decode cX7_part 16 = .ok (.iload_n 2, 1) := by decide +kernel
theorem dX7_part_17 : decode cX7_part 17 = .ok (.bipush (-4), 2) := by decide +kernel
theorem dX7_part_19 : decode cX7_part 19 = .ok (.if_icmp .ne 6, 3) := by decide +kernel
theorem dX7_part_22 : decode cX7_part 22 = .ok (.bipush (-2), 2) := by decide +kernel
theorem dX7_part_24 : decode cX7_part 24 = .ok (.ireturn, 1) := by decide +kernel
theorem dX7_part_25 : decode cX7_part 25 = .ok (.aload_n 0, 1) := by decide +kernel
theorem dX7_part_26 : decode cX7_part 26 = .ok (.getfield 7, 3) := by decide +kernel
theorem dX7_part_29 : decode cX7_part 29 = .ok (.bipush 45, 2) := by decide +kernel
theorem dX7_part_31 : decode cX7_part 31 = .ok (.iload_n 1, 1) := by decide +kernel
theorem dX7_part_32 : decode cX7_part 32 = .ok (.iload_n 2, 1) := by decide +kernel
theorem dX7_part_33 : decode cX7_part 33 = .ok (.if_icmp .ge 7, 3) := by decide +kernel
theorem dX7_part_36 : decode cX7_part 36 = .ok (.iload_n 1, 1) := by decide +kernel
theorem dX7_part_37 : decode cX7_part 37 = .ok (.goto 4, 3) := by decide +kernel
theorem dX7_part_40 : decode cX7_part 40 = .ok (.iload_n 2, 1) := by decide +kernel
theorem dX7_part_41 : decode cX7_part 41 = .ok (.iadd, 1) := by decide +kernel
theorem dX7_part_42 : decode cX7_part 42 = .ok (.iconst 0, 1) := by decide +kernel
theorem dX7_part_43 : decode cX7_part 43 = .ok (.iastore, 1) := by decide +kernel
theorem dX7_part_44 : decode cX7_part 44 = .ok (.iload_n 2, 1) := by decide +kernel
theorem dX7_part_45 : decode cX7_part 45 = .ok (.ireturn, 1) := by decide +kernel
theorem dX7_nextAsked_0 : decode cX7_nextAsked 0 = .ok (.bipush (-4), 2) := by decide +kernel
theorem dX7_nextAsked_2 : decode cX7_nextAsked 2 = .ok (.istore_n 2, 1) := by decide +kernel
theorem dX7_nextAsked_3 : decode cX7_nextAsked 3 = .ok (.iconst 0, 1) := by decide +kernel
theorem dX7_nextAsked_4 : decode cX7_nextAsked 4 = .ok (.istore_n 3, 1) := by decide +kernel
theorem dX7_nextAsked_5 : decode cX7_nextAsked 5 = .ok (.iload_n 3, 1) := by decide +kernel
theorem dX7_nextAsked_6 : decode cX7_nextAsked 6 = .ok (.bipush 8, 2) := by decide +kernel
theorem dX7_nextAsked_8 : decode cX7_nextAsked 8 = .ok (.if_icmp .ge 38, 3) := by decide +kernel
theorem dX7_nextAsked_11 : decode cX7_nextAsked 11 = .ok (.aload_n 0, 1) := by decide +kernel
theorem dX7_nextAsked_12 : decode cX7_nextAsked 12 = .ok (.getfield 31, 3) := by decide +kernel
theorem dX7_nextAsked_15 : decode cX7_nextAsked 15 = .ok (.iload_n 1, 1) := by decide +kernel
theorem dX7_nextAsked_16 : decode cX7_nextAsked 16 = .ok (.iaload, 1) := by decide +kernel
theorem dX7_nextAsked_17 : decode cX7_nextAsked 17 = .ok (.iload_n 3, 1) := by decide +kernel
theorem dX7_nextAsked_18 : decode cX7_nextAsked 18 = .ok (.ishr, 1) := by decide +kernel
theorem dX7_nextAsked_19 : decode cX7_nextAsked 19 = .ok (.iconst 1, 1) := by decide +kernel
theorem dX7_nextAsked_20 : decode cX7_nextAsked 20 = .ok (.iand, 1) := by decide +kernel
theorem dX7_nextAsked_21 : decode cX7_nextAsked 21 = .ok (.ifCond .ne 17, 3) := by decide +kernel
theorem dX7_nextAsked_24 : decode cX7_nextAsked 24 = .ok (.aload_n 0, 1) := by decide +kernel
theorem dX7_nextAsked_25 : decode cX7_nextAsked 25 = .ok (.iload_n 1, 1) := by decide +kernel
theorem dX7_nextAsked_26 : decode cX7_nextAsked 26 = .ok (.iload_n 3, 1) := by decide +kernel
theorem dX7_nextAsked_27 : decode cX7_nextAsked 27 = .ok (.iload_n 2, 1) := by decide +kernel
theorem dX7_nextAsked_28 : decode cX7_nextAsked 28 = .ok (.invokevirtual 198, 3) := by decide +kernel
theorem dX7_nextAsked_31 : decode cX7_nextAsked 31 = .ok (.ifCond .eq 7, 3) := by decide +kernel
theorem dX7_nextAsked_34 : decode cX7_nextAsked 34 = .ok (.iload_n 3, 1) := by decide +kernel
theorem dX7_nextAsked_35 : decode cX7_nextAsked 35 = .ok (.goto 4, 3) := by decide +kernel
theorem dX7_nextAsked_38 : decode cX7_nextAsked 38 = .ok (.iload_n 2, 1) := by decide +kernel
theorem dX7_nextAsked_39 : decode cX7_nextAsked 39 = .ok (.istore_n 2, 1) := by decide +kernel
theorem dX7_nextAsked_40 : decode cX7_nextAsked 40 = .ok (.iinc 3 1, 3) := by decide +kernel
theorem dX7_nextAsked_43 : decode cX7_nextAsked 43 = .ok (.goto (-38), 3) := by decide +kernel
theorem dX7_nextAsked_46 : decode cX7_nextAsked 46 = .ok (.iload_n 2, 1) := by decide +kernel
theorem dX7_nextAsked_47 : decode cX7_nextAsked 47 = .ok (.ireturn, 1) := by decide +kernel
theorem dX7_asking_0 : decode cX7_asking 0 = .ok (.iconst 0, 1) := by decide +kernel
theorem dX7_asking_1 : decode cX7_asking 1 = .ok (.istore_n 2, 1) := by decide +kernel
theorem dX7_asking_2 : decode cX7_asking 2 = .ok (.iload_n 2, 1) := by decide +kernel
theorem dX7_asking_3 : decode cX7_asking 3 = .ok (.bipush 8, 2) := by decide +kernel
theorem dX7_asking_5 : decode cX7_asking 5 = .ok (.if_icmp .ge 24, 3) := by decide +kernel
theorem dX7_asking_8 : decode cX7_asking 8 = .ok (.aload_n 0, 1) := by decide +kernel
theorem dX7_asking_9 : decode cX7_asking 9 = .ok (.getfield 28, 3) := by decide +kernel
theorem dX7_asking_12 : decode cX7_asking 12 = .ok (.iload_n 2, 1) := by decide +kernel
theorem dX7_asking_13 : decode cX7_asking 13 = .ok (.bipush (-4), 2) := by decide +kernel
theorem dX7_asking_15 : decode cX7_asking 15 = .ok (.iastore, 1) := by decide +kernel
theorem dX7_asking_16 : decode cX7_asking 16 = .ok (.aload_n 0, 1) := by decide +kernel
theorem dX7_asking_17 : decode cX7_asking 17 = .ok (.getfield 31, 3) := by decide +kernel
theorem dX7_asking_20 : decode cX7_asking 20 = .ok (.iload_n 2, 1) := by decide +kernel
theorem dX7_asking_21 : decode cX7_asking 21 = .ok (.iconst 0, 1) := by decide +kernel
theorem dX7_asking_22 : decode cX7_asking 22 = .ok (.iastore, 1) := by decide +kernel
theorem dX7_asking_23 : decode cX7_asking 23 = .ok (.iinc 2 1, 3) := by decide +kernel
theorem dX7_asking_26 : decode cX7_asking 26 = .ok (.goto (-24), 3) := by decide +kernel
theorem dX7_asking_29 : decode cX7_asking 29 = .ok (.iconst 4, 1) := by decide +kernel
theorem dX7_asking_30 : decode cX7_asking 30 = .ok (.iload_n 1, 1) := by decide +kernel
theorem dX7_asking_31 : decode cX7_asking 31 = .ok (.imul, 1) := by decide +kernel
theorem dX7_asking_32 : decode cX7_asking 32 = .ok (.istore_n 2, 1) := by decide +kernel
theorem dX7_asking_33 : decode cX7_asking 33 = .ok (.iload_n 2, 1) := by decide +kernel
theorem dX7_asking_34 : decode cX7_asking 34 = .ok (.iconst 4, 1) := by decide +kernel
theorem dX7_asking_35 : decode cX7_asking 35 = .ok (.iload_n 1, 1) := by decide +kernel
theorem dX7_asking_36 : decode cX7_asking 36 = .ok (.imul, 1) := by decide +kernel
theorem dX7_asking_37 : decode cX7_asking 37 = .ok (.iconst 4, 1) := by decide +kernel
theorem dX7_asking_38 : decode cX7_asking 38 = .ok (.iadd, 1) := by decide +kernel
theorem dX7_asking_39 : decode cX7_asking 39 = .ok (.if_icmp .ge 109, 3) := by decide +kernel
theorem dX7_asking_42 : decode cX7_asking 42 = .ok (.aload_n 0, 1) := by decide +kernel
theorem dX7_asking_43 : decode cX7_asking 43 = .ok (.getfield 28, 3) := by decide +kernel
theorem dX7_asking_46 : decode cX7_asking 46 = .ok (.iload_n 2, 1) := by decide +kernel
theorem dX7_asking_47 : decode cX7_asking 47 = .ok (.iaload, 1) := by decide +kernel
theorem dX7_asking_48 : decode cX7_asking 48 = .ok (.bipush (-4), 2) := by decide +kernel
theorem dX7_asking_50 : decode cX7_asking 50 = .ok (.if_icmp .ne 11, 3) := by decide +kernel
theorem dX7_asking_53 : decode cX7_asking 53 = .ok (.aload_n 0, 1) := by decide +kernel
theorem dX7_asking_54 : decode cX7_asking 54 = .ok (.iload_n 2, 1) := by decide +kernel
theorem dX7_asking_55 : decode cX7_asking 55 = .ok (.invokevirtual 219, 3) := by decide +kernel
theorem dX7_asking_58 : decode cX7_asking 58 = .ok (.goto 5, 3) := by decide +kernel
theorem dX7_asking_61 : decode cX7_asking 61 = .ok (.bipush (-4), 2) := by decide +kernel
theorem dX7_asking_63 : decode cX7_asking 63 = .ok (.istore_n 3, 1) := by decide +kernel
theorem dX7_asking_64 : decode cX7_asking 64 = .ok (.iload_n 3, 1) := by decide +kernel
theorem dX7_asking_65 : decode cX7_asking 65 = .ok (.bipush (-4), 2) := by decide +kernel
theorem dX7_asking_67 : decode cX7_asking 67 = .ok (.if_icmp .ne 9, 3) := by decide +kernel
theorem dX7_asking_70 : decode cX7_asking 70 = .ok (.iinc 2 1, 3) := by decide +kernel
theorem dX7_asking_73 : decode cX7_asking 73 = .ok (.goto 72, 3) := by decide +kernel
theorem dX7_asking_76 : decode cX7_asking 76 = .ok (.aload_n 0, 1) := by decide +kernel
theorem dX7_asking_77 : decode cX7_asking 77 = .ok (.getfield 31, 3) := by decide +kernel
theorem dX7_asking_80 : decode cX7_asking 80 = .ok (.iload_n 2, 1) := by decide +kernel
theorem dX7_asking_81 : decode cX7_asking 81 = .ok (.dup2, 1) := by decide +kernel
theorem dX7_asking_82 : decode cX7_asking 82 = .ok (.iaload, 1) := by decide +kernel
theorem dX7_asking_83 : decode cX7_asking 83 = .ok (.iconst 1, 1) := by decide +kernel
theorem dX7_asking_84 : decode cX7_asking 84 = .ok (.iload_n 3, 1) := by decide +kernel
theorem dX7_asking_85 : decode cX7_asking 85 = .ok (.ishl, 1) := by decide +kernel
theorem dX7_asking_86 : decode cX7_asking 86 = .ok (.ior, 1) := by decide +kernel
theorem dX7_asking_87 : decode cX7_asking 87 = .ok (.iastore, 1) := by decide +kernel
theorem dX7_asking_88 : decode cX7_asking 88 = .ok (.aload_n 0, 1) := by decide +kernel
theorem dX7_asking_89 : decode cX7_asking 89 = .ok (.iload_n 3, 1) := by decide +kernel
theorem dX7_asking_90 : decode cX7_asking 90 = .ok (.iload_n 2, 1) := by decide +kernel
theorem dX7_asking_91 : decode cX7_asking 91 = .ok (.aload_n 0, 1) := by decide +kernel
theorem dX7_asking_92 : decode cX7_asking 92 = .ok (.getfield 28, 3) := by decide +kernel
theorem dX7_asking_95 : decode cX7_asking 95 = .ok (.iload_n 3, 1) := by decide +kernel
theorem dX7_asking_96 : decode cX7_asking 96 = .ok (.iaload, 1) := by decide +kernel
theorem dX7_asking_97 : decode cX7_asking 97 = .ok (.invokevirtual 198, 3) := by decide +kernel
theorem dX7_asking_100 : decode cX7_asking 100 = .ok (.ifCond .eq 41, 3) := by decide +kernel
theorem dX7_asking_103 : decode cX7_asking 103 = .ok (.aload_n 0, 1) := by decide +kernel
theorem dX7_asking_104 : decode cX7_asking 104 = .ok (.getfield 28, 3) := by decide +kernel
theorem dX7_asking_107 : decode cX7_asking 107 = .ok (.iload_n 3, 1) := by decide +kernel
theorem dX7_asking_108 : decode cX7_asking 108 = .ok (.iaload, 1) := by decide +kernel
theorem dX7_asking_109 : decode cX7_asking 109 = .ok (.bipush (-4), 2) := by decide +kernel
theorem dX7_asking_111 : decode cX7_asking 111 = .ok (.if_icmp .eq 16, 3) := by decide +kernel
theorem dX7_asking_114 : decode cX7_asking 114 = .ok (.aload_n 0, 1) := by decide +kernel
theorem dX7_asking_115 : decode cX7_asking 115 = .ok (.getfield 28, 3) := by decide +kernel
theorem dX7_asking_118 : decode cX7_asking 118 = .ok (.aload_n 0, 1) := by decide +kernel
theorem dX7_asking_119 : decode cX7_asking 119 = .ok (.getfield 28, 3) := by decide +kernel
theorem dX7_asking_122 : decode cX7_asking 122 = .ok (.iload_n 3, 1) := by decide +kernel
theorem dX7_asking_123 : decode cX7_asking 123 = .ok (.iaload, 1) := by decide +kernel
theorem dX7_asking_124 : decode cX7_asking 124 = .ok (.bipush (-4), 2) := by decide +kernel
theorem dX7_asking_126 : decode cX7_asking 126 = .ok (.iastore, 1) := by decide +kernel
theorem dX7_asking_127 : decode cX7_asking 127 = .ok (.aload_n 0, 1) := by decide +kernel
theorem dX7_asking_128 : decode cX7_asking 128 = .ok (.getfield 28, 3) := by decide +kernel
theorem dX7_asking_131 : decode cX7_asking 131 = .ok (.iload_n 2, 1) := by decide +kernel
theorem dX7_asking_132 : decode cX7_asking 132 = .ok (.iload_n 3, 1) := by decide +kernel
theorem dX7_asking_133 : decode cX7_asking 133 = .ok (.iastore, 1) := by decide +kernel
theorem dX7_asking_134 : decode cX7_asking 134 = .ok (.aload_n 0, 1) := by decide +kernel
theorem dX7_asking_135 : decode cX7_asking 135 = .ok (.getfield 28, 3) := by decide +kernel
theorem dX7_asking_138 : decode cX7_asking 138 = .ok (.iload_n 3, 1) := by decide +kernel
theorem dX7_asking_139 : decode cX7_asking 139 = .ok (.iload_n 2, 1) := by decide +kernel
theorem dX7_asking_140 : decode cX7_asking 140 = .ok (.iastore, 1) := by decide +kernel
theorem dX7_asking_141 : decode cX7_asking 141 = .ok (.iconst 4, 1) := by decide +kernel
theorem dX7_asking_142 : decode cX7_asking 142 = .ok (.iload_n 1, 1) := by decide +kernel
theorem dX7_asking_143 : decode cX7_asking 143 = .ok (.imul, 1) := by decide +kernel
theorem dX7_asking_144 : decode cX7_asking 144 = .ok (.istore_n 2, 1) := by decide +kernel
theorem dX7_asking_145 : decode cX7_asking 145 = .ok (.goto (-112), 3) := by decide +kernel
theorem dX7_asking_148 : decode cX7_asking 148 = .ok (.return_, 1) := by decide +kernel
theorem dX7_askingNow_0 : decode cX7_askingNow 0 = .ok (.aload_n 0, 1) := by decide +kernel
theorem dX7_askingNow_1 : decode cX7_askingNow 1 = .ok (.iconst 0, 1) := by decide +kernel
theorem dX7_askingNow_2 : decode cX7_askingNow 2 = .ok (.invokevirtual 195, 3) := by decide +kernel
theorem dX7_askingNow_5 : decode cX7_askingNow 5 = .ok (.aload_n 0, 1) := by decide +kernel
theorem dX7_askingNow_6 : decode cX7_askingNow 6 = .ok (.iload_n 1, 1) := by decide +kernel
theorem dX7_askingNow_7 : decode cX7_askingNow 7 = .ok (.invokevirtual 222, 3) := by decide +kernel
theorem dX7_askingNow_10 : decode cX7_askingNow 10 = .ok (.return_, 1) := by decide +kernel
theorem dX7_asked_0 : decode cX7_asked 0 = .ok (.iload_n 1, 1) := by decide +kernel
theorem dX7_asked_1 : decode cX7_asked 1 = .ok (.i2l, 1) := by decide +kernel
theorem dX7_asked_2 : decode cX7_asked 2 = .ok (.lconst 0, 1) := by decide +kernel
theorem dX7_asked_3 : decode cX7_asked 3 = .ok (.lconst 1, 1) := by decide +kernel
theorem dX7_asked_4 : decode cX7_asked 4 = .ok (.invokestatic 58, 3) := by decide +kernel
theorem dX7_asked_7 : decode cX7_asked 7 = .ok (.ifCond .eq 11, 3) := by decide +kernel
theorem dX7_asked_10 : decode cX7_asked 10 = .ok (.aload_n 0, 1) := by decide +kernel
theorem dX7_asked_11 : decode cX7_asked 11 = .ok (.iload_n 2, 1) := by decide +kernel
theorem dX7_asked_12 : decode cX7_asked 12 = .ok (.invokevirtual 158, 3) := by decide +kernel
theorem dX7_asked_15 : decode cX7_asked 15 = .ok (.ifCond .ne 5, 3) := by decide +kernel
theorem dX7_asked_18 : decode cX7_asked 18 = .ok (.iconst (-1), 1) := by decide +kernel
theorem dX7_asked_19 : decode cX7_asked 19 = .ok (.ireturn, 1) := by decide +kernel
theorem dX7_asked_20 : decode cX7_asked 20 = .ok (.aload_n 0, 1) := by decide +kernel
theorem dX7_asked_21 : decode cX7_asked 21 = .ok (.iload_n 1, 1) := by decide +kernel
theorem dX7_asked_22 : decode cX7_asked 22 = .ok (.invokevirtual 225, 3) := by decide +kernel
theorem dX7_asked_25 : decode cX7_asked 25 = .ok (.aload_n 0, 1) := by decide +kernel
theorem dX7_asked_26 : decode cX7_asked 26 = .ok (.getfield 28, 3) := by decide +kernel
theorem dX7_asked_29 : decode cX7_asked 29 = .ok (.iload_n 2, 1) := by decide +kernel
theorem dX7_asked_30 : decode cX7_asked 30 = .ok (.iaload, 1) := by decide +kernel
theorem dX7_asked_31 : decode cX7_asked 31 = .ok (.ireturn, 1) := by decide +kernel
theorem dX7_pairMany_0 : decode cX7_pairMany 0 = .ok (.iconst 0, 1) := by decide +kernel
theorem dX7_pairMany_1 : decode cX7_pairMany 1 = .ok (.istore_n 1, 1) := by decide +kernel
theorem dX7_pairMany_2 : decode cX7_pairMany 2 = .ok (.iconst 0, 1) := by decide +kernel
theorem dX7_pairMany_3 : decode cX7_pairMany 3 = .ok (.istore_n 2, 1) := by decide +kernel
theorem dX7_pairMany_4 : decode cX7_pairMany 4 = .ok (.iload_n 2, 1) := by decide +kernel
theorem dX7_pairMany_5 : decode cX7_pairMany 5 = .ok (.iconst 4, 1) := by decide +kernel
theorem dX7_pairMany_6 : decode cX7_pairMany 6 = .ok (.if_icmp .ge 28, 3) := by decide +kernel
theorem dX7_pairMany_9 : decode cX7_pairMany 9 = .ok (.iload_n 1, 1) := by decide +kernel
theorem dX7_pairMany_10 : decode cX7_pairMany 10 = .ok (.aload_n 0, 1) := by decide +kernel
theorem dX7_pairMany_11 : decode cX7_pairMany 11 = .ok (.getfield 28, 3) := by decide +kernel
theorem dX7_pairMany_14 : decode cX7_pairMany 14 = .ok (.iload_n 2, 1) := by decide +kernel
theorem dX7_pairMany_15 : decode cX7_pairMany 15 = .ok (.iaload, 1) := by decide +kernel
theorem dX7_pairMany_16 : decode cX7_pairMany 16 = .ok (.bipush (-4), 2) := by decide +kernel
theorem dX7_pairMany_18 : decode cX7_pairMany 18 = .ok (.if_icmp .eq 7, 3) := by decide +kernel
theorem dX7_pairMany_21 : decode cX7_pairMany 21 = .ok (.iconst 1, 1) := by decide +kernel
theorem dX7_pairMany_22 : decode cX7_pairMany 22 = .ok (.goto 4, 3) := by decide +kernel
theorem dX7_pairMany_25 : decode cX7_pairMany 25 = .ok (.iconst 0, 1) := by decide +kernel
theorem dX7_pairMany_26 : decode cX7_pairMany 26 = .ok (.iadd, 1) := by decide +kernel
theorem dX7_pairMany_27 : decode cX7_pairMany 27 = .ok (.istore_n 1, 1) := by decide +kernel
theorem dX7_pairMany_28 : decode cX7_pairMany 28 = .ok (.iinc 2 1, 3) := by decide +kernel
theorem dX7_pairMany_31 : decode cX7_pairMany 31 = .ok (.goto (-27), 3) := by decide +kernel
theorem dX7_pairMany_34 : decode cX7_pairMany 34 = .ok (.iload_n 1, 1) := by decide +kernel
theorem dX7_pairMany_35 : decode cX7_pairMany 35 = .ok (.ireturn, 1) := by decide +kernel
theorem dX7_likesInAll_0 : decode cX7_likesInAll 0 = .ok (.iconst 0, 1) := by decide +kernel
theorem dX7_likesInAll_1 : decode cX7_likesInAll 1 = .ok (.istore_n 1, 1) := by decide +kernel
theorem dX7_likesInAll_2 : decode cX7_likesInAll 2 = .ok (.iconst 0, 1) := by decide +kernel
theorem dX7_likesInAll_3 : decode cX7_likesInAll 3 = .ok (.istore_n 2, 1) := by decide +kernel
theorem dX7_likesInAll_4 : decode cX7_likesInAll 4 = .ok (.iload_n 2, 1) := by decide +kernel
theorem dX7_likesInAll_5 : decode cX7_likesInAll 5 = .ok (.bipush 8, 2) := by decide +kernel
theorem dX7_likesInAll_7 : decode cX7_likesInAll 7 = .ok (.if_icmp .ge 43, 3) := by decide +kernel
theorem dX7_likesInAll_10 : decode cX7_likesInAll 10 = .ok (.iload_n 1, 1) := by decide +kernel
theorem dX7_likesInAll_11 : decode cX7_likesInAll 11 = .ok (.aload_n 0, 1) := by decide +kernel
theorem dX7_likesInAll_12 : decode cX7_likesInAll 12 = .ok (.getfield 28, 3) := by decide +kernel
theorem dX7_likesInAll_15 : decode cX7_likesInAll 15 = .ok (.iload_n 2, 1) := by decide +kernel
theorem dX7_likesInAll_16 : decode cX7_likesInAll 16 = .ok (.iaload, 1) := by decide +kernel
theorem dX7_likesInAll_17 : decode cX7_likesInAll 17 = .ok (.bipush (-4), 2) := by decide +kernel
theorem dX7_likesInAll_19 : decode cX7_likesInAll 19 = .ok (.if_icmp .eq 22, 3) := by decide +kernel
theorem dX7_likesInAll_22 : decode cX7_likesInAll 22 = .ok (.aload_n 0, 1) := by decide +kernel
theorem dX7_likesInAll_23 : decode cX7_likesInAll 23 = .ok (.getfield 25, 3) := by decide +kernel
theorem dX7_likesInAll_26 : decode cX7_likesInAll 26 = .ok (.bipush 8, 2) := by decide +kernel
theorem dX7_likesInAll_28 : decode cX7_likesInAll 28 = .ok (.iload_n 2, 1) := by decide +kernel
theorem dX7_likesInAll_29 : decode cX7_likesInAll 29 = .ok (.imul, 1) := by decide +kernel
theorem dX7_likesInAll_30 : decode cX7_likesInAll 30 = .ok (.aload_n 0, 1) := by decide +kernel
theorem dX7_likesInAll_31 : decode cX7_likesInAll 31 = .ok (.getfield 28, 3) := by decide +kernel
theorem dX7_likesInAll_34 : decode cX7_likesInAll 34 = .ok (.iload_n 2, 1) := by decide +kernel
theorem dX7_likesInAll_35 : decode cX7_likesInAll 35 = .ok (.iaload, 1) := by decide +kernel
theorem dX7_likesInAll_36 : decode cX7_likesInAll 36 = .ok (.iadd, 1) := by decide +kernel
theorem dX7_likesInAll_37 : decode cX7_likesInAll 37 = .ok (.iaload, 1) := by decide +kernel
theorem dX7_likesInAll_38 : decode cX7_likesInAll 38 = .ok (.goto 4, 3) := by decide +kernel
theorem dX7_likesInAll_41 : decode cX7_likesInAll 41 = .ok (.iconst 0, 1) := by decide +kernel
theorem dX7_likesInAll_42 : decode cX7_likesInAll 42 = .ok (.iadd, 1) := by decide +kernel
theorem dX7_likesInAll_43 : decode cX7_likesInAll 43 = .ok (.istore_n 1, 1) := by decide +kernel
theorem dX7_likesInAll_44 : decode cX7_likesInAll 44 = .ok (.iinc 2 1, 3) := by decide +kernel
theorem dX7_likesInAll_47 : decode cX7_likesInAll 47 = .ok (.goto (-43), 3) := by decide +kernel
theorem dX7_likesInAll_50 : decode cX7_likesInAll 50 = .ok (.iload_n 1, 1) := by decide +kernel
theorem dX7_likesInAll_51 : decode cX7_likesInAll 51 = .ok (.ireturn, 1) := by decide +kernel
theorem dX7_sum_0 : decode cX7_sum 0 = .ok (.iload_n 1, 1) := by decide +kernel
theorem dX7_sum_1 : decode cX7_sum 1 = .ok (.i2l, 1) := by decide +kernel
theorem dX7_sum_2 : decode cX7_sum 2 = .ok (.lconst 0, 1) := by decide +kernel
theorem dX7_sum_3 : decode cX7_sum 3 = .ok (.ldc2_w 209, 3) := by decide +kernel
theorem dX7_sum_6 : decode cX7_sum 6 = .ok (.invokestatic 58, 3) := by decide +kernel
theorem dX7_sum_9 : decode cX7_sum 9 = .ok (.ifCond .ne 5, 3) := by decide +kernel
theorem dX7_sum_12 : decode cX7_sum 12 = .ok (.iconst (-1), 1) := by decide +kernel
theorem dX7_sum_13 : decode cX7_sum 13 = .ok (.ireturn, 1) := by decide +kernel
theorem dX7_sum_14 : decode cX7_sum 14 = .ok (.aload_n 0, 1) := by decide +kernel
theorem dX7_sum_15 : decode cX7_sum 15 = .ok (.iload_n 1, 1) := by decide +kernel
theorem dX7_sum_16 : decode cX7_sum 16 = .ok (.iconst 2, 1) := by decide +kernel
theorem dX7_sum_17 : decode cX7_sum 17 = .ok (.idiv, 1) := by decide +kernel
theorem dX7_sum_18 : decode cX7_sum 18 = .ok (.invokevirtual 225, 3) := by decide +kernel
theorem dX7_sum_21 : decode cX7_sum 21 = .ok (.iload_n 1, 1) := by decide +kernel
theorem dX7_sum_22 : decode cX7_sum 22 = .ok (.iconst 2, 1) := by decide +kernel
theorem dX7_sum_23 : decode cX7_sum 23 = .ok (.irem, 1) := by decide +kernel
theorem dX7_sum_24 : decode cX7_sum 24 = .ok (.ifCond .ne 10, 3) := by decide +kernel
theorem dX7_sum_27 : decode cX7_sum 27 = .ok (.aload_n 0, 1) := by decide +kernel
theorem dX7_sum_28 : decode cX7_sum 28 = .ok (.invokevirtual 228, 3) := by decide +kernel
theorem dX7_sum_31 : decode cX7_sum 31 = .ok (.goto 7, 3) := by decide +kernel
theorem dX7_sum_34 : decode cX7_sum 34 = .ok (.aload_n 0, 1) := by decide +kernel
theorem dX7_sum_35 : decode cX7_sum 35 = .ok (.invokevirtual 231, 3) := by decide +kernel
theorem dX7_sum_38 : decode cX7_sum 38 = .ok (.ireturn, 1) := by decide +kernel
theorem dX7_laysPairs_0 : decode cX7_laysPairs 0 = .ok (.iload_n 1, 1) := by decide +kernel
theorem dX7_laysPairs_1 : decode cX7_laysPairs 1 = .ok (.istore_n 2, 1) := by decide +kernel
theorem dX7_laysPairs_2 : decode cX7_laysPairs 2 = .ok (.iconst 1, 1) := by decide +kernel
theorem dX7_laysPairs_3 : decode cX7_laysPairs 3 = .ok (.istore_n 3, 1) := by decide +kernel
theorem dX7_laysPairs_4 : decode cX7_laysPairs 4 = .ok (.iconst 0, 1) := by decide +kernel
theorem dX7_laysPairs_5 : decode cX7_laysPairs 5 = .ok (.istore 4, 2) := by decide +kernel
theorem dX7_laysPairs_7 : decode cX7_laysPairs 7 = .ok (.iload 4, 2) := by decide +kernel
theorem dX7_laysPairs_9 : decode cX7_laysPairs 9 = .ok (.bipush 8, 2) := by decide +kernel
theorem dX7_laysPairs_11 : decode cX7_laysPairs 11 = .ok (.if_icmp .ge 18, 3) := by decide +kernel
theorem dX7_laysPairs_14 : decode cX7_laysPairs 14 = .ok (.aload_n 0, 1) := by decide +kernel
theorem dX7_laysPairs_15 : decode cX7_laysPairs 15 = .ok (.getfield 34, 3) := by decide +kernel
theorem dX7_laysPairs_18 : decode cX7_laysPairs 18 = .ok (.iload 4, 2) := by decide +kernel
theorem dX7_laysPairs_20 : decode cX7_laysPairs 20 = .ok (.bipush (-4), 2) := by decide +kernel
theorem dX7_laysPairs_22 : decode cX7_laysPairs 22 = .ok (.iastore, 1) := by decide +kernel
theorem dX7_laysPairs_23 : decode cX7_laysPairs 23 = .ok (.iinc 4 1, 3) := by decide +kernel
theorem dX7_laysPairs_26 : decode cX7_laysPairs 26 = .ok (.goto (-19), 3) := by decide +kernel
theorem dX7_laysPairs_29 : decode cX7_laysPairs 29 = .ok (.iconst 3, 1) := by decide +kernel
theorem dX7_laysPairs_30 : decode cX7_laysPairs 30 = .ok (.istore 4, 2) := by decide +kernel
theorem dX7_laysPairs_32 : decode cX7_laysPairs 32 = .ok (.iload 4, 2) := by decide +kernel
theorem dX7_laysPairs_34 : decode cX7_laysPairs 34 = .ok (.ifCond .lt 84, 3) := by decide +kernel
theorem dX7_laysPairs_37 : decode cX7_laysPairs 37 = .ok (.iload_n 2, 1) := by decide +kernel
theorem dX7_laysPairs_38 : decode cX7_laysPairs 38 = .ok (.iconst 5, 1) := by decide +kernel
theorem dX7_laysPairs_39 : decode cX7_laysPairs 39 = .ok (.irem, 1) := by decide +kernel
theorem dX7_laysPairs_40 : decode cX7_laysPairs 40 = .ok (.iconst 4, 1) := by decide +kernel
theorem dX7_laysPairs_41 : decode cX7_laysPairs 41 = .ok (.iadd, 1) := by decide +kernel
theorem dX7_laysPairs_42 : decode cX7_laysPairs 42 = .ok (.iconst 1, 1) := by decide +kernel
theorem dX7_laysPairs_43 : decode cX7_laysPairs 43 = .ok (.isub, 1) := by decide +kernel
theorem dX7_laysPairs_44 : decode cX7_laysPairs 44 = .ok (.istore 5, 2) := by decide +kernel
theorem dX7_laysPairs_46 : decode cX7_laysPairs 46 = .ok (.iload_n 2, 1) := by decide +kernel
theorem dX7_laysPairs_47 : decode cX7_laysPairs 47 = .ok (.iconst 5, 1) := by decide +kernel
theorem dX7_laysPairs_48 : decode cX7_laysPairs 48 = .ok (.idiv, 1) := by decide +kernel
theorem dX7_laysPairs_49 : decode cX7_laysPairs 49 = .ok (.istore_n 2, 1) := by decide +kernel
theorem dX7_laysPairs_50 : decode cX7_laysPairs 50 = .ok (.iload 5, 2) := by decide +kernel
theorem dX7_laysPairs_52 : decode cX7_laysPairs 52 = .ok (.iconst 4, 1) := by decide +kernel
theorem dX7_laysPairs_53 : decode cX7_laysPairs 53 = .ok (.if_icmp .lt 59, 3) := by decide +kernel
theorem dX7_laysPairs_56 : decode cX7_laysPairs 56 = .ok (.iload_n 3, 1) := by decide +kernel
theorem dX7_laysPairs_57 : decode cX7_laysPairs 57 = .ok (.ifCond .eq 35, 3) := by decide +kernel
theorem dX7_laysPairs_60 : decode cX7_laysPairs 60 = .ok (.aload_n 0, 1) := by decide +kernel
theorem dX7_laysPairs_61 : decode cX7_laysPairs 61 = .ok (.getfield 25, 3) := by decide +kernel
theorem dX7_laysPairs_64 : decode cX7_laysPairs 64 = .ok (.bipush 8, 2) := by decide +kernel
theorem dX7_laysPairs_66 : decode cX7_laysPairs 66 = .ok (.iload 4, 2) := by decide +kernel
theorem dX7_laysPairs_68 : decode cX7_laysPairs 68 = .ok (.imul, 1) := by decide +kernel
theorem dX7_laysPairs_69 : decode cX7_laysPairs 69 = .ok (.iload 5, 2) := by decide +kernel
theorem dX7_laysPairs_71 : decode cX7_laysPairs 71 = .ok (.iadd, 1) := by decide +kernel
theorem dX7_laysPairs_72 : decode cX7_laysPairs 72 = .ok (.iaload, 1) := by decide +kernel
theorem dX7_laysPairs_73 : decode cX7_laysPairs 73 = .ok (.ifCond .lt 19, 3) := by decide +kernel
theorem dX7_laysPairs_76 : decode cX7_laysPairs 76 = .ok (.aload_n 0, 1) := by decide +kernel
theorem dX7_laysPairs_77 : decode cX7_laysPairs 77 = .ok (.getfield 34, 3) := by decide +kernel
theorem dX7_laysPairs_80 : decode cX7_laysPairs 80 = .ok (.iload 5, 2) := by decide +kernel
theorem dX7_laysPairs_82 : decode cX7_laysPairs 82 = .ok (.iaload, 1) := by decide +kernel
theorem dX7_laysPairs_83 : decode cX7_laysPairs 83 = .ok (.bipush (-4), 2) := by decide +kernel
theorem dX7_laysPairs_85 : decode cX7_laysPairs 85 = .ok (.if_icmp .ne 7, 3) := by decide +kernel
theorem dX7_laysPairs_88 : decode cX7_laysPairs 88 = .ok (.iconst 1, 1) := by decide +kernel
theorem dX7_laysPairs_89 : decode cX7_laysPairs 89 = .ok (.goto 4, 3) := by decide +kernel
theorem dX7_laysPairs_92 : decode cX7_laysPairs 92 = .ok (.iconst 0, 1) := by decide +kernel
theorem dX7_laysPairs_93 : decode cX7_laysPairs 93 = .ok (.istore_n 3, 1) := by decide +kernel
theorem dX7_laysPairs_94 : decode cX7_laysPairs 94 = .ok (.aload_n 0, 1) := by decide +kernel
theorem dX7_laysPairs_95 : decode cX7_laysPairs 95 = .ok (.getfield 34, 3) := by decide +kernel
theorem dX7_laysPairs_98 : decode cX7_laysPairs 98 = .ok (.iload 4, 2) := by decide +kernel
theorem dX7_laysPairs_100 : decode cX7_laysPairs 100 = .ok (.iload 5, 2) := by decide +kernel
theorem dX7_laysPairs_102 : decode cX7_laysPairs 102 = .ok (.iastore, 1) := by decide +kernel
theorem dX7_laysPairs_103 : decode cX7_laysPairs 103 = .ok (.aload_n 0, 1) := by decide +kernel
theorem dX7_laysPairs_104 : decode cX7_laysPairs 104 = .ok (.getfield 34, 3) := by decide +kernel
theorem dX7_laysPairs_107 : decode cX7_laysPairs 107 = .ok (.iload 5, 2) := by decide +kernel
theorem dX7_laysPairs_109 : decode cX7_laysPairs 109 = .ok (.iload 4, 2) := by decide +kernel
theorem dX7_laysPairs_111 : decode cX7_laysPairs 111 = .ok (.iastore, 1) := by decide +kernel
theorem dX7_laysPairs_112 : decode cX7_laysPairs 112 = .ok (.iinc 4 (-1), 3) := by decide +kernel
theorem dX7_laysPairs_115 : decode cX7_laysPairs 115 = .ok (.goto (-83), 3) := by decide +kernel
theorem dX7_laysPairs_118 : decode cX7_laysPairs 118 = .ok (.iload_n 3, 1) := by decide +kernel
theorem dX7_laysPairs_119 : decode cX7_laysPairs 119 = .ok (.ireturn, 1) := by decide +kernel
theorem dX7_doQuarrel_0 : decode cX7_doQuarrel 0 = .ok (.aload_n 0, 1) := by decide +kernel
theorem dX7_doQuarrel_1 : decode cX7_doQuarrel 1 = .ok (.getfield 34, 3) := by decide +kernel
theorem dX7_doQuarrel_4 : decode cX7_doQuarrel 4 = .ok (.iload_n 1, 1) := by decide +kernel
theorem dX7_doQuarrel_5 : decode cX7_doQuarrel 5 = .ok (.iaload, 1) := by decide +kernel
theorem dX7_doQuarrel_6 : decode cX7_doQuarrel 6 = .ok (.iload_n 2, 1) := by decide +kernel
theorem dX7_doQuarrel_7 : decode cX7_doQuarrel 7 = .ok (.if_icmp .eq 37, 3) := by decide +kernel
theorem dX7_doQuarrel_10 : decode cX7_doQuarrel 10 = .ok (.aload_n 0, 1) := by decide +kernel
theorem dX7_doQuarrel_11 : decode cX7_doQuarrel 11 = .ok (.iload_n 1, 1) := by decide +kernel
theorem dX7_doQuarrel_12 : decode cX7_doQuarrel 12 = .ok (.iload_n 2, 1) := by decide +kernel
theorem dX7_doQuarrel_13 : decode cX7_doQuarrel 13 = .ok (.aload_n 0, 1) := by decide +kernel
theorem dX7_doQuarrel_14 : decode cX7_doQuarrel 14 = .ok (.getfield 34, 3) := by decide +kernel
theorem dX7_doQuarrel_17 : decode cX7_doQuarrel 17 = .ok (.iload_n 1, 1) := by decide +kernel
theorem dX7_doQuarrel_18 : decode cX7_doQuarrel 18 = .ok (.iaload, 1) := by decide +kernel
theorem dX7_doQuarrel_19 : decode cX7_doQuarrel 19 = .ok (.invokevirtual 198, 3) := by decide +kernel
theorem dX7_doQuarrel_22 : decode cX7_doQuarrel 22 = .ok (.ifCond .eq 22, 3) := by decide +kernel
theorem dX7_doQuarrel_25 : decode cX7_doQuarrel 25 = .ok (.aload_n 0, 1) := by decide +kernel
theorem dX7_doQuarrel_26 : decode cX7_doQuarrel 26 = .ok (.iload_n 2, 1) := by decide +kernel
theorem dX7_doQuarrel_27 : decode cX7_doQuarrel 27 = .ok (.iload_n 1, 1) := by decide +kernel
theorem dX7_doQuarrel_28 : decode cX7_doQuarrel 28 = .ok (.aload_n 0, 1) := by decide +kernel
theorem dX7_doQuarrel_29 : decode cX7_doQuarrel 29 = .ok (.getfield 34, 3) := by decide +kernel
theorem dX7_doQuarrel_32 : decode cX7_doQuarrel 32 = .ok (.iload_n 2, 1) := by decide +kernel
theorem dX7_doQuarrel_33 : decode cX7_doQuarrel 33 = .ok (.iaload, 1) := by decide +kernel
theorem dX7_doQuarrel_34 : decode cX7_doQuarrel 34 = .ok (.invokevirtual 198, 3) := by decide +kernel
theorem dX7_doQuarrel_37 : decode cX7_doQuarrel 37 = .ok (.ifCond .eq 7, 3) := by decide +kernel
theorem dX7_doQuarrel_40 : decode cX7_doQuarrel 40 = .ok (.iconst 1, 1) := by decide +kernel
theorem dX7_doQuarrel_41 : decode cX7_doQuarrel 41 = .ok (.goto 4, 3) := by decide +kernel
theorem dX7_doQuarrel_44 : decode cX7_doQuarrel 44 = .ok (.iconst 0, 1) := by decide +kernel
theorem dX7_doQuarrel_45 : decode cX7_doQuarrel 45 = .ok (.ireturn, 1) := by decide +kernel
theorem dX7_quarrels_0 : decode cX7_quarrels 0 = .ok (.iconst 0, 1) := by decide +kernel
theorem dX7_quarrels_1 : decode cX7_quarrels 1 = .ok (.istore_n 1, 1) := by decide +kernel
theorem dX7_quarrels_2 : decode cX7_quarrels 2 = .ok (.iconst 0, 1) := by decide +kernel
theorem dX7_quarrels_3 : decode cX7_quarrels 3 = .ok (.istore_n 2, 1) := by decide +kernel
theorem dX7_quarrels_4 : decode cX7_quarrels 4 = .ok (.iload_n 2, 1) := by decide +kernel
theorem dX7_quarrels_5 : decode cX7_quarrels 5 = .ok (.bipush 16, 2) := by decide +kernel
theorem dX7_quarrels_7 : decode cX7_quarrels 7 = .ok (.if_icmp .ge 32, 3) := by decide +kernel
theorem dX7_quarrels_10 : decode cX7_quarrels 10 = .ok (.iload_n 1, 1) := by decide +kernel
theorem dX7_quarrels_11 : decode cX7_quarrels 11 = .ok (.aload_n 0, 1) := by decide +kernel
theorem dX7_quarrels_12 : decode cX7_quarrels 12 = .ok (.iload_n 2, 1) := by decide +kernel
theorem dX7_quarrels_13 : decode cX7_quarrels 13 = .ok (.iconst 4, 1) := by decide +kernel
theorem dX7_quarrels_14 : decode cX7_quarrels 14 = .ok (.idiv, 1) := by decide +kernel
theorem dX7_quarrels_15 : decode cX7_quarrels 15 = .ok (.iconst 4, 1) := by decide +kernel
theorem dX7_quarrels_16 : decode cX7_quarrels 16 = .ok (.iload_n 2, 1) := by decide +kernel
theorem dX7_quarrels_17 : decode cX7_quarrels 17 = .ok (.iconst 4, 1) := by decide +kernel
theorem dX7_quarrels_18 : decode cX7_quarrels 18 = .ok (.irem, 1) := by decide +kernel
theorem dX7_quarrels_19 : decode cX7_quarrels 19 = .ok (.iadd, 1) := by decide +kernel
theorem dX7_quarrels_20 : decode cX7_quarrels 20 = .ok (.invokevirtual 234, 3) := by decide +kernel
theorem dX7_quarrels_23 : decode cX7_quarrels 23 = .ok (.ifCond .eq 7, 3) := by decide +kernel
theorem dX7_quarrels_26 : decode cX7_quarrels 26 = .ok (.iconst 1, 1) := by decide +kernel
theorem dX7_quarrels_27 : decode cX7_quarrels 27 = .ok (.goto 4, 3) := by decide +kernel
theorem dX7_quarrels_30 : decode cX7_quarrels 30 = .ok (.iconst 0, 1) := by decide +kernel
theorem dX7_quarrels_31 : decode cX7_quarrels 31 = .ok (.iadd, 1) := by decide +kernel
theorem dX7_quarrels_32 : decode cX7_quarrels 32 = .ok (.istore_n 1, 1) := by decide +kernel
theorem dX7_quarrels_33 : decode cX7_quarrels 33 = .ok (.iinc 2 1, 3) := by decide +kernel
theorem dX7_quarrels_36 : decode cX7_quarrels 36 = .ok (.goto (-32), 3) := by decide +kernel
theorem dX7_quarrels_39 : decode cX7_quarrels 39 = .ok (.iload_n 1, 1) := by decide +kernel
theorem dX7_quarrels_40 : decode cX7_quarrels 40 = .ok (.ireturn, 1) := by decide +kernel
theorem dX7_hold_0 : decode cX7_hold 0 = .ok (.iload_n 1, 1) := by decide +kernel
theorem dX7_hold_1 : decode cX7_hold 1 = .ok (.ifCond .eq 16, 3) := by decide +kernel
theorem dX7_hold_4 : decode cX7_hold 4 = .ok (.aload_n 0, 1) := by decide +kernel
theorem dX7_hold_5 : decode cX7_hold 5 = .ok (.iload_n 1, 1) := by decide +kernel
theorem dX7_hold_6 : decode cX7_hold 6 = .ok (.bipush 10, 2) := by decide +kernel
theorem dX7_hold_8 : decode cX7_hold 8 = .ok (.isub, 1) := by decide +kernel
theorem dX7_hold_9 : decode cX7_hold 9 = .ok (.invokevirtual 158, 3) := by decide +kernel
theorem dX7_hold_12 : decode cX7_hold 12 = .ok (.ifCond .ne 5, 3) := by decide +kernel
theorem dX7_hold_15 : decode cX7_hold 15 = .ok (.iconst (-1), 1) := by decide +kernel
theorem dX7_hold_16 : decode cX7_hold 16 = .ok (.ireturn, 1) := by decide +kernel
theorem dX7_hold_17 : decode cX7_hold 17 = .ok (.aload_n 0, 1) := by decide +kernel
theorem dX7_hold_18 : decode cX7_hold 18 = .ok (.iconst 0, 1) := by decide +kernel
theorem dX7_hold_19 : decode cX7_hold 19 = .ok (.invokevirtual 225, 3) := by decide +kernel
theorem dX7_hold_22 : decode cX7_hold 22 = .ok (.iconst 0, 1) := by decide +kernel
theorem dX7_hold_23 : decode cX7_hold 23 = .ok (.istore_n 2, 1) := by decide +kernel
theorem dX7_hold_24 : decode cX7_hold 24 = .ok (.iconst 0, 1) := by decide +kernel
theorem dX7_hold_25 : decode cX7_hold 25 = .ok (.istore_n 3, 1) := by decide +kernel
theorem dX7_hold_26 : decode cX7_hold 26 = .ok (.iload_n 3, 1) := by decide +kernel
theorem dX7_hold_27 : decode cX7_hold 27 = .ok (.sipush 625, 3) := by decide +kernel
theorem dX7_hold_30 : decode cX7_hold 30 = .ok (.if_icmp .ge 69, 3) := by decide +kernel
theorem dX7_hold_33 : decode cX7_hold 33 = .ok (.aload_n 0, 1) := by decide +kernel
theorem dX7_hold_34 : decode cX7_hold 34 = .ok (.iload_n 3, 1) := by decide +kernel
theorem dX7_hold_35 : decode cX7_hold 35 = .ok (.invokevirtual 237, 3) := by decide +kernel
theorem dX7_hold_38 : decode cX7_hold 38 = .ok (.ifCond .eq 14, 3) := by decide +kernel
theorem dX7_hold_41 : decode cX7_hold 41 = .ok (.aload_n 0, 1) := by decide +kernel
theorem dX7_hold_42 : decode cX7_hold 42 = .ok (.invokevirtual 240, 3) := by decide +kernel
theorem dX7_hold_45 : decode cX7_hold 45 = .ok (.ifCond .ne 7, 3) := by decide +kernel
theorem dX7_hold_48 : decode cX7_hold 48 = .ok (.iconst 1, 1) := by decide +kernel
theorem dX7_hold_49 : decode cX7_hold 49 = .ok (.goto 4, 3) := by decide +kernel
theorem dX7_hold_52 : decode cX7_hold 52 = .ok (.iconst 0, 1) := by decide +kernel
theorem dX7_hold_53 : decode cX7_hold 53 = .ok (.istore 4, 2) := by decide +kernel
theorem dX7_hold_55 : decode cX7_hold 55 = .ok (.iload_n 2, 1) := by decide +kernel
theorem dX7_hold_56 : decode cX7_hold 56 = .ok (.iload 4, 2) := by decide +kernel
theorem dX7_hold_58 : decode cX7_hold 58 = .ok (.ifCond .eq 32, 3) := by decide +kernel
theorem dX7_hold_61 : decode cX7_hold 61 = .ok (.iload_n 1, 1) := by decide +kernel
theorem dX7_hold_62 : decode cX7_hold 62 = .ok (.ifCond .eq 24, 3) := by decide +kernel
theorem dX7_hold_65 : decode cX7_hold 65 = .ok (.aload_n 0, 1) := by decide +kernel
theorem dX7_hold_66 : decode cX7_hold 66 = .ok (.getfield 34, 3) := by decide +kernel
theorem dX7_hold_69 : decode cX7_hold 69 = .ok (.iload_n 1, 1) := by decide +kernel
theorem dX7_hold_70 : decode cX7_hold 70 = .ok (.bipush 10, 2) := by decide +kernel
theorem dX7_hold_72 : decode cX7_hold 72 = .ok (.isub, 1) := by decide +kernel
theorem dX7_hold_73 : decode cX7_hold 73 = .ok (.iaload, 1) := by decide +kernel
theorem dX7_hold_74 : decode cX7_hold 74 = .ok (.aload_n 0, 1) := by decide +kernel
theorem dX7_hold_75 : decode cX7_hold 75 = .ok (.getfield 28, 3) := by decide +kernel
theorem dX7_hold_78 : decode cX7_hold 78 = .ok (.iload_n 1, 1) := by decide +kernel
theorem dX7_hold_79 : decode cX7_hold 79 = .ok (.bipush 10, 2) := by decide +kernel
theorem dX7_hold_81 : decode cX7_hold 81 = .ok (.isub, 1) := by decide +kernel
theorem dX7_hold_82 : decode cX7_hold 82 = .ok (.iaload, 1) := by decide +kernel
theorem dX7_hold_83 : decode cX7_hold 83 = .ok (.if_icmp .ne 7, 3) := by decide +kernel
theorem dX7_hold_86 : decode cX7_hold 86 = .ok (.iconst 1, 1) := by decide +kernel
theorem dX7_hold_87 : decode cX7_hold 87 = .ok (.goto 4, 3) := by decide +kernel
theorem dX7_hold_90 : decode cX7_hold 90 = .ok (.iconst 0, 1) := by decide +kernel
theorem dX7_hold_91 : decode cX7_hold 91 = .ok (.iadd, 1) := by decide +kernel
theorem dX7_hold_92 : decode cX7_hold 92 = .ok (.istore_n 2, 1) := by decide +kernel
theorem dX7_hold_93 : decode cX7_hold 93 = .ok (.iinc 3 1, 3) := by decide +kernel
theorem dX7_hold_96 : decode cX7_hold 96 = .ok (.goto (-70), 3) := by decide +kernel
theorem dX7_hold_99 : decode cX7_hold 99 = .ok (.iload_n 2, 1) := by decide +kernel
theorem dX7_hold_100 : decode cX7_hold 100 = .ok (.ireturn, 1) := by decide +kernel
theorem dX7_most_0 : decode cX7_most 0 = .ok (.iload_n 1, 1) := by decide +kernel
theorem dX7_most_1 : decode cX7_most 1 = .ok (.ifCond .eq 24, 3) := by decide +kernel
theorem dX7_most_4 : decode cX7_most 4 = .ok (.iload_n 1, 1) := by decide +kernel
theorem dX7_most_5 : decode cX7_most 5 = .ok (.i2l, 1) := by decide +kernel
theorem dX7_most_6 : decode cX7_most 6 = .ok (.ldc2_w 243, 3) := by decide +kernel
theorem dX7_most_9 : decode cX7_most 9 = .ok (.bipush 9, 2) := by decide +kernel
theorem dX7_most_11 : decode cX7_most 11 = .ok (.aload_n 0, 1) := by decide +kernel
theorem dX7_most_12 : decode cX7_most 12 = .ok (.getfield 147, 3) := by decide +kernel
theorem dX7_most_15 : decode cX7_most 15 = .ok (.iadd, 1) := by decide +kernel
theorem dX7_most_16 : decode cX7_most 16 = .ok (.i2l, 1) := by decide +kernel
theorem dX7_most_17 : decode cX7_most 17 = .ok (.invokestatic 58, 3) := by decide +kernel
theorem dX7_most_20 : decode cX7_most 20 = .ok (.ifCond .ne 5, 3) := by decide +kernel
theorem dX7_most_23 : decode cX7_most 23 = .ok (.iconst (-1), 1) := by decide +kernel
theorem dX7_most_24 : decode cX7_most 24 = .ok (.ireturn, 1) := by decide +kernel
theorem dX7_most_25 : decode cX7_most 25 = .ok (.aload_n 0, 1) := by decide +kernel
theorem dX7_most_26 : decode cX7_most 26 = .ok (.iconst 0, 1) := by decide +kernel
theorem dX7_most_27 : decode cX7_most 27 = .ok (.invokevirtual 195, 3) := by decide +kernel
theorem dX7_most_30 : decode cX7_most 30 = .ok (.iconst (-1), 1) := by decide +kernel
theorem dX7_most_31 : decode cX7_most 31 = .ok (.istore_n 2, 1) := by decide +kernel
theorem dX7_most_32 : decode cX7_most 32 = .ok (.iconst 0, 1) := by decide +kernel
theorem dX7_most_33 : decode cX7_most 33 = .ok (.istore_n 3, 1) := by decide +kernel
theorem dX7_most_34 : decode cX7_most 34 = .ok (.iconst 0, 1) := by decide +kernel
theorem dX7_most_35 : decode cX7_most 35 = .ok (.istore 4, 2) := by decide +kernel
theorem dX7_most_37 : decode cX7_most 37 = .ok (.iload 4, 2) := by decide +kernel
theorem dX7_most_39 : decode cX7_most 39 = .ok (.sipush 625, 3) := by decide +kernel
theorem dX7_most_42 : decode cX7_most 42 = .ok (.if_icmp .ge 102, 3) := by decide +kernel
theorem dX7_most_45 : decode cX7_most 45 = .ok (.aload_n 0, 1) := by decide +kernel
theorem dX7_most_46 : decode cX7_most 46 = .ok (.iload 4, 2) := by decide +kernel
theorem dX7_most_48 : decode cX7_most 48 = .ok (.invokevirtual 237, 3) := by decide +kernel
theorem dX7_most_51 : decode cX7_most 51 = .ok (.ifCond .eq 87, 3) := by decide +kernel
theorem dX7_most_54 : decode cX7_most 54 = .ok (.iconst 0, 1) := by decide +kernel
theorem dX7_most_55 : decode cX7_most 55 = .ok (.istore 5, 2) := by decide +kernel
theorem dX7_most_57 : decode cX7_most 57 = .ok (.iconst 0, 1) := by decide +kernel
theorem dX7_most_58 : decode cX7_most 58 = .ok (.istore 6, 2) := by decide +kernel
theorem dX7_most_60 : decode cX7_most 60 = .ok (.iload 6, 2) := by decide +kernel
theorem dX7_most_62 : decode cX7_most 62 = .ok (.bipush 8, 2) := by decide +kernel
theorem dX7_most_64 : decode cX7_most 64 = .ok (.if_icmp .ge 48, 3) := by decide +kernel
theorem dX7_most_67 : decode cX7_most 67 = .ok (.iload 5, 2) := by decide +kernel
theorem dX7_most_69 : decode cX7_most 69 = .ok (.aload_n 0, 1) := by decide +kernel
theorem dX7_most_70 : decode cX7_most 70 = .ok (.getfield 34, 3) := by decide +kernel
theorem dX7_most_73 : decode cX7_most 73 = .ok (.iload 6, 2) := by decide +kernel
theorem dX7_most_75 : decode cX7_most 75 = .ok (.iaload, 1) := by decide +kernel
theorem dX7_most_76 : decode cX7_most 76 = .ok (.bipush (-4), 2) := by decide +kernel
theorem dX7_most_78 : decode cX7_most 78 = .ok (.if_icmp .eq 24, 3) := by decide +kernel
theorem dX7_most_81 : decode cX7_most 81 = .ok (.aload_n 0, 1) := by decide +kernel
theorem dX7_most_82 : decode cX7_most 82 = .ok (.getfield 25, 3) := by decide +kernel
theorem dX7_most_85 : decode cX7_most 85 = .ok (.bipush 8, 2) := by decide +kernel
theorem dX7_most_87 : decode cX7_most 87 = .ok (.iload 6, 2) := by decide +kernel
theorem dX7_most_89 : decode cX7_most 89 = .ok (.imul, 1) := by decide +kernel
theorem dX7_most_90 : decode cX7_most 90 = .ok (.aload_n 0, 1) := by decide +kernel
theorem dX7_most_91 : decode cX7_most 91 = .ok (.getfield 34, 3) := by decide +kernel
theorem dX7_most_94 : decode cX7_most 94 = .ok (.iload 6, 2) := by decide +kernel
theorem dX7_most_96 : decode cX7_most 96 = .ok (.iaload, 1) := by decide +kernel
theorem dX7_most_97 : decode cX7_most 97 = .ok (.iadd, 1) := by decide +kernel
theorem dX7_most_98 : decode cX7_most 98 = .ok (.iaload, 1) := by decide +kernel
theorem dX7_most_99 : decode cX7_most 99 = .ok (.goto 4, 3) := by decide +kernel
theorem dX7_most_102 : decode cX7_most 102 = .ok (.iconst 0, 1) := by decide +kernel
theorem dX7_most_103 : decode cX7_most 103 = .ok (.iadd, 1) := by decide +kernel
theorem dX7_most_104 : decode cX7_most 104 = .ok (.istore 5, 2) := by decide +kernel
theorem dX7_most_106 : decode cX7_most 106 = .ok (.iinc 6 1, 3) := by decide +kernel
theorem dX7_most_109 : decode cX7_most 109 = .ok (.goto (-49), 3) := by decide +kernel
theorem dX7_most_112 : decode cX7_most 112 = .ok (.iload 5, 2) := by decide +kernel
theorem dX7_most_114 : decode cX7_most 114 = .ok (.iload_n 2, 1) := by decide +kernel
theorem dX7_most_115 : decode cX7_most 115 = .ok (.if_icmp .le 8, 3) := by decide +kernel
theorem dX7_most_118 : decode cX7_most 118 = .ok (.iload 4, 2) := by decide +kernel
theorem dX7_most_120 : decode cX7_most 120 = .ok (.goto 4, 3) := by decide +kernel
theorem dX7_most_123 : decode cX7_most 123 = .ok (.iload_n 3, 1) := by decide +kernel
theorem dX7_most_124 : decode cX7_most 124 = .ok (.istore_n 3, 1) := by decide +kernel
theorem dX7_most_125 : decode cX7_most 125 = .ok (.iload 5, 2) := by decide +kernel
theorem dX7_most_127 : decode cX7_most 127 = .ok (.iload_n 2, 1) := by decide +kernel
theorem dX7_most_128 : decode cX7_most 128 = .ok (.if_icmp .le 8, 3) := by decide +kernel
theorem dX7_most_131 : decode cX7_most 131 = .ok (.iload 5, 2) := by decide +kernel
theorem dX7_most_133 : decode cX7_most 133 = .ok (.goto 4, 3) := by decide +kernel
theorem dX7_most_136 : decode cX7_most 136 = .ok (.iload_n 2, 1) := by decide +kernel
theorem dX7_most_137 : decode cX7_most 137 = .ok (.istore_n 2, 1) := by decide +kernel
theorem dX7_most_138 : decode cX7_most 138 = .ok (.iinc 4 1, 3) := by decide +kernel
theorem dX7_most_141 : decode cX7_most 141 = .ok (.goto (-104), 3) := by decide +kernel
theorem dX7_most_144 : decode cX7_most 144 = .ok (.aload_n 0, 1) := by decide +kernel
theorem dX7_most_145 : decode cX7_most 145 = .ok (.iload_n 3, 1) := by decide +kernel
theorem dX7_most_146 : decode cX7_most 146 = .ok (.invokevirtual 237, 3) := by decide +kernel
theorem dX7_most_149 : decode cX7_most 149 = .ok (.pop, 1) := by decide +kernel
theorem dX7_most_150 : decode cX7_most 150 = .ok (.iload_n 1, 1) := by decide +kernel
theorem dX7_most_151 : decode cX7_most 151 = .ok (.ifCond .ne 7, 3) := by decide +kernel
theorem dX7_most_154 : decode cX7_most 154 = .ok (.iload_n 2, 1) := by decide +kernel
theorem dX7_most_155 : decode cX7_most 155 = .ok (.goto 12, 3) := by decide +kernel
theorem dX7_most_158 : decode cX7_most 158 = .ok (.aload_n 0, 1) := by decide +kernel
theorem dX7_most_159 : decode cX7_most 159 = .ok (.getfield 34, 3) := by decide +kernel
theorem dX7_most_162 : decode cX7_most 162 = .ok (.iload_n 1, 1) := by decide +kernel
theorem dX7_most_163 : decode cX7_most 163 = .ok (.bipush 10, 2) := by decide +kernel
theorem dX7_most_165 : decode cX7_most 165 = .ok (.isub, 1) := by decide +kernel
theorem dX7_most_166 : decode cX7_most 166 = .ok (.iaload, 1) := by decide +kernel
theorem dX7_most_167 : decode cX7_most 167 = .ok (.ireturn, 1) := by decide +kernel
theorem dX7_quarrel_0 : decode cX7_quarrel 0 = .ok (.iload_n 1, 1) := by decide +kernel
theorem dX7_quarrel_1 : decode cX7_quarrel 1 = .ok (.i2l, 1) := by decide +kernel
theorem dX7_quarrel_2 : decode cX7_quarrel 2 = .ok (.lconst 0, 1) := by decide +kernel
theorem dX7_quarrel_3 : decode cX7_quarrel 3 = .ok (.lconst 1, 1) := by decide +kernel
theorem dX7_quarrel_4 : decode cX7_quarrel 4 = .ok (.invokestatic 58, 3) := by decide +kernel
theorem dX7_quarrel_7 : decode cX7_quarrel 7 = .ok (.ifCond .ne 5, 3) := by decide +kernel
theorem dX7_quarrel_10 : decode cX7_quarrel 10 = .ok (.iconst (-1), 1) := by decide +kernel
theorem dX7_quarrel_11 : decode cX7_quarrel 11 = .ok (.ireturn, 1) := by decide +kernel
theorem dX7_quarrel_12 : decode cX7_quarrel 12 = .ok (.aload_n 0, 1) := by decide +kernel
theorem dX7_quarrel_13 : decode cX7_quarrel 13 = .ok (.iconst 0, 1) := by decide +kernel
theorem dX7_quarrel_14 : decode cX7_quarrel 14 = .ok (.invokevirtual 195, 3) := by decide +kernel
theorem dX7_quarrel_17 : decode cX7_quarrel 17 = .ok (.iconst 0, 1) := by decide +kernel
theorem dX7_quarrel_18 : decode cX7_quarrel 18 = .ok (.istore_n 2, 1) := by decide +kernel
theorem dX7_quarrel_19 : decode cX7_quarrel 19 = .ok (.iload_n 2, 1) := by decide +kernel
theorem dX7_quarrel_20 : decode cX7_quarrel 20 = .ok (.bipush 8, 2) := by decide +kernel
theorem dX7_quarrel_22 : decode cX7_quarrel 22 = .ok (.if_icmp .ge 20, 3) := by decide +kernel
theorem dX7_quarrel_25 : decode cX7_quarrel 25 = .ok (.aload_n 0, 1) := by decide +kernel
theorem dX7_quarrel_26 : decode cX7_quarrel 26 = .ok (.getfield 34, 3) := by decide +kernel
theorem dX7_quarrel_29 : decode cX7_quarrel 29 = .ok (.iload_n 2, 1) := by decide +kernel
theorem dX7_quarrel_30 : decode cX7_quarrel 30 = .ok (.aload_n 0, 1) := by decide +kernel
theorem dX7_quarrel_31 : decode cX7_quarrel 31 = .ok (.iload_n 2, 1) := by decide +kernel
theorem dX7_quarrel_32 : decode cX7_quarrel 32 = .ok (.invokevirtual 162, 3) := by decide +kernel
theorem dX7_quarrel_35 : decode cX7_quarrel 35 = .ok (.iastore, 1) := by decide +kernel
theorem dX7_quarrel_36 : decode cX7_quarrel 36 = .ok (.iinc 2 1, 3) := by decide +kernel
theorem dX7_quarrel_39 : decode cX7_quarrel 39 = .ok (.goto (-20), 3) := by decide +kernel
theorem dX7_quarrel_42 : decode cX7_quarrel 42 = .ok (.iload_n 1, 1) := by decide +kernel
theorem dX7_quarrel_43 : decode cX7_quarrel 43 = .ok (.ifCond .ne 8, 3) := by decide +kernel
theorem dX7_quarrel_46 : decode cX7_quarrel 46 = .ok (.aload_n 0, 1) := by decide +kernel
theorem dX7_quarrel_47 : decode cX7_quarrel 47 = .ok (.invokevirtual 240, 3) := by decide +kernel
theorem dX7_quarrel_50 : decode cX7_quarrel 50 = .ok (.ireturn, 1) := by decide +kernel
theorem dX7_quarrel_51 : decode cX7_quarrel 51 = .ok (.iconst 0, 1) := by decide +kernel
theorem dX7_quarrel_52 : decode cX7_quarrel 52 = .ok (.istore_n 2, 1) := by decide +kernel
theorem dX7_quarrel_53 : decode cX7_quarrel 53 = .ok (.iload_n 2, 1) := by decide +kernel
theorem dX7_quarrel_54 : decode cX7_quarrel 54 = .ok (.bipush 16, 2) := by decide +kernel
theorem dX7_quarrel_56 : decode cX7_quarrel 56 = .ok (.if_icmp .ge 37, 3) := by decide +kernel
theorem dX7_quarrel_59 : decode cX7_quarrel 59 = .ok (.aload_n 0, 1) := by decide +kernel
theorem dX7_quarrel_60 : decode cX7_quarrel 60 = .ok (.iload_n 2, 1) := by decide +kernel
theorem dX7_quarrel_61 : decode cX7_quarrel 61 = .ok (.iconst 4, 1) := by decide +kernel
theorem dX7_quarrel_62 : decode cX7_quarrel 62 = .ok (.idiv, 1) := by decide +kernel
theorem dX7_quarrel_63 : decode cX7_quarrel 63 = .ok (.iconst 4, 1) := by decide +kernel
theorem dX7_quarrel_64 : decode cX7_quarrel 64 = .ok (.iload_n 2, 1) := by decide +kernel
theorem dX7_quarrel_65 : decode cX7_quarrel 65 = .ok (.iconst 4, 1) := by decide +kernel
theorem dX7_quarrel_66 : decode cX7_quarrel 66 = .ok (.irem, 1) := by decide +kernel
theorem dX7_quarrel_67 : decode cX7_quarrel 67 = .ok (.iadd, 1) := by decide +kernel
theorem dX7_quarrel_68 : decode cX7_quarrel 68 = .ok (.invokevirtual 234, 3) := by decide +kernel
theorem dX7_quarrel_71 : decode cX7_quarrel 71 = .ok (.ifCond .eq 16, 3) := by decide +kernel
theorem dX7_quarrel_74 : decode cX7_quarrel 74 = .ok (.bipush 10, 2) := by decide +kernel
theorem dX7_quarrel_76 : decode cX7_quarrel 76 = .ok (.iload_n 2, 1) := by decide +kernel
theorem dX7_quarrel_77 : decode cX7_quarrel 77 = .ok (.iconst 4, 1) := by decide +kernel
theorem dX7_quarrel_78 : decode cX7_quarrel 78 = .ok (.idiv, 1) := by decide +kernel
theorem dX7_quarrel_79 : decode cX7_quarrel 79 = .ok (.imul, 1) := by decide +kernel
theorem dX7_quarrel_80 : decode cX7_quarrel 80 = .ok (.iconst 4, 1) := by decide +kernel
theorem dX7_quarrel_81 : decode cX7_quarrel 81 = .ok (.iadd, 1) := by decide +kernel
theorem dX7_quarrel_82 : decode cX7_quarrel 82 = .ok (.iload_n 2, 1) := by decide +kernel
theorem dX7_quarrel_83 : decode cX7_quarrel 83 = .ok (.iconst 4, 1) := by decide +kernel
theorem dX7_quarrel_84 : decode cX7_quarrel 84 = .ok (.irem, 1) := by decide +kernel
theorem dX7_quarrel_85 : decode cX7_quarrel 85 = .ok (.iadd, 1) := by decide +kernel
theorem dX7_quarrel_86 : decode cX7_quarrel 86 = .ok (.ireturn, 1) := by decide +kernel
theorem dX7_quarrel_87 : decode cX7_quarrel 87 = .ok (.iinc 2 1, 3) := by decide +kernel
theorem dX7_quarrel_90 : decode cX7_quarrel 90 = .ok (.goto (-37), 3) := by decide +kernel
theorem dX7_quarrel_93 : decode cX7_quarrel 93 = .ok (.bipush (-4), 2) := by decide +kernel
theorem dX7_quarrel_95 : decode cX7_quarrel 95 = .ok (.ireturn, 1) := by decide +kernel
theorem dX7_alone_0 : decode cX7_alone 0 = .ok (.aload_n 0, 1) := by decide +kernel
theorem dX7_alone_1 : decode cX7_alone 1 = .ok (.iconst 0, 1) := by decide +kernel
theorem dX7_alone_2 : decode cX7_alone 2 = .ok (.invokevirtual 225, 3) := by decide +kernel
theorem dX7_alone_5 : decode cX7_alone 5 = .ok (.iconst 0, 1) := by decide +kernel
theorem dX7_alone_6 : decode cX7_alone 6 = .ok (.istore_n 1, 1) := by decide +kernel
theorem dX7_alone_7 : decode cX7_alone 7 = .ok (.iconst 0, 1) := by decide +kernel
theorem dX7_alone_8 : decode cX7_alone 8 = .ok (.istore_n 2, 1) := by decide +kernel
theorem dX7_alone_9 : decode cX7_alone 9 = .ok (.iload_n 2, 1) := by decide +kernel
theorem dX7_alone_10 : decode cX7_alone 10 = .ok (.bipush 8, 2) := by decide +kernel
theorem dX7_alone_12 : decode cX7_alone 12 = .ok (.if_icmp .ge 38, 3) := by decide +kernel
theorem dX7_alone_15 : decode cX7_alone 15 = .ok (.iload_n 1, 1) := by decide +kernel
theorem dX7_alone_16 : decode cX7_alone 16 = .ok (.aload_n 0, 1) := by decide +kernel
theorem dX7_alone_17 : decode cX7_alone 17 = .ok (.iload_n 2, 1) := by decide +kernel
theorem dX7_alone_18 : decode cX7_alone 18 = .ok (.invokevirtual 158, 3) := by decide +kernel
theorem dX7_alone_21 : decode cX7_alone 21 = .ok (.ifCond .eq 20, 3) := by decide +kernel
theorem dX7_alone_24 : decode cX7_alone 24 = .ok (.aload_n 0, 1) := by decide +kernel
theorem dX7_alone_25 : decode cX7_alone 25 = .ok (.getfield 28, 3) := by decide +kernel
theorem dX7_alone_28 : decode cX7_alone 28 = .ok (.iload_n 2, 1) := by decide +kernel
theorem dX7_alone_29 : decode cX7_alone 29 = .ok (.iaload, 1) := by decide +kernel
theorem dX7_alone_30 : decode cX7_alone 30 = .ok (.bipush (-4), 2) := by decide +kernel
theorem dX7_alone_32 : decode cX7_alone 32 = .ok (.if_icmp .ne 9, 3) := by decide +kernel
theorem dX7_alone_35 : decode cX7_alone 35 = .ok (.iconst 1, 1) := by decide +kernel
theorem dX7_alone_36 : decode cX7_alone 36 = .ok (.iload_n 2, 1) := by decide +kernel
theorem dX7_alone_37 : decode cX7_alone 37 = .ok (.ishl, 1) := by decide +kernel
theorem dX7_alone_38 : decode cX7_alone 38 = .ok (.goto 4, 3) := by decide +kernel
theorem dX7_alone_41 : decode cX7_alone 41 = .ok (.iconst 0, 1) := by decide +kernel
theorem dX7_alone_42 : decode cX7_alone 42 = .ok (.ior, 1) := by decide +kernel
theorem dX7_alone_43 : decode cX7_alone 43 = .ok (.istore_n 1, 1) := by decide +kernel
theorem dX7_alone_44 : decode cX7_alone 44 = .ok (.iinc 2 1, 3) := by decide +kernel
theorem dX7_alone_47 : decode cX7_alone 47 = .ok (.goto (-38), 3) := by decide +kernel
theorem dX7_alone_50 : decode cX7_alone 50 = .ok (.iload_n 1, 1) := by decide +kernel
theorem dX7_alone_51 : decode cX7_alone 51 = .ok (.ireturn, 1) := by decide +kernel
theorem dX7_copies_0 : decode cX7_copies 0 = .ok (.iconst 0, 1) := by decide +kernel
theorem dX7_copies_1 : decode cX7_copies 1 = .ok (.istore_n 3, 1) := by decide +kernel
theorem dX7_copies_2 : decode cX7_copies 2 = .ok (.iload_n 3, 1) := by decide +kernel
theorem dX7_copies_3 : decode cX7_copies 3 = .ok (.bipush 50, 2) := by decide +kernel
theorem dX7_copies_5 : decode cX7_copies 5 = .ok (.if_icmp .ge 25, 3) := by decide +kernel
theorem dX7_copies_8 : decode cX7_copies 8 = .ok (.aload_n 0, 1) := by decide +kernel
theorem dX7_copies_9 : decode cX7_copies 9 = .ok (.getfield 7, 3) := by decide +kernel
theorem dX7_copies_12 : decode cX7_copies 12 = .ok (.iload_n 2, 1) := by decide +kernel
theorem dX7_copies_13 : decode cX7_copies 13 = .ok (.iload_n 3, 1) := by decide +kernel
theorem dX7_copies_14 : decode cX7_copies 14 = .ok (.iadd, 1) := by decide +kernel
theorem dX7_copies_15 : decode cX7_copies 15 = .ok (.aload_n 0, 1) := by decide +kernel
theorem dX7_copies_16 : decode cX7_copies 16 = .ok (.getfield 7, 3) := by decide +kernel
theorem dX7_copies_19 : decode cX7_copies 19 = .ok (.iload_n 1, 1) := by decide +kernel
theorem dX7_copies_20 : decode cX7_copies 20 = .ok (.iload_n 3, 1) := by decide +kernel
theorem dX7_copies_21 : decode cX7_copies 21 = .ok (.iadd, 1) := by decide +kernel
theorem dX7_copies_22 : decode cX7_copies 22 = .ok (.iaload, 1) := by decide +kernel
theorem dX7_copies_23 : decode cX7_copies 23 = .ok (.iastore, 1) := by decide +kernel
theorem dX7_copies_24 : decode cX7_copies 24 = .ok (.iinc 3 1, 3) := by decide +kernel
theorem dX7_copies_27 : decode cX7_copies 27 = .ok (.goto (-25), 3) := by decide +kernel
theorem dX7_copies_30 : decode cX7_copies 30 = .ok (.return_, 1) := by decide +kernel
theorem dX7_nears_0 : decode cX7_nears 0 = .ok (.aload_n 0, 1) := by decide +kernel
theorem dX7_nears_1 : decode cX7_nears 1 = .ok (.getfield 7, 3) := by decide +kernel
theorem dX7_nears_4 : decode cX7_nears 4 = .ok (.iload_n 1, 1) := by decide +kernel
theorem dX7_nears_5 : decode cX7_nears 5 = .ok (.iload_n 2, 1) := by decide +kernel
theorem dX7_nears_6 : decode cX7_nears 6 = .ok (.iadd, 1) := by decide +kernel
theorem dX7_nears_7 : decode cX7_nears 7 = .ok (.iaload, 1) := by decide +kernel
theorem dX7_nears_8 : decode cX7_nears 8 = .ok (.istore 4, 2) := by decide +kernel
theorem dX7_nears_10 : decode cX7_nears 10 = .ok (.aload_n 0, 1) := by decide +kernel
theorem dX7_nears_11 : decode cX7_nears 11 = .ok (.getfield 7, 3) := by decide +kernel
theorem dX7_nears_14 : decode cX7_nears 14 = .ok (.iload_n 1, 1) := by decide +kernel
theorem dX7_nears_15 : decode cX7_nears 15 = .ok (.iload_n 3, 1) := by decide +kernel
theorem dX7_nears_16 : decode cX7_nears 16 = .ok (.iadd, 1) := by decide +kernel
theorem dX7_nears_17 : decode cX7_nears 17 = .ok (.iaload, 1) := by decide +kernel
theorem dX7_nears_18 : decode cX7_nears 18 = .ok (.istore 5, 2) := by decide +kernel
theorem dX7_nears_20 : decode cX7_nears 20 = .ok (.iload 4, 2) := by decide +kernel
theorem dX7_nears_22 : decode cX7_nears 22 = .ok (.iload 5, 2) := by decide +kernel
theorem dX7_nears_24 : decode cX7_nears 24 = .ok (.invokestatic 189, 3) := by decide +kernel
theorem dX7_nears_27 : decode cX7_nears 27 = .ok (.istore 6, 2) := by decide +kernel
theorem dX7_nears_29 : decode cX7_nears 29 = .ok (.iload 4, 2) := by decide +kernel
theorem dX7_nears_31 : decode cX7_nears 31 = .ok (.iload 5, 2) := by decide +kernel
theorem dX7_nears_33 : decode cX7_nears 33 = .ok (.if_icmp .ge 7, 3) := by decide +kernel
theorem dX7_nears_36 : decode cX7_nears 36 = .ok (.iconst 1, 1) := by decide +kernel
theorem dX7_nears_37 : decode cX7_nears 37 = .ok (.goto 4, 3) := by decide +kernel
theorem dX7_nears_40 : decode cX7_nears 40 = .ok (.iconst 0, 1) := by decide +kernel
theorem dX7_nears_41 : decode cX7_nears 41 = .ok (.istore 7, 2) := by decide +kernel
theorem dX7_nears_43 : decode cX7_nears 43 = .ok (.iload 6, 2) := by decide +kernel
theorem dX7_nears_45 : decode cX7_nears 45 = .ok (.ifCond .le 7, 3) := by decide +kernel
theorem dX7_nears_48 : decode cX7_nears 48 = .ok (.iconst 1, 1) := by decide +kernel
theorem dX7_nears_49 : decode cX7_nears 49 = .ok (.goto 4, 3) := by decide +kernel
theorem dX7_nears_52 : decode cX7_nears 52 = .ok (.iconst 0, 1) := by decide +kernel
theorem dX7_nears_53 : decode cX7_nears 53 = .ok (.istore 8, 2) := by decide +kernel
theorem dX7_nears_55 : decode cX7_nears 55 = .ok (.iload 6, 2) := by decide +kernel
theorem dX7_nears_57 : decode cX7_nears 57 = .ok (.iconst 1, 1) := by decide +kernel
theorem dX7_nears_58 : decode cX7_nears 58 = .ok (.if_icmp .le 7, 3) := by decide +kernel
theorem dX7_nears_61 : decode cX7_nears 61 = .ok (.iconst 1, 1) := by decide +kernel
theorem dX7_nears_62 : decode cX7_nears 62 = .ok (.goto 4, 3) := by decide +kernel
theorem dX7_nears_65 : decode cX7_nears 65 = .ok (.iconst 0, 1) := by decide +kernel
theorem dX7_nears_66 : decode cX7_nears 66 = .ok (.istore 9, 2) := by decide +kernel
theorem dX7_nears_68 : decode cX7_nears 68 = .ok (.aload_n 0, 1) := by decide +kernel
theorem dX7_nears_69 : decode cX7_nears 69 = .ok (.getfield 7, 3) := by decide +kernel
theorem dX7_nears_72 : decode cX7_nears 72 = .ok (.iload_n 1, 1) := by decide +kernel
theorem dX7_nears_73 : decode cX7_nears 73 = .ok (.iload_n 2, 1) := by decide +kernel
theorem dX7_nears_74 : decode cX7_nears 74 = .ok (.iadd, 1) := by decide +kernel
theorem dX7_nears_75 : decode cX7_nears 75 = .ok (.dup2, 1) := by decide +kernel
theorem dX7_nears_76 : decode cX7_nears 76 = .ok (.iaload, 1) := by decide +kernel
theorem dX7_nears_77 : decode cX7_nears 77 = .ok (.iload 7, 2) := by decide +kernel
theorem dX7_nears_79 : decode cX7_nears 79 = .ok (.ifCond .eq 8, 3) := by decide +kernel
theorem dX7_nears_82 : decode cX7_nears 82 = .ok (.iload 8, 2) := by decide +kernel
theorem dX7_nears_84 : decode cX7_nears 84 = .ok (.goto 6, 3) := by decide +kernel
theorem dX7_nears_87 : decode cX7_nears 87 = .ok (.iload 9, 2) := by decide +kernel
theorem dX7_nears_89 : decode cX7_nears 89 = .ok (.ineg, 1) := by decide +kernel
theorem dX7_nears_90 : decode cX7_nears 90 = .ok (.iadd, 1) := by decide +kernel
theorem dX7_nears_91 : decode cX7_nears 91 = .ok (.iastore, 1) := by decide +kernel
theorem dX7_nears_92 : decode cX7_nears 92 = .ok (.aload_n 0, 1) := by decide +kernel
theorem dX7_nears_93 : decode cX7_nears 93 = .ok (.getfield 7, 3) := by decide +kernel
theorem dX7_nears_96 : decode cX7_nears 96 = .ok (.iload_n 1, 1) := by decide +kernel
theorem dX7_nears_97 : decode cX7_nears 97 = .ok (.iload_n 3, 1) := by decide +kernel
theorem dX7_nears_98 : decode cX7_nears 98 = .ok (.iadd, 1) := by decide +kernel
theorem dX7_nears_99 : decode cX7_nears 99 = .ok (.dup2, 1) := by decide +kernel
theorem dX7_nears_100 : decode cX7_nears 100 = .ok (.iaload, 1) := by decide +kernel
theorem dX7_nears_101 : decode cX7_nears 101 = .ok (.iload 7, 2) := by decide +kernel
theorem dX7_nears_103 : decode cX7_nears 103 = .ok (.ifCond .eq 9, 3) := by decide +kernel
theorem dX7_nears_106 : decode cX7_nears 106 = .ok (.iload 9, 2) := by decide +kernel
theorem dX7_nears_108 : decode cX7_nears 108 = .ok (.ineg, 1) := by decide +kernel
theorem dX7_nears_109 : decode cX7_nears 109 = .ok (.goto 5, 3) := by decide +kernel
theorem dX7_nears_112 : decode cX7_nears 112 = .ok (.iload 8, 2) := by decide +kernel
theorem dX7_nears_114 : decode cX7_nears 114 = .ok (.iadd, 1) := by decide +kernel
theorem dX7_nears_115 : decode cX7_nears 115 = .ok (.iastore, 1) := by decide +kernel
theorem dX7_nears_116 : decode cX7_nears 116 = .ok (.return_, 1) := by decide +kernel
theorem dX7_yearGoes_0 : decode cX7_yearGoes 0 = .ok (.iconst 0, 1) := by decide +kernel
theorem dX7_yearGoes_1 : decode cX7_yearGoes 1 = .ok (.istore_n 1, 1) := by decide +kernel
theorem dX7_yearGoes_2 : decode cX7_yearGoes 2 = .ok (.iload_n 1, 1) := by decide +kernel
theorem dX7_yearGoes_3 : decode cX7_yearGoes 3 = .ok (.iconst 4, 1) := by decide +kernel
theorem dX7_yearGoes_4 : decode cX7_yearGoes 4 = .ok (.if_icmp .ge 53, 3) := by decide +kernel
theorem dX7_yearGoes_7 : decode cX7_yearGoes 7 = .ok (.aload_n 0, 1) := by decide +kernel
theorem dX7_yearGoes_8 : decode cX7_yearGoes 8 = .ok (.getfield 7, 3) := by decide +kernel
theorem dX7_yearGoes_11 : decode cX7_yearGoes 11 = .ok (.bipush 45, 2) := by decide +kernel
theorem dX7_yearGoes_13 : decode cX7_yearGoes 13 = .ok (.iload_n 1, 1) := by decide +kernel
theorem dX7_yearGoes_14 : decode cX7_yearGoes 14 = .ok (.iadd, 1) := by decide +kernel
theorem dX7_yearGoes_15 : decode cX7_yearGoes 15 = .ok (.iaload, 1) := by decide +kernel
theorem dX7_yearGoes_16 : decode cX7_yearGoes 16 = .ok (.ifCond .eq 35, 3) := by decide +kernel
theorem dX7_yearGoes_19 : decode cX7_yearGoes 19 = .ok (.aload_n 0, 1) := by decide +kernel
theorem dX7_yearGoes_20 : decode cX7_yearGoes 20 = .ok (.bipush 8, 2) := by decide +kernel
theorem dX7_yearGoes_22 : decode cX7_yearGoes 22 = .ok (.iload_n 1, 1) := by decide +kernel
theorem dX7_yearGoes_23 : decode cX7_yearGoes 23 = .ok (.aload_n 0, 1) := by decide +kernel
theorem dX7_yearGoes_24 : decode cX7_yearGoes 24 = .ok (.getfield 7, 3) := by decide +kernel
theorem dX7_yearGoes_27 : decode cX7_yearGoes 27 = .ok (.bipush 45, 2) := by decide +kernel
theorem dX7_yearGoes_29 : decode cX7_yearGoes 29 = .ok (.iload_n 1, 1) := by decide +kernel
theorem dX7_yearGoes_30 : decode cX7_yearGoes 30 = .ok (.iadd, 1) := by decide +kernel
theorem dX7_yearGoes_31 : decode cX7_yearGoes 31 = .ok (.iaload, 1) := by decide +kernel
theorem dX7_yearGoes_32 : decode cX7_yearGoes 32 = .ok (.invokevirtual 245, 3) := by decide +kernel
theorem dX7_yearGoes_35 : decode cX7_yearGoes 35 = .ok (.aload_n 0, 1) := by decide +kernel
theorem dX7_yearGoes_36 : decode cX7_yearGoes 36 = .ok (.bipush 16, 2) := by decide +kernel
theorem dX7_yearGoes_38 : decode cX7_yearGoes 38 = .ok (.iload_n 1, 1) := by decide +kernel
theorem dX7_yearGoes_39 : decode cX7_yearGoes 39 = .ok (.aload_n 0, 1) := by decide +kernel
theorem dX7_yearGoes_40 : decode cX7_yearGoes 40 = .ok (.getfield 7, 3) := by decide +kernel
theorem dX7_yearGoes_43 : decode cX7_yearGoes 43 = .ok (.bipush 45, 2) := by decide +kernel
theorem dX7_yearGoes_45 : decode cX7_yearGoes 45 = .ok (.iload_n 1, 1) := by decide +kernel
theorem dX7_yearGoes_46 : decode cX7_yearGoes 46 = .ok (.iadd, 1) := by decide +kernel
theorem dX7_yearGoes_47 : decode cX7_yearGoes 47 = .ok (.iaload, 1) := by decide +kernel
theorem dX7_yearGoes_48 : decode cX7_yearGoes 48 = .ok (.invokevirtual 245, 3) := by decide +kernel
theorem dX7_yearGoes_51 : decode cX7_yearGoes 51 = .ok (.iinc 1 1, 3) := by decide +kernel
theorem dX7_yearGoes_54 : decode cX7_yearGoes 54 = .ok (.goto (-52), 3) := by decide +kernel
theorem dX7_yearGoes_57 : decode cX7_yearGoes 57 = .ok (.aload_n 0, 1) := by decide +kernel
theorem dX7_yearGoes_58 : decode cX7_yearGoes 58 = .ok (.getfield 7, 3) := by decide +kernel
theorem dX7_yearGoes_61 : decode cX7_yearGoes 61 = .ok (.bipush 49, 2) := by decide +kernel
theorem dX7_yearGoes_63 : decode cX7_yearGoes 63 = .ok (.dup2, 1) := by decide +kernel
theorem dX7_yearGoes_64 : decode cX7_yearGoes 64 = .ok (.iaload, 1) := by decide +kernel
theorem dX7_yearGoes_65 : decode cX7_yearGoes 65 = .ok (.iconst 1, 1) := by decide +kernel
theorem dX7_yearGoes_66 : decode cX7_yearGoes 66 = .ok (.iadd, 1) := by decide +kernel
theorem dX7_yearGoes_67 : decode cX7_yearGoes 67 = .ok (.iastore, 1) := by decide +kernel
theorem dX7_yearGoes_68 : decode cX7_yearGoes 68 = .ok (.return_, 1) := by decide +kernel
theorem dX7_years_0 : decode cX7_years 0 = .ok (.iload_n 1, 1) := by decide +kernel
theorem dX7_years_1 : decode cX7_years 1 = .ok (.i2l, 1) := by decide +kernel
theorem dX7_years_2 : decode cX7_years 2 = .ok (.lconst 0, 1) := by decide +kernel
theorem dX7_years_3 : decode cX7_years 3 = .ok (.ldc2_w 249, 3) := by decide +kernel
theorem dX7_years_6 : decode cX7_years 6 = .ok (.invokestatic 58, 3) := by decide +kernel
theorem dX7_years_9 : decode cX7_years 9 = .ok (.ifCond .ne 5, 3) := by decide +kernel
theorem dX7_years_12 : decode cX7_years 12 = .ok (.iconst (-1), 1) := by decide +kernel
theorem dX7_years_13 : decode cX7_years 13 = .ok (.ireturn, 1) := by decide +kernel
theorem dX7_years_14 : decode cX7_years 14 = .ok (.aload_n 0, 1) := by decide +kernel
theorem dX7_years_15 : decode cX7_years 15 = .ok (.getfield 7, 3) := by decide +kernel
theorem dX7_years_18 : decode cX7_years 18 = .ok (.bipush 49, 2) := by decide +kernel
theorem dX7_years_20 : decode cX7_years 20 = .ok (.iaload, 1) := by decide +kernel
theorem dX7_years_21 : decode cX7_years 21 = .ok (.iload_n 1, 1) := by decide +kernel
theorem dX7_years_22 : decode cX7_years 22 = .ok (.iadd, 1) := by decide +kernel
theorem dX7_years_23 : decode cX7_years 23 = .ok (.sipush 999, 3) := by decide +kernel
theorem dX7_years_26 : decode cX7_years 26 = .ok (.if_icmp .le 6, 3) := by decide +kernel
theorem dX7_years_29 : decode cX7_years 29 = .ok (.bipush (-3), 2) := by decide +kernel
theorem dX7_years_31 : decode cX7_years 31 = .ok (.ireturn, 1) := by decide +kernel
theorem dX7_years_32 : decode cX7_years 32 = .ok (.iconst 0, 1) := by decide +kernel
theorem dX7_years_33 : decode cX7_years 33 = .ok (.istore_n 2, 1) := by decide +kernel
theorem dX7_years_34 : decode cX7_years 34 = .ok (.iload_n 2, 1) := by decide +kernel
theorem dX7_years_35 : decode cX7_years 35 = .ok (.iload_n 1, 1) := by decide +kernel
theorem dX7_years_36 : decode cX7_years 36 = .ok (.if_icmp .ge 13, 3) := by decide +kernel
theorem dX7_years_39 : decode cX7_years 39 = .ok (.aload_n 0, 1) := by decide +kernel
theorem dX7_years_40 : decode cX7_years 40 = .ok (.invokevirtual 251, 3) := by decide +kernel
theorem dX7_years_43 : decode cX7_years 43 = .ok (.iinc 2 1, 3) := by decide +kernel
theorem dX7_years_46 : decode cX7_years 46 = .ok (.goto (-12), 3) := by decide +kernel
theorem dX7_years_49 : decode cX7_years 49 = .ok (.aload_n 0, 1) := by decide +kernel
theorem dX7_years_50 : decode cX7_years 50 = .ok (.getfield 7, 3) := by decide +kernel
theorem dX7_years_53 : decode cX7_years 53 = .ok (.bipush 49, 2) := by decide +kernel
theorem dX7_years_55 : decode cX7_years 55 = .ok (.iaload, 1) := by decide +kernel
theorem dX7_years_56 : decode cX7_years 56 = .ok (.ireturn, 1) := by decide +kernel
theorem dX7_unlike_0 : decode cX7_unlike 0 = .ok (.aload_n 0, 1) := by decide +kernel
theorem dX7_unlike_1 : decode cX7_unlike 1 = .ok (.getfield 7, 3) := by decide +kernel
theorem dX7_unlike_4 : decode cX7_unlike 4 = .ok (.bipush 8, 2) := by decide +kernel
theorem dX7_unlike_6 : decode cX7_unlike 6 = .ok (.iload_n 1, 1) := by decide +kernel
theorem dX7_unlike_7 : decode cX7_unlike 7 = .ok (.iadd, 1) := by decide +kernel
theorem dX7_unlike_8 : decode cX7_unlike 8 = .ok (.iaload, 1) := by decide +kernel
theorem dX7_unlike_9 : decode cX7_unlike 9 = .ok (.aload_n 0, 1) := by decide +kernel
theorem dX7_unlike_10 : decode cX7_unlike 10 = .ok (.getfield 7, 3) := by decide +kernel
theorem dX7_unlike_13 : decode cX7_unlike 13 = .ok (.bipush 8, 2) := by decide +kernel
theorem dX7_unlike_15 : decode cX7_unlike 15 = .ok (.iload_n 2, 1) := by decide +kernel
theorem dX7_unlike_16 : decode cX7_unlike 16 = .ok (.iadd, 1) := by decide +kernel
theorem dX7_unlike_17 : decode cX7_unlike 17 = .ok (.iaload, 1) := by decide +kernel
theorem dX7_unlike_18 : decode cX7_unlike 18 = .ok (.invokestatic 189, 3) := by decide +kernel
theorem dX7_unlike_21 : decode cX7_unlike 21 = .ok (.aload_n 0, 1) := by decide +kernel
theorem dX7_unlike_22 : decode cX7_unlike 22 = .ok (.getfield 7, 3) := by decide +kernel
theorem dX7_unlike_25 : decode cX7_unlike 25 = .ok (.bipush 16, 2) := by decide +kernel
theorem dX7_unlike_27 : decode cX7_unlike 27 = .ok (.iload_n 1, 1) := by decide +kernel
theorem dX7_unlike_28 : decode cX7_unlike 28 = .ok (.iadd, 1) := by decide +kernel
theorem dX7_unlike_29 : decode cX7_unlike 29 = .ok (.iaload, 1) := by decide +kernel
theorem dX7_unlike_30 : decode cX7_unlike 30 = .ok (.aload_n 0, 1) := by decide +kernel
theorem dX7_unlike_31 : decode cX7_unlike 31 = .ok (.getfield 7, 3) := by decide +kernel
theorem dX7_unlike_34 : decode cX7_unlike 34 = .ok (.bipush 16, 2) := by decide +kernel
theorem dX7_unlike_36 : decode cX7_unlike 36 = .ok (.iload_n 2, 1) := by decide +kernel
theorem dX7_unlike_37 : decode cX7_unlike 37 = .ok (.iadd, 1) := by decide +kernel
theorem dX7_unlike_38 : decode cX7_unlike 38 = .ok (.iaload, 1) := by decide +kernel
theorem dX7_unlike_39 : decode cX7_unlike 39 = .ok (.invokestatic 189, 3) := by decide +kernel
theorem dX7_unlike_42 : decode cX7_unlike 42 = .ok (.iadd, 1) := by decide +kernel
theorem dX7_unlike_43 : decode cX7_unlike 43 = .ok (.ireturn, 1) := by decide +kernel
theorem dX7_alike_0 : decode cX7_alike 0 = .ok (.aload_n 0, 1) := by decide +kernel
theorem dX7_alike_1 : decode cX7_alike 1 = .ok (.iconst 0, 1) := by decide +kernel
theorem dX7_alike_2 : decode cX7_alike 2 = .ok (.sipush 200, 3) := by decide +kernel
theorem dX7_alike_5 : decode cX7_alike 5 = .ok (.invokevirtual 254, 3) := by decide +kernel
theorem dX7_alike_8 : decode cX7_alike 8 = .ok (.bipush (-4), 2) := by decide +kernel
theorem dX7_alike_10 : decode cX7_alike 10 = .ok (.istore_n 1, 1) := by decide +kernel
theorem dX7_alike_11 : decode cX7_alike 11 = .ok (.iconst 0, 1) := by decide +kernel
theorem dX7_alike_12 : decode cX7_alike 12 = .ok (.istore_n 2, 1) := by decide +kernel
theorem dX7_alike_13 : decode cX7_alike 13 = .ok (.iload_n 2, 1) := by decide +kernel
theorem dX7_alike_14 : decode cX7_alike 14 = .ok (.bipush 20, 2) := by decide +kernel
theorem dX7_alike_16 : decode cX7_alike 16 = .ok (.if_icmp .gt 83, 3) := by decide +kernel
theorem dX7_alike_19 : decode cX7_alike 19 = .ok (.iload_n 1, 1) := by decide +kernel
theorem dX7_alike_20 : decode cX7_alike 20 = .ok (.bipush (-4), 2) := by decide +kernel
theorem dX7_alike_22 : decode cX7_alike 22 = .ok (.if_icmp .ne 77, 3) := by decide +kernel
theorem dX7_alike_25 : decode cX7_alike 25 = .ok (.iconst 0, 1) := by decide +kernel
theorem dX7_alike_26 : decode cX7_alike 26 = .ok (.istore_n 3, 1) := by decide +kernel
theorem dX7_alike_27 : decode cX7_alike 27 = .ok (.iconst 0, 1) := by decide +kernel
theorem dX7_alike_28 : decode cX7_alike 28 = .ok (.istore 4, 2) := by decide +kernel
theorem dX7_alike_30 : decode cX7_alike 30 = .ok (.iload 4, 2) := by decide +kernel
theorem dX7_alike_32 : decode cX7_alike 32 = .ok (.iconst 4, 1) := by decide +kernel
theorem dX7_alike_33 : decode cX7_alike 33 = .ok (.if_icmp .ge 45, 3) := by decide +kernel
theorem dX7_alike_36 : decode cX7_alike 36 = .ok (.iload_n 3, 1) := by decide +kernel
theorem dX7_alike_37 : decode cX7_alike 37 = .ok (.aload_n 0, 1) := by decide +kernel
theorem dX7_alike_38 : decode cX7_alike 38 = .ok (.getfield 7, 3) := by decide +kernel
theorem dX7_alike_41 : decode cX7_alike 41 = .ok (.bipush 45, 2) := by decide +kernel
theorem dX7_alike_43 : decode cX7_alike 43 = .ok (.iload 4, 2) := by decide +kernel
theorem dX7_alike_45 : decode cX7_alike 45 = .ok (.iadd, 1) := by decide +kernel
theorem dX7_alike_46 : decode cX7_alike 46 = .ok (.iaload, 1) := by decide +kernel
theorem dX7_alike_47 : decode cX7_alike 47 = .ok (.ifCond .eq 22, 3) := by decide +kernel
theorem dX7_alike_50 : decode cX7_alike 50 = .ok (.aload_n 0, 1) := by decide +kernel
theorem dX7_alike_51 : decode cX7_alike 51 = .ok (.iload 4, 2) := by decide +kernel
theorem dX7_alike_53 : decode cX7_alike 53 = .ok (.aload_n 0, 1) := by decide +kernel
theorem dX7_alike_54 : decode cX7_alike 54 = .ok (.getfield 7, 3) := by decide +kernel
theorem dX7_alike_57 : decode cX7_alike 57 = .ok (.bipush 45, 2) := by decide +kernel
theorem dX7_alike_59 : decode cX7_alike 59 = .ok (.iload 4, 2) := by decide +kernel
theorem dX7_alike_61 : decode cX7_alike 61 = .ok (.iadd, 1) := by decide +kernel
theorem dX7_alike_62 : decode cX7_alike 62 = .ok (.iaload, 1) := by decide +kernel
theorem dX7_alike_63 : decode cX7_alike 63 = .ok (.invokevirtual 258, 3) := by decide +kernel
theorem dX7_alike_66 : decode cX7_alike 66 = .ok (.goto 4, 3) := by decide +kernel
theorem dX7_alike_69 : decode cX7_alike 69 = .ok (.iconst 0, 1) := by decide +kernel
theorem dX7_alike_70 : decode cX7_alike 70 = .ok (.iadd, 1) := by decide +kernel
theorem dX7_alike_71 : decode cX7_alike 71 = .ok (.istore_n 3, 1) := by decide +kernel
theorem dX7_alike_72 : decode cX7_alike 72 = .ok (.iinc 4 1, 3) := by decide +kernel
theorem dX7_alike_75 : decode cX7_alike 75 = .ok (.goto (-45), 3) := by decide +kernel
theorem dX7_alike_78 : decode cX7_alike 78 = .ok (.iload_n 3, 1) := by decide +kernel
theorem dX7_alike_79 : decode cX7_alike 79 = .ok (.ifCond .ne 7, 3) := by decide +kernel
theorem dX7_alike_82 : decode cX7_alike 82 = .ok (.iload_n 2, 1) := by decide +kernel
theorem dX7_alike_83 : decode cX7_alike 83 = .ok (.goto 5, 3) := by decide +kernel
theorem dX7_alike_86 : decode cX7_alike 86 = .ok (.bipush (-4), 2) := by decide +kernel
theorem dX7_alike_88 : decode cX7_alike 88 = .ok (.istore_n 1, 1) := by decide +kernel
theorem dX7_alike_89 : decode cX7_alike 89 = .ok (.aload_n 0, 1) := by decide +kernel
theorem dX7_alike_90 : decode cX7_alike 90 = .ok (.invokevirtual 251, 3) := by decide +kernel
theorem dX7_alike_93 : decode cX7_alike 93 = .ok (.iinc 2 1, 3) := by decide +kernel
theorem dX7_alike_96 : decode cX7_alike 96 = .ok (.goto (-83), 3) := by decide +kernel
theorem dX7_alike_99 : decode cX7_alike 99 = .ok (.aload_n 0, 1) := by decide +kernel
theorem dX7_alike_100 : decode cX7_alike 100 = .ok (.sipush 200, 3) := by decide +kernel
theorem dX7_alike_103 : decode cX7_alike 103 = .ok (.iconst 0, 1) := by decide +kernel
theorem dX7_alike_104 : decode cX7_alike 104 = .ok (.invokevirtual 254, 3) := by decide +kernel
theorem dX7_alike_107 : decode cX7_alike 107 = .ok (.iload_n 1, 1) := by decide +kernel
theorem dX7_alike_108 : decode cX7_alike 108 = .ok (.ireturn, 1) := by decide +kernel
theorem dX7_near_0 : decode cX7_near 0 = .ok (.iload_n 1, 1) := by decide +kernel
theorem dX7_near_1 : decode cX7_near 1 = .ok (.i2l, 1) := by decide +kernel
theorem dX7_near_2 : decode cX7_near 2 = .ok (.lconst 0, 1) := by decide +kernel
theorem dX7_near_3 : decode cX7_near 3 = .ok (.lconst 1, 1) := by decide +kernel
theorem dX7_near_4 : decode cX7_near 4 = .ok (.invokestatic 58, 3) := by decide +kernel
theorem dX7_near_7 : decode cX7_near 7 = .ok (.ifCond .ne 5, 3) := by decide +kernel
theorem dX7_near_10 : decode cX7_near 10 = .ok (.iconst (-1), 1) := by decide +kernel
theorem dX7_near_11 : decode cX7_near 11 = .ok (.ireturn, 1) := by decide +kernel
theorem dX7_near_12 : decode cX7_near 12 = .ok (.ldc_w 261, 3) := by decide +kernel
theorem dX7_near_15 : decode cX7_near 15 = .ok (.istore_n 2, 1) := by decide +kernel
theorem dX7_near_16 : decode cX7_near 16 = .ok (.bipush (-4), 2) := by decide +kernel
theorem dX7_near_18 : decode cX7_near 18 = .ok (.istore_n 3, 1) := by decide +kernel
theorem dX7_near_19 : decode cX7_near 19 = .ok (.iconst 0, 1) := by decide +kernel
theorem dX7_near_20 : decode cX7_near 20 = .ok (.istore 4, 2) := by decide +kernel
theorem dX7_near_22 : decode cX7_near 22 = .ok (.iload 4, 2) := by decide +kernel
theorem dX7_near_24 : decode cX7_near 24 = .ok (.bipush 8, 2) := by decide +kernel
theorem dX7_near_26 : decode cX7_near 26 = .ok (.if_icmp .ge 76, 3) := by decide +kernel
theorem dX7_near_29 : decode cX7_near 29 = .ok (.iload 4, 2) := by decide +kernel
theorem dX7_near_31 : decode cX7_near 31 = .ok (.iconst 1, 1) := by decide +kernel
theorem dX7_near_32 : decode cX7_near 32 = .ok (.iadd, 1) := by decide +kernel
theorem dX7_near_33 : decode cX7_near 33 = .ok (.istore 5, 2) := by decide +kernel
theorem dX7_near_35 : decode cX7_near 35 = .ok (.iload 5, 2) := by decide +kernel
theorem dX7_near_37 : decode cX7_near 37 = .ok (.bipush 8, 2) := by decide +kernel
theorem dX7_near_39 : decode cX7_near 39 = .ok (.if_icmp .ge 57, 3) := by decide +kernel
theorem dX7_near_42 : decode cX7_near 42 = .ok (.aload_n 0, 1) := by decide +kernel
theorem dX7_near_43 : decode cX7_near 43 = .ok (.iload 4, 2) := by decide +kernel
theorem dX7_near_45 : decode cX7_near 45 = .ok (.invokevirtual 158, 3) := by decide +kernel
theorem dX7_near_48 : decode cX7_near 48 = .ok (.ifCond .eq 42, 3) := by decide +kernel
theorem dX7_near_51 : decode cX7_near 51 = .ok (.aload_n 0, 1) := by decide +kernel
theorem dX7_near_52 : decode cX7_near 52 = .ok (.iload 5, 2) := by decide +kernel
theorem dX7_near_54 : decode cX7_near 54 = .ok (.invokevirtual 158, 3) := by decide +kernel
theorem dX7_near_57 : decode cX7_near 57 = .ok (.ifCond .eq 33, 3) := by decide +kernel
theorem dX7_near_60 : decode cX7_near 60 = .ok (.aload_n 0, 1) := by decide +kernel
theorem dX7_near_61 : decode cX7_near 61 = .ok (.iload 4, 2) := by decide +kernel
theorem dX7_near_63 : decode cX7_near 63 = .ok (.iload 5, 2) := by decide +kernel
theorem dX7_near_65 : decode cX7_near 65 = .ok (.invokevirtual 258, 3) := by decide +kernel
theorem dX7_near_68 : decode cX7_near 68 = .ok (.iload_n 2, 1) := by decide +kernel
theorem dX7_near_69 : decode cX7_near 69 = .ok (.if_icmp .ge 21, 3) := by decide +kernel
theorem dX7_near_72 : decode cX7_near 72 = .ok (.aload_n 0, 1) := by decide +kernel
theorem dX7_near_73 : decode cX7_near 73 = .ok (.iload 4, 2) := by decide +kernel
theorem dX7_near_75 : decode cX7_near 75 = .ok (.iload 5, 2) := by decide +kernel
theorem dX7_near_77 : decode cX7_near 77 = .ok (.invokevirtual 258, 3) := by decide +kernel
theorem dX7_near_80 : decode cX7_near 80 = .ok (.istore_n 2, 1) := by decide +kernel
theorem dX7_near_81 : decode cX7_near 81 = .ok (.bipush 10, 2) := by decide +kernel
theorem dX7_near_83 : decode cX7_near 83 = .ok (.iload 4, 2) := by decide +kernel
theorem dX7_near_85 : decode cX7_near 85 = .ok (.imul, 1) := by decide +kernel
theorem dX7_near_86 : decode cX7_near 86 = .ok (.iload 5, 2) := by decide +kernel
theorem dX7_near_88 : decode cX7_near 88 = .ok (.iadd, 1) := by decide +kernel
theorem dX7_near_89 : decode cX7_near 89 = .ok (.istore_n 3, 1) := by decide +kernel
theorem dX7_near_90 : decode cX7_near 90 = .ok (.iinc 5 1, 3) := by decide +kernel
theorem dX7_near_93 : decode cX7_near 93 = .ok (.goto (-58), 3) := by decide +kernel
theorem dX7_near_96 : decode cX7_near 96 = .ok (.iinc 4 1, 3) := by decide +kernel
theorem dX7_near_99 : decode cX7_near 99 = .ok (.goto (-77), 3) := by decide +kernel
theorem dX7_near_102 : decode cX7_near 102 = .ok (.iload_n 3, 1) := by decide +kernel
theorem dX7_near_103 : decode cX7_near 103 = .ok (.bipush (-4), 2) := by decide +kernel
theorem dX7_near_105 : decode cX7_near 105 = .ok (.if_icmp .eq 7, 3) := by decide +kernel
theorem dX7_near_108 : decode cX7_near 108 = .ok (.iload_n 1, 1) := by decide +kernel
theorem dX7_near_109 : decode cX7_near 109 = .ok (.ifCond .ne 7, 3) := by decide +kernel
theorem dX7_near_112 : decode cX7_near 112 = .ok (.iload_n 3, 1) := by decide +kernel
theorem dX7_near_113 : decode cX7_near 113 = .ok (.goto 4, 3) := by decide +kernel
theorem dX7_near_116 : decode cX7_near 116 = .ok (.iload_n 2, 1) := by decide +kernel
theorem dX7_near_117 : decode cX7_near 117 = .ok (.ireturn, 1) := by decide +kernel
theorem dX7_forge_0 : decode cX7_forge 0 = .ok (.aload_n 0, 1) := by decide +kernel
theorem dX7_forge_1 : decode cX7_forge 1 = .ok (.iload_n 1, 1) := by decide +kernel
theorem dX7_forge_2 : decode cX7_forge 2 = .ok (.invokevirtual 158, 3) := by decide +kernel
theorem dX7_forge_5 : decode cX7_forge 5 = .ok (.ifCond .eq 13, 3) := by decide +kernel
theorem dX7_forge_8 : decode cX7_forge 8 = .ok (.iload_n 2, 1) := by decide +kernel
theorem dX7_forge_9 : decode cX7_forge 9 = .ok (.i2l, 1) := by decide +kernel
theorem dX7_forge_10 : decode cX7_forge 10 = .ok (.lconst 0, 1) := by decide +kernel
theorem dX7_forge_11 : decode cX7_forge 11 = .ok (.lconst 1, 1) := by decide +kernel
theorem dX7_forge_12 : decode cX7_forge 12 = .ok (.invokestatic 58, 3) := by decide +kernel
theorem dX7_forge_15 : decode cX7_forge 15 = .ok (.ifCond .ne 5, 3) := by decide +kernel
theorem dX7_forge_18 : decode cX7_forge 18 = .ok (.iconst (-1), 1) := by decide +kernel
theorem dX7_forge_19 : decode cX7_forge 19 = .ok (.ireturn, 1) := by decide +kernel
theorem dX7_forge_20 : decode cX7_forge 20 = .ok (.aload_n 0, 1) := by decide +kernel
theorem dX7_forge_21 : decode cX7_forge 21 = .ok (.getfield 7, 3) := by decide +kernel
theorem dX7_forge_24 : decode cX7_forge 24 = .ok (.bipush 32, 2) := by decide +kernel
theorem dX7_forge_26 : decode cX7_forge 26 = .ok (.iload_n 1, 1) := by decide +kernel
theorem dX7_forge_27 : decode cX7_forge 27 = .ok (.iadd, 1) := by decide +kernel
theorem dX7_forge_28 : decode cX7_forge 28 = .ok (.iaload, 1) := by decide +kernel
theorem dX7_forge_29 : decode cX7_forge 29 = .ok (.istore_n 3, 1) := by decide +kernel
theorem dX7_forge_30 : decode cX7_forge 30 = .ok (.ldc_w 261, 3) := by decide +kernel
theorem dX7_forge_33 : decode cX7_forge 33 = .ok (.istore 4, 2) := by decide +kernel
theorem dX7_forge_35 : decode cX7_forge 35 = .ok (.bipush (-2), 2) := by decide +kernel
theorem dX7_forge_37 : decode cX7_forge 37 = .ok (.istore 5, 2) := by decide +kernel
theorem dX7_forge_39 : decode cX7_forge 39 = .ok (.bipush (-4), 2) := by decide +kernel
theorem dX7_forge_41 : decode cX7_forge 41 = .ok (.istore 6, 2) := by decide +kernel
theorem dX7_forge_43 : decode cX7_forge 43 = .ok (.iconst 0, 1) := by decide +kernel
theorem dX7_forge_44 : decode cX7_forge 44 = .ok (.istore 7, 2) := by decide +kernel
theorem dX7_forge_46 : decode cX7_forge 46 = .ok (.iload 7, 2) := by decide +kernel
theorem dX7_forge_48 : decode cX7_forge 48 = .ok (.bipush 8, 2) := by decide +kernel
theorem dX7_forge_50 : decode cX7_forge 50 = .ok (.if_icmp .ge 121, 3) := by decide +kernel
theorem dX7_forge_53 : decode cX7_forge 53 = .ok (.aload_n 0, 1) := by decide +kernel
theorem dX7_forge_54 : decode cX7_forge 54 = .ok (.iload 7, 2) := by decide +kernel
theorem dX7_forge_56 : decode cX7_forge 56 = .ok (.invokevirtual 158, 3) := by decide +kernel
theorem dX7_forge_59 : decode cX7_forge 59 = .ok (.ifCond .eq 106, 3) := by decide +kernel
theorem dX7_forge_62 : decode cX7_forge 62 = .ok (.aload_n 0, 1) := by decide +kernel
theorem dX7_forge_63 : decode cX7_forge 63 = .ok (.getfield 7, 3) := by decide +kernel
theorem dX7_forge_66 : decode cX7_forge 66 = .ok (.bipush 32, 2) := by decide +kernel
theorem dX7_forge_68 : decode cX7_forge 68 = .ok (.iload_n 1, 1) := by decide +kernel
theorem dX7_forge_69 : decode cX7_forge 69 = .ok (.iadd, 1) := by decide +kernel
theorem dX7_forge_70 : decode cX7_forge 70 = .ok (.iload 7, 2) := by decide +kernel
theorem dX7_forge_72 : decode cX7_forge 72 = .ok (.iload_n 1, 1) := by decide +kernel
theorem dX7_forge_73 : decode cX7_forge 73 = .ok (.isub, 1) := by decide +kernel
theorem dX7_forge_74 : decode cX7_forge 74 = .ok (.iastore, 1) := by decide +kernel
theorem dX7_forge_75 : decode cX7_forge 75 = .ok (.aload_n 0, 1) := by decide +kernel
theorem dX7_forge_76 : decode cX7_forge 76 = .ok (.iconst 0, 1) := by decide +kernel
theorem dX7_forge_77 : decode cX7_forge 77 = .ok (.invokevirtual 225, 3) := by decide +kernel
theorem dX7_forge_80 : decode cX7_forge 80 = .ok (.aload_n 0, 1) := by decide +kernel
theorem dX7_forge_81 : decode cX7_forge 81 = .ok (.getfield 28, 3) := by decide +kernel
theorem dX7_forge_84 : decode cX7_forge 84 = .ok (.iload_n 1, 1) := by decide +kernel
theorem dX7_forge_85 : decode cX7_forge 85 = .ok (.iaload, 1) := by decide +kernel
theorem dX7_forge_86 : decode cX7_forge 86 = .ok (.bipush (-4), 2) := by decide +kernel
theorem dX7_forge_88 : decode cX7_forge 88 = .ok (.if_icmp .ne 7, 3) := by decide +kernel
theorem dX7_forge_91 : decode cX7_forge 91 = .ok (.iconst (-1), 1) := by decide +kernel
theorem dX7_forge_92 : decode cX7_forge 92 = .ok (.goto 19, 3) := by decide +kernel
theorem dX7_forge_95 : decode cX7_forge 95 = .ok (.aload_n 0, 1) := by decide +kernel
theorem dX7_forge_96 : decode cX7_forge 96 = .ok (.getfield 25, 3) := by decide +kernel
theorem dX7_forge_99 : decode cX7_forge 99 = .ok (.bipush 8, 2) := by decide +kernel
theorem dX7_forge_101 : decode cX7_forge 101 = .ok (.iload_n 1, 1) := by decide +kernel
theorem dX7_forge_102 : decode cX7_forge 102 = .ok (.imul, 1) := by decide +kernel
theorem dX7_forge_103 : decode cX7_forge 103 = .ok (.aload_n 0, 1) := by decide +kernel
theorem dX7_forge_104 : decode cX7_forge 104 = .ok (.getfield 28, 3) := by decide +kernel
theorem dX7_forge_107 : decode cX7_forge 107 = .ok (.iload_n 1, 1) := by decide +kernel
theorem dX7_forge_108 : decode cX7_forge 108 = .ok (.iaload, 1) := by decide +kernel
theorem dX7_forge_109 : decode cX7_forge 109 = .ok (.iadd, 1) := by decide +kernel
theorem dX7_forge_110 : decode cX7_forge 110 = .ok (.iaload, 1) := by decide +kernel
theorem dX7_forge_111 : decode cX7_forge 111 = .ok (.istore 8, 2) := by decide +kernel
theorem dX7_forge_113 : decode cX7_forge 113 = .ok (.iload 8, 2) := by decide +kernel
theorem dX7_forge_115 : decode cX7_forge 115 = .ok (.iload 5, 2) := by decide +kernel
theorem dX7_forge_117 : decode cX7_forge 117 = .ok (.if_icmp .le 8, 3) := by decide +kernel
theorem dX7_forge_120 : decode cX7_forge 120 = .ok (.iload 7, 2) := by decide +kernel
theorem dX7_forge_122 : decode cX7_forge 122 = .ok (.goto 5, 3) := by decide +kernel
theorem dX7_forge_125 : decode cX7_forge 125 = .ok (.iload 4, 2) := by decide +kernel
theorem dX7_forge_127 : decode cX7_forge 127 = .ok (.istore 4, 2) := by decide +kernel
theorem dX7_forge_129 : decode cX7_forge 129 = .ok (.iload 8, 2) := by decide +kernel
theorem dX7_forge_131 : decode cX7_forge 131 = .ok (.iload 5, 2) := by decide +kernel
theorem dX7_forge_133 : decode cX7_forge 133 = .ok (.if_icmp .le 12, 3) := by decide +kernel
theorem dX7_forge_136 : decode cX7_forge 136 = .ok (.aload_n 0, 1) := by decide +kernel
theorem dX7_forge_137 : decode cX7_forge 137 = .ok (.getfield 28, 3) := by decide +kernel
theorem dX7_forge_140 : decode cX7_forge 140 = .ok (.iload_n 1, 1) := by decide +kernel
theorem dX7_forge_141 : decode cX7_forge 141 = .ok (.iaload, 1) := by decide +kernel
theorem dX7_forge_142 : decode cX7_forge 142 = .ok (.goto 5, 3) := by decide +kernel
theorem dX7_forge_145 : decode cX7_forge 145 = .ok (.iload 6, 2) := by decide +kernel
theorem dX7_forge_147 : decode cX7_forge 147 = .ok (.istore 6, 2) := by decide +kernel
theorem dX7_forge_149 : decode cX7_forge 149 = .ok (.iload 8, 2) := by decide +kernel
theorem dX7_forge_151 : decode cX7_forge 151 = .ok (.iload 5, 2) := by decide +kernel
theorem dX7_forge_153 : decode cX7_forge 153 = .ok (.if_icmp .le 8, 3) := by decide +kernel
theorem dX7_forge_156 : decode cX7_forge 156 = .ok (.iload 8, 2) := by decide +kernel
theorem dX7_forge_158 : decode cX7_forge 158 = .ok (.goto 5, 3) := by decide +kernel
theorem dX7_forge_161 : decode cX7_forge 161 = .ok (.iload 5, 2) := by decide +kernel
theorem dX7_forge_163 : decode cX7_forge 163 = .ok (.istore 5, 2) := by decide +kernel
theorem dX7_forge_165 : decode cX7_forge 165 = .ok (.iinc 7 1, 3) := by decide +kernel
theorem dX7_forge_168 : decode cX7_forge 168 = .ok (.goto (-122), 3) := by decide +kernel
theorem dX7_forge_171 : decode cX7_forge 171 = .ok (.aload_n 0, 1) := by decide +kernel
theorem dX7_forge_172 : decode cX7_forge 172 = .ok (.getfield 7, 3) := by decide +kernel
theorem dX7_forge_175 : decode cX7_forge 175 = .ok (.bipush 32, 2) := by decide +kernel
theorem dX7_forge_177 : decode cX7_forge 177 = .ok (.iload_n 1, 1) := by decide +kernel
theorem dX7_forge_178 : decode cX7_forge 178 = .ok (.iadd, 1) := by decide +kernel
theorem dX7_forge_179 : decode cX7_forge 179 = .ok (.iload_n 3, 1) := by decide +kernel
theorem dX7_forge_180 : decode cX7_forge 180 = .ok (.iastore, 1) := by decide +kernel
theorem dX7_forge_181 : decode cX7_forge 181 = .ok (.iload_n 2, 1) := by decide +kernel
theorem dX7_forge_182 : decode cX7_forge 182 = .ok (.ifCond .ne 8, 3) := by decide +kernel
theorem dX7_forge_185 : decode cX7_forge 185 = .ok (.iload 4, 2) := by decide +kernel
theorem dX7_forge_187 : decode cX7_forge 187 = .ok (.goto 5, 3) := by decide +kernel
theorem dX7_forge_190 : decode cX7_forge 190 = .ok (.iload 6, 2) := by decide +kernel
theorem dX7_forge_192 : decode cX7_forge 192 = .ok (.ireturn, 1) := by decide +kernel
theorem dX7_swap_0 : decode cX7_swap 0 = .ok (.iload_n 1, 1) := by decide +kernel
theorem dX7_swap_1 : decode cX7_swap 1 = .ok (.i2l, 1) := by decide +kernel
theorem dX7_swap_2 : decode cX7_swap 2 = .ok (.lconst 0, 1) := by decide +kernel
theorem dX7_swap_3 : decode cX7_swap 3 = .ok (.lconst 1, 1) := by decide +kernel
theorem dX7_swap_4 : decode cX7_swap 4 = .ok (.invokestatic 58, 3) := by decide +kernel
theorem dX7_swap_7 : decode cX7_swap 7 = .ok (.ifCond .ne 5, 3) := by decide +kernel
theorem dX7_swap_10 : decode cX7_swap 10 = .ok (.iconst (-1), 1) := by decide +kernel
theorem dX7_swap_11 : decode cX7_swap 11 = .ok (.ireturn, 1) := by decide +kernel
theorem dX7_swap_12 : decode cX7_swap 12 = .ok (.aload_n 0, 1) := by decide +kernel
theorem dX7_swap_13 : decode cX7_swap 13 = .ok (.iconst 0, 1) := by decide +kernel
theorem dX7_swap_14 : decode cX7_swap 14 = .ok (.invokevirtual 225, 3) := by decide +kernel
theorem dX7_swap_17 : decode cX7_swap 17 = .ok (.aload_n 0, 1) := by decide +kernel
theorem dX7_swap_18 : decode cX7_swap 18 = .ok (.invokevirtual 231, 3) := by decide +kernel
theorem dX7_swap_21 : decode cX7_swap 21 = .ok (.istore_n 2, 1) := by decide +kernel
theorem dX7_swap_22 : decode cX7_swap 22 = .ok (.bipush (-4), 2) := by decide +kernel
theorem dX7_swap_24 : decode cX7_swap 24 = .ok (.istore_n 3, 1) := by decide +kernel
theorem dX7_swap_25 : decode cX7_swap 25 = .ok (.iconst 0, 1) := by decide +kernel
theorem dX7_swap_26 : decode cX7_swap 26 = .ok (.istore 4, 2) := by decide +kernel
theorem dX7_swap_28 : decode cX7_swap 28 = .ok (.iload 4, 2) := by decide +kernel
theorem dX7_swap_30 : decode cX7_swap 30 = .ok (.bipush 8, 2) := by decide +kernel
theorem dX7_swap_32 : decode cX7_swap 32 = .ok (.if_icmp .ge 165, 3) := by decide +kernel
theorem dX7_swap_35 : decode cX7_swap 35 = .ok (.iload 4, 2) := by decide +kernel
theorem dX7_swap_37 : decode cX7_swap 37 = .ok (.iconst 1, 1) := by decide +kernel
theorem dX7_swap_38 : decode cX7_swap 38 = .ok (.iadd, 1) := by decide +kernel
theorem dX7_swap_39 : decode cX7_swap 39 = .ok (.istore 5, 2) := by decide +kernel
theorem dX7_swap_41 : decode cX7_swap 41 = .ok (.iload 5, 2) := by decide +kernel
theorem dX7_swap_43 : decode cX7_swap 43 = .ok (.bipush 8, 2) := by decide +kernel
theorem dX7_swap_45 : decode cX7_swap 45 = .ok (.if_icmp .ge 146, 3) := by decide +kernel
theorem dX7_swap_48 : decode cX7_swap 48 = .ok (.aload_n 0, 1) := by decide +kernel
theorem dX7_swap_49 : decode cX7_swap 49 = .ok (.iload 4, 2) := by decide +kernel
theorem dX7_swap_51 : decode cX7_swap 51 = .ok (.invokevirtual 158, 3) := by decide +kernel
theorem dX7_swap_54 : decode cX7_swap 54 = .ok (.ifCond .eq 131, 3) := by decide +kernel
theorem dX7_swap_57 : decode cX7_swap 57 = .ok (.aload_n 0, 1) := by decide +kernel
theorem dX7_swap_58 : decode cX7_swap 58 = .ok (.iload 5, 2) := by decide +kernel
theorem dX7_swap_60 : decode cX7_swap 60 = .ok (.invokevirtual 158, 3) := by decide +kernel
theorem dX7_swap_63 : decode cX7_swap 63 = .ok (.ifCond .eq 122, 3) := by decide +kernel
theorem dX7_swap_66 : decode cX7_swap 66 = .ok (.aload_n 0, 1) := by decide +kernel
theorem dX7_swap_67 : decode cX7_swap 67 = .ok (.iload 4, 2) := by decide +kernel
theorem dX7_swap_69 : decode cX7_swap 69 = .ok (.invokevirtual 172, 3) := by decide +kernel
theorem dX7_swap_72 : decode cX7_swap 72 = .ok (.istore 6, 2) := by decide +kernel
theorem dX7_swap_74 : decode cX7_swap 74 = .ok (.aload_n 0, 1) := by decide +kernel
theorem dX7_swap_75 : decode cX7_swap 75 = .ok (.iload 5, 2) := by decide +kernel
theorem dX7_swap_77 : decode cX7_swap 77 = .ok (.invokevirtual 172, 3) := by decide +kernel
theorem dX7_swap_80 : decode cX7_swap 80 = .ok (.istore 7, 2) := by decide +kernel
theorem dX7_swap_82 : decode cX7_swap 82 = .ok (.aload_n 0, 1) := by decide +kernel
theorem dX7_swap_83 : decode cX7_swap 83 = .ok (.getfield 7, 3) := by decide +kernel
theorem dX7_swap_86 : decode cX7_swap 86 = .ok (.bipush 32, 2) := by decide +kernel
theorem dX7_swap_88 : decode cX7_swap 88 = .ok (.iload 4, 2) := by decide +kernel
theorem dX7_swap_90 : decode cX7_swap 90 = .ok (.iadd, 1) := by decide +kernel
theorem dX7_swap_91 : decode cX7_swap 91 = .ok (.iload 7, 2) := by decide +kernel
theorem dX7_swap_93 : decode cX7_swap 93 = .ok (.iload 4, 2) := by decide +kernel
theorem dX7_swap_95 : decode cX7_swap 95 = .ok (.isub, 1) := by decide +kernel
theorem dX7_swap_96 : decode cX7_swap 96 = .ok (.iastore, 1) := by decide +kernel
theorem dX7_swap_97 : decode cX7_swap 97 = .ok (.aload_n 0, 1) := by decide +kernel
theorem dX7_swap_98 : decode cX7_swap 98 = .ok (.getfield 7, 3) := by decide +kernel
theorem dX7_swap_101 : decode cX7_swap 101 = .ok (.bipush 32, 2) := by decide +kernel
theorem dX7_swap_103 : decode cX7_swap 103 = .ok (.iload 5, 2) := by decide +kernel
theorem dX7_swap_105 : decode cX7_swap 105 = .ok (.iadd, 1) := by decide +kernel
theorem dX7_swap_106 : decode cX7_swap 106 = .ok (.iload 6, 2) := by decide +kernel
theorem dX7_swap_108 : decode cX7_swap 108 = .ok (.iload 5, 2) := by decide +kernel
theorem dX7_swap_110 : decode cX7_swap 110 = .ok (.isub, 1) := by decide +kernel
theorem dX7_swap_111 : decode cX7_swap 111 = .ok (.iastore, 1) := by decide +kernel
theorem dX7_swap_112 : decode cX7_swap 112 = .ok (.aload_n 0, 1) := by decide +kernel
theorem dX7_swap_113 : decode cX7_swap 113 = .ok (.iconst 0, 1) := by decide +kernel
theorem dX7_swap_114 : decode cX7_swap 114 = .ok (.invokevirtual 225, 3) := by decide +kernel
theorem dX7_swap_117 : decode cX7_swap 117 = .ok (.aload_n 0, 1) := by decide +kernel
theorem dX7_swap_118 : decode cX7_swap 118 = .ok (.getfield 7, 3) := by decide +kernel
theorem dX7_swap_121 : decode cX7_swap 121 = .ok (.bipush 32, 2) := by decide +kernel
theorem dX7_swap_123 : decode cX7_swap 123 = .ok (.iload 4, 2) := by decide +kernel
theorem dX7_swap_125 : decode cX7_swap 125 = .ok (.iadd, 1) := by decide +kernel
theorem dX7_swap_126 : decode cX7_swap 126 = .ok (.iload 6, 2) := by decide +kernel
theorem dX7_swap_128 : decode cX7_swap 128 = .ok (.iload 4, 2) := by decide +kernel
theorem dX7_swap_130 : decode cX7_swap 130 = .ok (.isub, 1) := by decide +kernel
theorem dX7_swap_131 : decode cX7_swap 131 = .ok (.iastore, 1) := by decide +kernel
theorem dX7_swap_132 : decode cX7_swap 132 = .ok (.aload_n 0, 1) := by decide +kernel
theorem dX7_swap_133 : decode cX7_swap 133 = .ok (.getfield 7, 3) := by decide +kernel
theorem dX7_swap_136 : decode cX7_swap 136 = .ok (.bipush 32, 2) := by decide +kernel
theorem dX7_swap_138 : decode cX7_swap 138 = .ok (.iload 5, 2) := by decide +kernel
theorem dX7_swap_140 : decode cX7_swap 140 = .ok (.iadd, 1) := by decide +kernel
theorem dX7_swap_141 : decode cX7_swap 141 = .ok (.iload 7, 2) := by decide +kernel
theorem dX7_swap_143 : decode cX7_swap 143 = .ok (.iload 5, 2) := by decide +kernel
theorem dX7_swap_145 : decode cX7_swap 145 = .ok (.isub, 1) := by decide +kernel
theorem dX7_swap_146 : decode cX7_swap 146 = .ok (.iastore, 1) := by decide +kernel
theorem dX7_swap_147 : decode cX7_swap 147 = .ok (.aload_n 0, 1) := by decide +kernel
theorem dX7_swap_148 : decode cX7_swap 148 = .ok (.invokevirtual 231, 3) := by decide +kernel
theorem dX7_swap_151 : decode cX7_swap 151 = .ok (.istore 8, 2) := by decide +kernel
theorem dX7_swap_153 : decode cX7_swap 153 = .ok (.iload 8, 2) := by decide +kernel
theorem dX7_swap_155 : decode cX7_swap 155 = .ok (.iload_n 2, 1) := by decide +kernel
theorem dX7_swap_156 : decode cX7_swap 156 = .ok (.if_icmp .le 14, 3) := by decide +kernel
theorem dX7_swap_159 : decode cX7_swap 159 = .ok (.bipush 10, 2) := by decide +kernel
theorem dX7_swap_161 : decode cX7_swap 161 = .ok (.iload 4, 2) := by decide +kernel
theorem dX7_swap_163 : decode cX7_swap 163 = .ok (.imul, 1) := by decide +kernel
theorem dX7_swap_164 : decode cX7_swap 164 = .ok (.iload 5, 2) := by decide +kernel
theorem dX7_swap_166 : decode cX7_swap 166 = .ok (.iadd, 1) := by decide +kernel
theorem dX7_swap_167 : decode cX7_swap 167 = .ok (.goto 4, 3) := by decide +kernel
theorem dX7_swap_170 : decode cX7_swap 170 = .ok (.iload_n 3, 1) := by decide +kernel
theorem dX7_swap_171 : decode cX7_swap 171 = .ok (.istore_n 3, 1) := by decide +kernel
theorem dX7_swap_172 : decode cX7_swap 172 = .ok (.iload 8, 2) := by decide +kernel
theorem dX7_swap_174 : decode cX7_swap 174 = .ok (.iload_n 2, 1) := by decide +kernel
theorem dX7_swap_175 : decode cX7_swap 175 = .ok (.if_icmp .le 8, 3) := by decide +kernel
theorem dX7_swap_178 : decode cX7_swap 178 = .ok (.iload 8, 2) := by decide +kernel
theorem dX7_swap_180 : decode cX7_swap 180 = .ok (.goto 4, 3) := by decide +kernel
theorem dX7_swap_183 : decode cX7_swap 183 = .ok (.iload_n 2, 1) := by decide +kernel
theorem dX7_swap_184 : decode cX7_swap 184 = .ok (.istore_n 2, 1) := by decide +kernel
theorem dX7_swap_185 : decode cX7_swap 185 = .ok (.iinc 5 1, 3) := by decide +kernel
theorem dX7_swap_188 : decode cX7_swap 188 = .ok (.goto (-147), 3) := by decide +kernel
theorem dX7_swap_191 : decode cX7_swap 191 = .ok (.iinc 4 1, 3) := by decide +kernel
theorem dX7_swap_194 : decode cX7_swap 194 = .ok (.goto (-166), 3) := by decide +kernel
theorem dX7_swap_197 : decode cX7_swap 197 = .ok (.iload_n 3, 1) := by decide +kernel
theorem dX7_swap_198 : decode cX7_swap 198 = .ok (.bipush (-4), 2) := by decide +kernel
theorem dX7_swap_200 : decode cX7_swap 200 = .ok (.if_icmp .eq 7, 3) := by decide +kernel
theorem dX7_swap_203 : decode cX7_swap 203 = .ok (.iload_n 1, 1) := by decide +kernel
theorem dX7_swap_204 : decode cX7_swap 204 = .ok (.ifCond .ne 7, 3) := by decide +kernel
theorem dX7_swap_207 : decode cX7_swap 207 = .ok (.iload_n 3, 1) := by decide +kernel
theorem dX7_swap_208 : decode cX7_swap 208 = .ok (.goto 4, 3) := by decide +kernel
theorem dX7_swap_211 : decode cX7_swap 211 = .ok (.iload_n 2, 1) := by decide +kernel
theorem dX7_swap_212 : decode cX7_swap 212 = .ok (.ireturn, 1) := by decide +kernel
theorem dX7_lowest_0 : decode cX7_lowest 0 = .ok (.lload_n 0, 1) := by decide +kernel
theorem dX7_lowest_1 : decode cX7_lowest 1 = .ok (.lstore 5, 2) := by decide +kernel
theorem dX7_lowest_3 : decode cX7_lowest 3 = .ok (.lload_n 2, 1) := by decide +kernel
theorem dX7_lowest_4 : decode cX7_lowest 4 = .ok (.lstore 7, 2) := by decide +kernel
theorem dX7_lowest_6 : decode cX7_lowest 6 = .ok (.lload 7, 2) := by decide +kernel
theorem dX7_lowest_8 : decode cX7_lowest 8 = .ok (.lconst 0, 1) := by decide +kernel
theorem dX7_lowest_9 : decode cX7_lowest 9 = .ok (.lcmp, 1) := by decide +kernel
theorem dX7_lowest_10 : decode cX7_lowest 10 = .ok (.ifCond .eq 21, 3) := by decide +kernel
theorem dX7_lowest_13 : decode cX7_lowest 13 = .ok (.lload 5, 2) := by decide +kernel
theorem dX7_lowest_15 : decode cX7_lowest 15 = .ok (.lload 7, 2) := by decide +kernel
theorem dX7_lowest_17 : decode cX7_lowest 17 = .ok (.lrem, 1) := by decide +kernel
theorem dX7_lowest_18 : decode cX7_lowest 18 = .ok (.lstore 9, 2) := by decide +kernel
theorem dX7_lowest_20 : decode cX7_lowest 20 = .ok (.lload 7, 2) := by decide +kernel
theorem dX7_lowest_22 : decode cX7_lowest 22 = .ok (.lstore 5, 2) := by decide +kernel
theorem dX7_lowest_24 : decode cX7_lowest 24 = .ok (.lload 9, 2) := by decide +kernel
theorem dX7_lowest_26 : decode cX7_lowest 26 = .ok (.lstore 7, 2) := by decide +kernel
theorem dX7_lowest_28 : decode cX7_lowest 28 = .ok (.goto (-22), 3) := by decide +kernel
theorem dX7_lowest_31 : decode cX7_lowest 31 = .ok (.iload 4, 2) := by decide +kernel
theorem dX7_lowest_33 : decode cX7_lowest 33 = .ok (.ifCond .ne 7, 3) := by decide +kernel
theorem dX7_lowest_36 : decode cX7_lowest 36 = .ok (.lload_n 0, 1) := by decide +kernel
theorem dX7_lowest_37 : decode cX7_lowest 37 = .ok (.goto 4, 3) := by decide +kernel
theorem dX7_lowest_40 : decode cX7_lowest 40 = .ok (.lload_n 2, 1) := by decide +kernel
theorem dX7_lowest_41 : decode cX7_lowest 41 = .ok (.lload 5, 2) := by decide +kernel
theorem dX7_lowest_43 : decode cX7_lowest 43 = .ok (.ldiv, 1) := by decide +kernel
theorem dX7_lowest_44 : decode cX7_lowest 44 = .ok (.lreturn, 1) := by decide +kernel
theorem dX7_byThieves_0 : decode cX7_byThieves 0 = .ok (.aload_n 0, 1) := by decide +kernel
theorem dX7_byThieves_1 : decode cX7_byThieves 1 = .ok (.getfield 147, 3) := by decide +kernel
theorem dX7_byThieves_4 : decode cX7_byThieves 4 = .ok (.aload_n 0, 1) := by decide +kernel
theorem dX7_byThieves_5 : decode cX7_byThieves 5 = .ok (.getfield 150, 3) := by decide +kernel
theorem dX7_byThieves_8 : decode cX7_byThieves 8 = .ok (.invokestatic 140, 3) := by decide +kernel
theorem dX7_byThieves_11 : decode cX7_byThieves 11 = .ok (.istore 4, 2) := by decide +kernel
theorem dX7_byThieves_13 : decode cX7_byThieves 13 = .ok (.lconst 0, 1) := by decide +kernel
theorem dX7_byThieves_14 : decode cX7_byThieves 14 = .ok (.lstore 5, 2) := by decide +kernel
theorem dX7_byThieves_16 : decode cX7_byThieves 16 = .ok (.lconst 1, 1) := by decide +kernel
theorem dX7_byThieves_17 : decode cX7_byThieves 17 = .ok (.lstore 7, 2) := by decide +kernel
theorem dX7_byThieves_19 : decode cX7_byThieves 19 = .ok (.iconst 0, 1) := by decide +kernel
theorem dX7_byThieves_20 : decode cX7_byThieves 20 = .ok (.istore 9, 2) := by decide +kernel
theorem dX7_byThieves_22 : decode cX7_byThieves 22 = .ok (.iload 9, 2) := by decide +kernel
theorem dX7_byThieves_24 : decode cX7_byThieves 24 = .ok (.bipush 8, 2) := by decide +kernel
theorem dX7_byThieves_26 : decode cX7_byThieves 26 = .ok (.if_icmp .ge 32, 3) := by decide +kernel
theorem dX7_byThieves_29 : decode cX7_byThieves 29 = .ok (.lload 7, 2) := by decide +kernel
theorem dX7_byThieves_31 : decode cX7_byThieves 31 = .ok (.iload 4, 2) := by decide +kernel
theorem dX7_byThieves_33 : decode cX7_byThieves 33 = .ok (.iload 9, 2) := by decide +kernel
theorem dX7_byThieves_35 : decode cX7_byThieves 35 = .ok (.ishr, 1) := by decide +kernel
theorem dX7_byThieves_36 : decode cX7_byThieves 36 = .ok (.iconst 1, 1) := by decide +kernel
theorem dX7_byThieves_37 : decode cX7_byThieves 37 = .ok (.iand, 1) := by decide +kernel
theorem dX7_byThieves_38 : decode cX7_byThieves 38 = .ok (.iconst 1, 1) := by decide +kernel
theorem dX7_byThieves_39 : decode cX7_byThieves 39 = .ok (.if_icmp .ne 9, 3) := by decide +kernel
theorem dX7_byThieves_42 : decode cX7_byThieves 42 = .ok (.ldc2_w 243, 3) := by decide +kernel
theorem dX7_byThieves_45 : decode cX7_byThieves 45 = .ok (.goto 4, 3) := by decide +kernel
theorem dX7_byThieves_48 : decode cX7_byThieves 48 = .ok (.lconst 1, 1) := by decide +kernel
theorem dX7_byThieves_49 : decode cX7_byThieves 49 = .ok (.lmul, 1) := by decide +kernel
theorem dX7_byThieves_50 : decode cX7_byThieves 50 = .ok (.lstore 7, 2) := by decide +kernel
theorem dX7_byThieves_52 : decode cX7_byThieves 52 = .ok (.iinc 9 1, 3) := by decide +kernel
theorem dX7_byThieves_55 : decode cX7_byThieves 55 = .ok (.goto (-33), 3) := by decide +kernel
theorem dX7_byThieves_58 : decode cX7_byThieves 58 = .ok (.iconst 0, 1) := by decide +kernel
theorem dX7_byThieves_59 : decode cX7_byThieves 59 = .ok (.istore 9, 2) := by decide +kernel
theorem dX7_byThieves_61 : decode cX7_byThieves 61 = .ok (.iload 9, 2) := by decide +kernel
theorem dX7_byThieves_63 : decode cX7_byThieves 63 = .ok (.sipush 256, 3) := by decide +kernel
theorem dX7_byThieves_66 : decode cX7_byThieves 66 = .ok (.if_icmp .ge 127, 3) := by decide +kernel
theorem dX7_byThieves_69 : decode cX7_byThieves 69 = .ok (.iload 9, 2) := by decide +kernel
theorem dX7_byThieves_71 : decode cX7_byThieves 71 = .ok (.iload 4, 2) := by decide +kernel
theorem dX7_byThieves_73 : decode cX7_byThieves 73 = .ok (.iconst (-1), 1) := by decide +kernel
theorem dX7_byThieves_74 : decode cX7_byThieves 74 = .ok (.ixor, 1) := by decide +kernel
theorem dX7_byThieves_75 : decode cX7_byThieves 75 = .ok (.iand, 1) := by decide +kernel
theorem dX7_byThieves_76 : decode cX7_byThieves 76 = .ok (.ifCond .ne 111, 3) := by decide +kernel
theorem dX7_byThieves_79 : decode cX7_byThieves 79 = .ok (.lconst 1, 1) := by decide +kernel
theorem dX7_byThieves_80 : decode cX7_byThieves 80 = .ok (.lstore 10, 2) := by decide +kernel
theorem dX7_byThieves_82 : decode cX7_byThieves 82 = .ok (.iconst 0, 1) := by decide +kernel
theorem dX7_byThieves_83 : decode cX7_byThieves 83 = .ok (.istore 12, 2) := by decide +kernel
theorem dX7_byThieves_85 : decode cX7_byThieves 85 = .ok (.iload 12, 2) := by decide +kernel
theorem dX7_byThieves_87 : decode cX7_byThieves 87 = .ok (.bipush 8, 2) := by decide +kernel
theorem dX7_byThieves_89 : decode cX7_byThieves 89 = .ok (.if_icmp .ge 49, 3) := by decide +kernel
theorem dX7_byThieves_92 : decode cX7_byThieves 92 = .ok (.lload 10, 2) := by decide +kernel
theorem dX7_byThieves_94 : decode cX7_byThieves 94 = .ok (.iload 4, 2) := by decide +kernel
theorem dX7_byThieves_96 : decode cX7_byThieves 96 = .ok (.iload 12, 2) := by decide +kernel
theorem dX7_byThieves_98 : decode cX7_byThieves 98 = .ok (.ishr, 1) := by decide +kernel
theorem dX7_byThieves_99 : decode cX7_byThieves 99 = .ok (.iconst 1, 1) := by decide +kernel
theorem dX7_byThieves_100 : decode cX7_byThieves 100 = .ok (.iand, 1) := by decide +kernel
theorem dX7_byThieves_101 : decode cX7_byThieves 101 = .ok (.ifCond .ne 7, 3) := by decide +kernel
theorem dX7_byThieves_104 : decode cX7_byThieves 104 = .ok (.lconst 1, 1) := by decide +kernel
theorem dX7_byThieves_105 : decode cX7_byThieves 105 = .ok (.goto 24, 3) := by decide +kernel
theorem dX7_byThieves_108 : decode cX7_byThieves 108 = .ok (.iload 9, 2) := by decide +kernel
theorem dX7_byThieves_110 : decode cX7_byThieves 110 = .ok (.iload 12, 2) := by decide +kernel
theorem dX7_byThieves_112 : decode cX7_byThieves 112 = .ok (.ishr, 1) := by decide +kernel
theorem dX7_byThieves_113 : decode cX7_byThieves 113 = .ok (.iconst 1, 1) := by decide +kernel
theorem dX7_byThieves_114 : decode cX7_byThieves 114 = .ok (.iand, 1) := by decide +kernel
theorem dX7_byThieves_115 : decode cX7_byThieves 115 = .ok (.iconst 1, 1) := by decide +kernel
theorem dX7_byThieves_116 : decode cX7_byThieves 116 = .ok (.if_icmp .ne 8, 3) := by decide +kernel
theorem dX7_byThieves_119 : decode cX7_byThieves 119 = .ok (.iload_n 1, 1) := by decide +kernel
theorem dX7_byThieves_120 : decode cX7_byThieves 120 = .ok (.i2l, 1) := by decide +kernel
theorem dX7_byThieves_121 : decode cX7_byThieves 121 = .ok (.goto 8, 3) := by decide +kernel
theorem dX7_byThieves_124 : decode cX7_byThieves 124 = .ok (.bipush 10, 2) := by decide +kernel
theorem dX7_byThieves_126 : decode cX7_byThieves 126 = .ok (.iload_n 1, 1) := by decide +kernel
theorem dX7_byThieves_127 : decode cX7_byThieves 127 = .ok (.isub, 1) := by decide +kernel
theorem dX7_byThieves_128 : decode cX7_byThieves 128 = .ok (.i2l, 1) := by decide +kernel
theorem dX7_byThieves_129 : decode cX7_byThieves 129 = .ok (.lmul, 1) := by decide +kernel
theorem dX7_byThieves_130 : decode cX7_byThieves 130 = .ok (.lstore 10, 2) := by decide +kernel
theorem dX7_byThieves_132 : decode cX7_byThieves 132 = .ok (.iinc 12 1, 3) := by decide +kernel
theorem dX7_byThieves_135 : decode cX7_byThieves 135 = .ok (.goto (-50), 3) := by decide +kernel
theorem dX7_byThieves_138 : decode cX7_byThieves 138 = .ok (.aload_n 0, 1) := by decide +kernel
theorem dX7_byThieves_139 : decode cX7_byThieves 139 = .ok (.iload 9, 2) := by decide +kernel
theorem dX7_byThieves_141 : decode cX7_byThieves 141 = .ok (.invokevirtual 195, 3) := by decide +kernel
theorem dX7_byThieves_144 : decode cX7_byThieves 144 = .ok (.aload_n 0, 1) := by decide +kernel
theorem dX7_byThieves_145 : decode cX7_byThieves 145 = .ok (.iconst 0, 1) := by decide +kernel
theorem dX7_byThieves_146 : decode cX7_byThieves 146 = .ok (.invokevirtual 222, 3) := by decide +kernel
theorem dX7_byThieves_149 : decode cX7_byThieves 149 = .ok (.lload 5, 2) := by decide +kernel
theorem dX7_byThieves_151 : decode cX7_byThieves 151 = .ok (.lload 10, 2) := by decide +kernel
theorem dX7_byThieves_153 : decode cX7_byThieves 153 = .ok (.iload_n 2, 1) := by decide +kernel
theorem dX7_byThieves_154 : decode cX7_byThieves 154 = .ok (.bipush (-4), 2) := by decide +kernel
theorem dX7_byThieves_156 : decode cX7_byThieves 156 = .ok (.if_icmp .ne 10, 3) := by decide +kernel
theorem dX7_byThieves_159 : decode cX7_byThieves 159 = .ok (.aload_n 0, 1) := by decide +kernel
theorem dX7_byThieves_160 : decode cX7_byThieves 160 = .ok (.invokevirtual 228, 3) := by decide +kernel
theorem dX7_byThieves_163 : decode cX7_byThieves 163 = .ok (.goto 19, 3) := by decide +kernel
theorem dX7_byThieves_166 : decode cX7_byThieves 166 = .ok (.aload_n 0, 1) := by decide +kernel
theorem dX7_byThieves_167 : decode cX7_byThieves 167 = .ok (.getfield 28, 3) := by decide +kernel
theorem dX7_byThieves_170 : decode cX7_byThieves 170 = .ok (.iload_n 2, 1) := by decide +kernel
theorem dX7_byThieves_171 : decode cX7_byThieves 171 = .ok (.iaload, 1) := by decide +kernel
theorem dX7_byThieves_172 : decode cX7_byThieves 172 = .ok (.bipush (-4), 2) := by decide +kernel
theorem dX7_byThieves_174 : decode cX7_byThieves 174 = .ok (.if_icmp .eq 7, 3) := by decide +kernel
theorem dX7_byThieves_177 : decode cX7_byThieves 177 = .ok (.iconst 1, 1) := by decide +kernel
theorem dX7_byThieves_178 : decode cX7_byThieves 178 = .ok (.goto 4, 3) := by decide +kernel
theorem dX7_byThieves_181 : decode cX7_byThieves 181 = .ok (.iconst 0, 1) := by decide +kernel
theorem dX7_byThieves_182 : decode cX7_byThieves 182 = .ok (.i2l, 1) := by decide +kernel
theorem dX7_byThieves_183 : decode cX7_byThieves 183 = .ok (.lmul, 1) := by decide +kernel
theorem dX7_byThieves_184 : decode cX7_byThieves 184 = .ok (.ladd, 1) := by decide +kernel
theorem dX7_byThieves_185 : decode cX7_byThieves 185 = .ok (.lstore 5, 2) := by decide +kernel
theorem dX7_byThieves_187 : decode cX7_byThieves 187 = .ok (.iinc 9 1, 3) := by decide +kernel
theorem dX7_byThieves_190 : decode cX7_byThieves 190 = .ok (.goto (-129), 3) := by decide +kernel
theorem dX7_byThieves_193 : decode cX7_byThieves 193 = .ok (.lload 5, 2) := by decide +kernel
theorem dX7_byThieves_195 : decode cX7_byThieves 195 = .ok (.lload 7, 2) := by decide +kernel
theorem dX7_byThieves_197 : decode cX7_byThieves 197 = .ok (.iload_n 3, 1) := by decide +kernel
theorem dX7_byThieves_198 : decode cX7_byThieves 198 = .ok (.invokestatic 262, 3) := by decide +kernel
theorem dX7_byThieves_201 : decode cX7_byThieves 201 = .ok (.lreturn, 1) := by decide +kernel
theorem dX7_mean_0 : decode cX7_mean 0 = .ok (.iload_n 1, 1) := by decide +kernel
theorem dX7_mean_1 : decode cX7_mean 1 = .ok (.i2l, 1) := by decide +kernel
theorem dX7_mean_2 : decode cX7_mean 2 = .ok (.lconst 0, 1) := by decide +kernel
theorem dX7_mean_3 : decode cX7_mean 3 = .ok (.ldc2_w 243, 3) := by decide +kernel
theorem dX7_mean_6 : decode cX7_mean 6 = .ok (.invokestatic 58, 3) := by decide +kernel
theorem dX7_mean_9 : decode cX7_mean 9 = .ok (.ifCond .eq 24, 3) := by decide +kernel
theorem dX7_mean_12 : decode cX7_mean 12 = .ok (.iload_n 2, 1) := by decide +kernel
theorem dX7_mean_13 : decode cX7_mean 13 = .ok (.i2l, 1) := by decide +kernel
theorem dX7_mean_14 : decode cX7_mean 14 = .ok (.lconst 0, 1) := by decide +kernel
theorem dX7_mean_15 : decode cX7_mean 15 = .ok (.lconst 1, 1) := by decide +kernel
theorem dX7_mean_16 : decode cX7_mean 16 = .ok (.invokestatic 58, 3) := by decide +kernel
theorem dX7_mean_19 : decode cX7_mean 19 = .ok (.ifCond .eq 14, 3) := by decide +kernel
theorem dX7_mean_22 : decode cX7_mean 22 = .ok (.aload_n 0, 1) := by decide +kernel
theorem dX7_mean_23 : decode cX7_mean 23 = .ok (.iload_n 1, 1) := by decide +kernel
theorem dX7_mean_24 : decode cX7_mean 24 = .ok (.bipush (-4), 2) := by decide +kernel
theorem dX7_mean_26 : decode cX7_mean 26 = .ok (.iload_n 2, 1) := by decide +kernel
theorem dX7_mean_27 : decode cX7_mean 27 = .ok (.invokevirtual 266, 3) := by decide +kernel
theorem dX7_mean_30 : decode cX7_mean 30 = .ok (.goto 6, 3) := by decide +kernel
theorem dX7_mean_33 : decode cX7_mean 33 = .ok (.ldc2_w 270, 3) := by decide +kernel
theorem dX7_mean_36 : decode cX7_mean 36 = .ok (.lreturn, 1) := by decide +kernel
theorem dX7_luck_0 : decode cX7_luck 0 = .ok (.iload_n 1, 1) := by decide +kernel
theorem dX7_luck_1 : decode cX7_luck 1 = .ok (.i2l, 1) := by decide +kernel
theorem dX7_luck_2 : decode cX7_luck 2 = .ok (.lconst 0, 1) := by decide +kernel
theorem dX7_luck_3 : decode cX7_luck 3 = .ok (.ldc2_w 243, 3) := by decide +kernel
theorem dX7_luck_6 : decode cX7_luck 6 = .ok (.invokestatic 58, 3) := by decide +kernel
theorem dX7_luck_9 : decode cX7_luck 9 = .ok (.ifCond .eq 31, 3) := by decide +kernel
theorem dX7_luck_12 : decode cX7_luck 12 = .ok (.aload_n 0, 1) := by decide +kernel
theorem dX7_luck_13 : decode cX7_luck 13 = .ok (.iload_n 2, 1) := by decide +kernel
theorem dX7_luck_14 : decode cX7_luck 14 = .ok (.invokevirtual 158, 3) := by decide +kernel
theorem dX7_luck_17 : decode cX7_luck 17 = .ok (.ifCond .eq 23, 3) := by decide +kernel
theorem dX7_luck_20 : decode cX7_luck 20 = .ok (.iload_n 3, 1) := by decide +kernel
theorem dX7_luck_21 : decode cX7_luck 21 = .ok (.i2l, 1) := by decide +kernel
theorem dX7_luck_22 : decode cX7_luck 22 = .ok (.lconst 0, 1) := by decide +kernel
theorem dX7_luck_23 : decode cX7_luck 23 = .ok (.lconst 1, 1) := by decide +kernel
theorem dX7_luck_24 : decode cX7_luck 24 = .ok (.invokestatic 58, 3) := by decide +kernel
theorem dX7_luck_27 : decode cX7_luck 27 = .ok (.ifCond .eq 13, 3) := by decide +kernel
theorem dX7_luck_30 : decode cX7_luck 30 = .ok (.aload_n 0, 1) := by decide +kernel
theorem dX7_luck_31 : decode cX7_luck 31 = .ok (.iload_n 1, 1) := by decide +kernel
theorem dX7_luck_32 : decode cX7_luck 32 = .ok (.iload_n 2, 1) := by decide +kernel
theorem dX7_luck_33 : decode cX7_luck 33 = .ok (.iload_n 3, 1) := by decide +kernel
theorem dX7_luck_34 : decode cX7_luck 34 = .ok (.invokevirtual 266, 3) := by decide +kernel
theorem dX7_luck_37 : decode cX7_luck 37 = .ok (.goto 6, 3) := by decide +kernel
theorem dX7_luck_40 : decode cX7_luck 40 = .ok (.ldc2_w 270, 3) := by decide +kernel
theorem dX7_luck_43 : decode cX7_luck 43 = .ok (.lreturn, 1) := by decide +kernel
theorem dX7_see_0 : decode cX7_see 0 = .ok (.aload_n 0, 1) := by decide +kernel
theorem dX7_see_1 : decode cX7_see 1 = .ok (.iload_n 1, 1) := by decide +kernel
theorem dX7_see_2 : decode cX7_see 2 = .ok (.invokevirtual 158, 3) := by decide +kernel
theorem dX7_see_5 : decode cX7_see 5 = .ok (.ifCond .eq 27, 3) := by decide +kernel
theorem dX7_see_8 : decode cX7_see 8 = .ok (.iload_n 2, 1) := by decide +kernel
theorem dX7_see_9 : decode cX7_see 9 = .ok (.i2l, 1) := by decide +kernel
theorem dX7_see_10 : decode cX7_see 10 = .ok (.lconst 0, 1) := by decide +kernel
theorem dX7_see_11 : decode cX7_see 11 = .ok (.ldc2_w 184, 3) := by decide +kernel
theorem dX7_see_14 : decode cX7_see 14 = .ok (.invokestatic 58, 3) := by decide +kernel
theorem dX7_see_17 : decode cX7_see 17 = .ok (.ifCond .eq 15, 3) := by decide +kernel
theorem dX7_see_20 : decode cX7_see 20 = .ok (.iload_n 3, 1) := by decide +kernel
theorem dX7_see_21 : decode cX7_see 21 = .ok (.i2l, 1) := by decide +kernel
theorem dX7_see_22 : decode cX7_see 22 = .ok (.lconst 0, 1) := by decide +kernel
theorem dX7_see_23 : decode cX7_see 23 = .ok (.ldc2_w 211, 3) := by decide +kernel
theorem dX7_see_26 : decode cX7_see 26 = .ok (.invokestatic 58, 3) := by decide +kernel
theorem dX7_see_29 : decode cX7_see 29 = .ok (.ifCond .ne 5, 3) := by decide +kernel
theorem dX7_see_32 : decode cX7_see 32 = .ok (.iconst (-1), 1) := by decide +kernel
theorem dX7_see_33 : decode cX7_see 33 = .ok (.ireturn, 1) := by decide +kernel
theorem dX7_see_34 : decode cX7_see 34 = .ok (.aload_n 0, 1) := by decide +kernel
theorem dX7_see_35 : decode cX7_see 35 = .ok (.getfield 153, 3) := by decide +kernel
theorem dX7_see_38 : decode cX7_see 38 = .ok (.bipush 6, 2) := by decide +kernel
theorem dX7_see_40 : decode cX7_see 40 = .ok (.if_icmp .ne 6, 3) := by decide +kernel
theorem dX7_see_43 : decode cX7_see 43 = .ok (.bipush (-3), 2) := by decide +kernel
theorem dX7_see_45 : decode cX7_see 45 = .ok (.ireturn, 1) := by decide +kernel
theorem dX7_see_46 : decode cX7_see 46 = .ok (.aload_n 0, 1) := by decide +kernel
theorem dX7_see_47 : decode cX7_see 47 = .ok (.getfield 37, 3) := by decide +kernel
theorem dX7_see_50 : decode cX7_see 50 = .ok (.iconst 3, 1) := by decide +kernel
theorem dX7_see_51 : decode cX7_see 51 = .ok (.aload_n 0, 1) := by decide +kernel
theorem dX7_see_52 : decode cX7_see 52 = .ok (.getfield 153, 3) := by decide +kernel
theorem dX7_see_55 : decode cX7_see 55 = .ok (.imul, 1) := by decide +kernel
theorem dX7_see_56 : decode cX7_see 56 = .ok (.iload_n 1, 1) := by decide +kernel
theorem dX7_see_57 : decode cX7_see 57 = .ok (.iastore, 1) := by decide +kernel
theorem dX7_see_58 : decode cX7_see 58 = .ok (.aload_n 0, 1) := by decide +kernel
theorem dX7_see_59 : decode cX7_see 59 = .ok (.getfield 37, 3) := by decide +kernel
theorem dX7_see_62 : decode cX7_see 62 = .ok (.iconst 3, 1) := by decide +kernel
theorem dX7_see_63 : decode cX7_see 63 = .ok (.aload_n 0, 1) := by decide +kernel
theorem dX7_see_64 : decode cX7_see 64 = .ok (.getfield 153, 3) := by decide +kernel
theorem dX7_see_67 : decode cX7_see 67 = .ok (.imul, 1) := by decide +kernel
theorem dX7_see_68 : decode cX7_see 68 = .ok (.iconst 1, 1) := by decide +kernel
theorem dX7_see_69 : decode cX7_see 69 = .ok (.iadd, 1) := by decide +kernel
theorem dX7_see_70 : decode cX7_see 70 = .ok (.iload_n 2, 1) := by decide +kernel
theorem dX7_see_71 : decode cX7_see 71 = .ok (.iastore, 1) := by decide +kernel
theorem dX7_see_72 : decode cX7_see 72 = .ok (.aload_n 0, 1) := by decide +kernel
theorem dX7_see_73 : decode cX7_see 73 = .ok (.getfield 37, 3) := by decide +kernel
theorem dX7_see_76 : decode cX7_see 76 = .ok (.iconst 3, 1) := by decide +kernel
theorem dX7_see_77 : decode cX7_see 77 = .ok (.aload_n 0, 1) := by decide +kernel
theorem dX7_see_78 : decode cX7_see 78 = .ok (.getfield 153, 3) := by decide +kernel
theorem dX7_see_81 : decode cX7_see 81 = .ok (.imul, 1) := by decide +kernel
theorem dX7_see_82 : decode cX7_see 82 = .ok (.iconst 2, 1) := by decide +kernel
theorem dX7_see_83 : decode cX7_see 83 = .ok (.iadd, 1) := by decide +kernel
theorem dX7_see_84 : decode cX7_see 84 = .ok (.iload_n 3, 1) := by decide +kernel
theorem dX7_see_85 : decode cX7_see 85 = .ok (.iastore, 1) := by decide +kernel
theorem dX7_see_86 : decode cX7_see 86 = .ok (.aload_n 0, 1) := by decide +kernel
theorem dX7_see_87 : decode cX7_see 87 = .ok (.dup, 1) := by decide +kernel
theorem dX7_see_88 : decode cX7_see 88 = .ok (.getfield 153, 3) := by decide +kernel
theorem dX7_see_91 : decode cX7_see 91 = .ok (.iconst 1, 1) := by decide +kernel
theorem dX7_see_92 : decode cX7_see 92 = .ok (.iadd, 1) := by decide +kernel
theorem dX7_see_93 : decode cX7_see 93 = .ok (.putfield 153, 3) := by decide +kernel
theorem dX7_see_96 : decode cX7_see 96 = .ok (.aload_n 0, 1) := by decide +kernel
theorem dX7_see_97 : decode cX7_see 97 = .ok (.getfield 153, 3) := by decide +kernel
theorem dX7_see_100 : decode cX7_see 100 = .ok (.ireturn, 1) := by decide +kernel
theorem dX7_forget_0 : decode cX7_forget 0 = .ok (.iload_n 1, 1) := by decide +kernel
theorem dX7_forget_1 : decode cX7_forget 1 = .ok (.i2l, 1) := by decide +kernel
theorem dX7_forget_2 : decode cX7_forget 2 = .ok (.lconst 0, 1) := by decide +kernel
theorem dX7_forget_3 : decode cX7_forget 3 = .ok (.aload_n 0, 1) := by decide +kernel
theorem dX7_forget_4 : decode cX7_forget 4 = .ok (.getfield 153, 3) := by decide +kernel
theorem dX7_forget_7 : decode cX7_forget 7 = .ok (.i2l, 1) := by decide +kernel
theorem dX7_forget_8 : decode cX7_forget 8 = .ok (.invokestatic 58, 3) := by decide +kernel
theorem dX7_forget_11 : decode cX7_forget 11 = .ok (.ifCond .ne 5, 3) := by decide +kernel
theorem dX7_forget_14 : decode cX7_forget 14 = .ok (.iconst (-1), 1) := by decide +kernel
theorem dX7_forget_15 : decode cX7_forget 15 = .ok (.ireturn, 1) := by decide +kernel
theorem dX7_forget_16 : decode cX7_forget 16 = .ok (.aload_n 0, 1) := by decide +kernel
theorem dX7_forget_17 : decode cX7_forget 17 = .ok (.getfield 153, 3) := by decide +kernel
theorem dX7_forget_20 : decode cX7_forget 20 = .ok (.istore_n 2, 1) := by decide +kernel
theorem dX7_forget_21 : decode cX7_forget 21 = .ok (.aload_n 0, 1) := by decide +kernel
theorem dX7_forget_22 : decode cX7_forget 22 = .ok (.iload_n 1, 1) := by decide +kernel
theorem dX7_forget_23 : decode cX7_forget 23 = .ok (.putfield 153, 3) := by decide +kernel
theorem dX7_forget_26 : decode cX7_forget 26 = .ok (.iload_n 2, 1) := by decide +kernel
theorem dX7_forget_27 : decode cX7_forget 27 = .ok (.ireturn, 1) := by decide +kernel
theorem dX7_pensFor_0 : decode cX7_pensFor 0 = .ok (.iconst 0, 1) := by decide +kernel
theorem dX7_pensFor_1 : decode cX7_pensFor 1 = .ok (.istore_n 2, 1) := by decide +kernel
theorem dX7_pensFor_2 : decode cX7_pensFor 2 = .ok (.aload_n 0, 1) := by decide +kernel
theorem dX7_pensFor_3 : decode cX7_pensFor 3 = .ok (.getfield 7, 3) := by decide +kernel
theorem dX7_pensFor_6 : decode cX7_pensFor 6 = .ok (.bipush 32, 2) := by decide +kernel
theorem dX7_pensFor_8 : decode cX7_pensFor 8 = .ok (.iload_n 1, 1) := by decide +kernel
theorem dX7_pensFor_9 : decode cX7_pensFor 9 = .ok (.iadd, 1) := by decide +kernel
theorem dX7_pensFor_10 : decode cX7_pensFor 10 = .ok (.iaload, 1) := by decide +kernel
theorem dX7_pensFor_11 : decode cX7_pensFor 11 = .ok (.istore_n 3, 1) := by decide +kernel
theorem dX7_pensFor_12 : decode cX7_pensFor 12 = .ok (.iconst 0, 1) := by decide +kernel
theorem dX7_pensFor_13 : decode cX7_pensFor 13 = .ok (.istore 4, 2) := by decide +kernel
theorem dX7_pensFor_15 : decode cX7_pensFor 15 = .ok (.iload 4, 2) := by decide +kernel
theorem dX7_pensFor_17 : decode cX7_pensFor 17 = .ok (.bipush 8, 2) := by decide +kernel
theorem dX7_pensFor_19 : decode cX7_pensFor 19 = .ok (.if_icmp .ge 157, 3) := by decide +kernel
theorem dX7_pensFor_22 : decode cX7_pensFor 22 = .ok (.aload_n 0, 1) := by decide +kernel
theorem dX7_pensFor_23 : decode cX7_pensFor 23 = .ok (.iload 4, 2) := by decide +kernel
theorem dX7_pensFor_25 : decode cX7_pensFor 25 = .ok (.invokevirtual 158, 3) := by decide +kernel
theorem dX7_pensFor_28 : decode cX7_pensFor 28 = .ok (.ifCond .eq 142, 3) := by decide +kernel
theorem dX7_pensFor_31 : decode cX7_pensFor 31 = .ok (.aload_n 0, 1) := by decide +kernel
theorem dX7_pensFor_32 : decode cX7_pensFor 32 = .ok (.getfield 7, 3) := by decide +kernel
theorem dX7_pensFor_35 : decode cX7_pensFor 35 = .ok (.bipush 32, 2) := by decide +kernel
theorem dX7_pensFor_37 : decode cX7_pensFor 37 = .ok (.iload_n 1, 1) := by decide +kernel
theorem dX7_pensFor_38 : decode cX7_pensFor 38 = .ok (.iadd, 1) := by decide +kernel
theorem dX7_pensFor_39 : decode cX7_pensFor 39 = .ok (.iload 4, 2) := by decide +kernel
theorem dX7_pensFor_41 : decode cX7_pensFor 41 = .ok (.iload_n 1, 1) := by decide +kernel
theorem dX7_pensFor_42 : decode cX7_pensFor 42 = .ok (.isub, 1) := by decide +kernel
theorem dX7_pensFor_43 : decode cX7_pensFor 43 = .ok (.iastore, 1) := by decide +kernel
theorem dX7_pensFor_44 : decode cX7_pensFor 44 = .ok (.iconst 1, 1) := by decide +kernel
theorem dX7_pensFor_45 : decode cX7_pensFor 45 = .ok (.istore 5, 2) := by decide +kernel
theorem dX7_pensFor_47 : decode cX7_pensFor 47 = .ok (.iconst 0, 1) := by decide +kernel
theorem dX7_pensFor_48 : decode cX7_pensFor 48 = .ok (.istore 6, 2) := by decide +kernel
theorem dX7_pensFor_50 : decode cX7_pensFor 50 = .ok (.iload 6, 2) := by decide +kernel
theorem dX7_pensFor_52 : decode cX7_pensFor 52 = .ok (.aload_n 0, 1) := by decide +kernel
theorem dX7_pensFor_53 : decode cX7_pensFor 53 = .ok (.getfield 153, 3) := by decide +kernel
theorem dX7_pensFor_56 : decode cX7_pensFor 56 = .ok (.if_icmp .ge 64, 3) := by decide +kernel
theorem dX7_pensFor_59 : decode cX7_pensFor 59 = .ok (.iload 5, 2) := by decide +kernel
theorem dX7_pensFor_61 : decode cX7_pensFor 61 = .ok (.ifCond .eq 50, 3) := by decide +kernel
theorem dX7_pensFor_64 : decode cX7_pensFor 64 = .ok (.aload_n 0, 1) := by decide +kernel
theorem dX7_pensFor_65 : decode cX7_pensFor 65 = .ok (.getfield 37, 3) := by decide +kernel
theorem dX7_pensFor_68 : decode cX7_pensFor 68 = .ok (.iconst 3, 1) := by decide +kernel
theorem dX7_pensFor_69 : decode cX7_pensFor 69 = .ok (.iload 6, 2) := by decide +kernel
theorem dX7_pensFor_71 : decode cX7_pensFor 71 = .ok (.imul, 1) := by decide +kernel
theorem dX7_pensFor_72 : decode cX7_pensFor 72 = .ok (.iaload, 1) := by decide +kernel
theorem dX7_pensFor_73 : decode cX7_pensFor 73 = .ok (.iload_n 1, 1) := by decide +kernel
theorem dX7_pensFor_74 : decode cX7_pensFor 74 = .ok (.if_icmp .ne 33, 3) := by decide +kernel
theorem dX7_pensFor_77 : decode cX7_pensFor 77 = .ok (.aload_n 0, 1) := by decide +kernel
theorem dX7_pensFor_78 : decode cX7_pensFor 78 = .ok (.iload_n 1, 1) := by decide +kernel
theorem dX7_pensFor_79 : decode cX7_pensFor 79 = .ok (.aload_n 0, 1) := by decide +kernel
theorem dX7_pensFor_80 : decode cX7_pensFor 80 = .ok (.getfield 37, 3) := by decide +kernel
theorem dX7_pensFor_83 : decode cX7_pensFor 83 = .ok (.iconst 3, 1) := by decide +kernel
theorem dX7_pensFor_84 : decode cX7_pensFor 84 = .ok (.iload 6, 2) := by decide +kernel
theorem dX7_pensFor_86 : decode cX7_pensFor 86 = .ok (.imul, 1) := by decide +kernel
theorem dX7_pensFor_87 : decode cX7_pensFor 87 = .ok (.iconst 1, 1) := by decide +kernel
theorem dX7_pensFor_88 : decode cX7_pensFor 88 = .ok (.iadd, 1) := by decide +kernel
theorem dX7_pensFor_89 : decode cX7_pensFor 89 = .ok (.iaload, 1) := by decide +kernel
theorem dX7_pensFor_90 : decode cX7_pensFor 90 = .ok (.invokevirtual 186, 3) := by decide +kernel
theorem dX7_pensFor_93 : decode cX7_pensFor 93 = .ok (.aload_n 0, 1) := by decide +kernel
theorem dX7_pensFor_94 : decode cX7_pensFor 94 = .ok (.getfield 37, 3) := by decide +kernel
theorem dX7_pensFor_97 : decode cX7_pensFor 97 = .ok (.iconst 3, 1) := by decide +kernel
theorem dX7_pensFor_98 : decode cX7_pensFor 98 = .ok (.iload 6, 2) := by decide +kernel
theorem dX7_pensFor_100 : decode cX7_pensFor 100 = .ok (.imul, 1) := by decide +kernel
theorem dX7_pensFor_101 : decode cX7_pensFor 101 = .ok (.iconst 2, 1) := by decide +kernel
theorem dX7_pensFor_102 : decode cX7_pensFor 102 = .ok (.iadd, 1) := by decide +kernel
theorem dX7_pensFor_103 : decode cX7_pensFor 103 = .ok (.iaload, 1) := by decide +kernel
theorem dX7_pensFor_104 : decode cX7_pensFor 104 = .ok (.if_icmp .ne 7, 3) := by decide +kernel
theorem dX7_pensFor_107 : decode cX7_pensFor 107 = .ok (.iconst 1, 1) := by decide +kernel
theorem dX7_pensFor_108 : decode cX7_pensFor 108 = .ok (.goto 4, 3) := by decide +kernel
theorem dX7_pensFor_111 : decode cX7_pensFor 111 = .ok (.iconst 0, 1) := by decide +kernel
theorem dX7_pensFor_112 : decode cX7_pensFor 112 = .ok (.istore 5, 2) := by decide +kernel
theorem dX7_pensFor_114 : decode cX7_pensFor 114 = .ok (.iinc 6 1, 3) := by decide +kernel
theorem dX7_pensFor_117 : decode cX7_pensFor 117 = .ok (.goto (-67), 3) := by decide +kernel
theorem dX7_pensFor_120 : decode cX7_pensFor 120 = .ok (.iconst 0, 1) := by decide +kernel
theorem dX7_pensFor_121 : decode cX7_pensFor 121 = .ok (.istore 6, 2) := by decide +kernel
theorem dX7_pensFor_123 : decode cX7_pensFor 123 = .ok (.iload 6, 2) := by decide +kernel
theorem dX7_pensFor_125 : decode cX7_pensFor 125 = .ok (.iconst 3, 1) := by decide +kernel
theorem dX7_pensFor_126 : decode cX7_pensFor 126 = .ok (.if_icmp .ge 28, 3) := by decide +kernel
theorem dX7_pensFor_129 : decode cX7_pensFor 129 = .ok (.aload_n 0, 1) := by decide +kernel
theorem dX7_pensFor_130 : decode cX7_pensFor 130 = .ok (.getfield 40, 3) := by decide +kernel
theorem dX7_pensFor_133 : decode cX7_pensFor 133 = .ok (.iconst 3, 1) := by decide +kernel
theorem dX7_pensFor_134 : decode cX7_pensFor 134 = .ok (.iload 4, 2) := by decide +kernel
theorem dX7_pensFor_136 : decode cX7_pensFor 136 = .ok (.imul, 1) := by decide +kernel
theorem dX7_pensFor_137 : decode cX7_pensFor 137 = .ok (.iload 6, 2) := by decide +kernel
theorem dX7_pensFor_139 : decode cX7_pensFor 139 = .ok (.iadd, 1) := by decide +kernel
theorem dX7_pensFor_140 : decode cX7_pensFor 140 = .ok (.aload_n 0, 1) := by decide +kernel
theorem dX7_pensFor_141 : decode cX7_pensFor 141 = .ok (.iload_n 1, 1) := by decide +kernel
theorem dX7_pensFor_142 : decode cX7_pensFor 142 = .ok (.iload 6, 2) := by decide +kernel
theorem dX7_pensFor_144 : decode cX7_pensFor 144 = .ok (.invokevirtual 186, 3) := by decide +kernel
theorem dX7_pensFor_147 : decode cX7_pensFor 147 = .ok (.iastore, 1) := by decide +kernel
theorem dX7_pensFor_148 : decode cX7_pensFor 148 = .ok (.iinc 6 1, 3) := by decide +kernel
theorem dX7_pensFor_151 : decode cX7_pensFor 151 = .ok (.goto (-28), 3) := by decide +kernel
theorem dX7_pensFor_154 : decode cX7_pensFor 154 = .ok (.iload_n 2, 1) := by decide +kernel
theorem dX7_pensFor_155 : decode cX7_pensFor 155 = .ok (.iload 5, 2) := by decide +kernel
theorem dX7_pensFor_157 : decode cX7_pensFor 157 = .ok (.ifCond .eq 10, 3) := by decide +kernel
theorem dX7_pensFor_160 : decode cX7_pensFor 160 = .ok (.iconst 1, 1) := by decide +kernel
theorem dX7_pensFor_161 : decode cX7_pensFor 161 = .ok (.iload 4, 2) := by decide +kernel
theorem dX7_pensFor_163 : decode cX7_pensFor 163 = .ok (.ishl, 1) := by decide +kernel
theorem dX7_pensFor_164 : decode cX7_pensFor 164 = .ok (.goto 4, 3) := by decide +kernel
theorem dX7_pensFor_167 : decode cX7_pensFor 167 = .ok (.iconst 0, 1) := by decide +kernel
theorem dX7_pensFor_168 : decode cX7_pensFor 168 = .ok (.ior, 1) := by decide +kernel
theorem dX7_pensFor_169 : decode cX7_pensFor 169 = .ok (.istore_n 2, 1) := by decide +kernel
theorem dX7_pensFor_170 : decode cX7_pensFor 170 = .ok (.iinc 4 1, 3) := by decide +kernel
theorem dX7_pensFor_173 : decode cX7_pensFor 173 = .ok (.goto (-158), 3) := by decide +kernel
theorem dX7_pensFor_176 : decode cX7_pensFor 176 = .ok (.aload_n 0, 1) := by decide +kernel
theorem dX7_pensFor_177 : decode cX7_pensFor 177 = .ok (.getfield 7, 3) := by decide +kernel
theorem dX7_pensFor_180 : decode cX7_pensFor 180 = .ok (.bipush 32, 2) := by decide +kernel
theorem dX7_pensFor_182 : decode cX7_pensFor 182 = .ok (.iload_n 1, 1) := by decide +kernel
theorem dX7_pensFor_183 : decode cX7_pensFor 183 = .ok (.iadd, 1) := by decide +kernel
theorem dX7_pensFor_184 : decode cX7_pensFor 184 = .ok (.iload_n 3, 1) := by decide +kernel
theorem dX7_pensFor_185 : decode cX7_pensFor 185 = .ok (.iastore, 1) := by decide +kernel
theorem dX7_pensFor_186 : decode cX7_pensFor 186 = .ok (.iload_n 2, 1) := by decide +kernel
theorem dX7_pensFor_187 : decode cX7_pensFor 187 = .ok (.ireturn, 1) := by decide +kernel
theorem dX7_fits_0 : decode cX7_fits 0 = .ok (.aload_n 0, 1) := by decide +kernel
theorem dX7_fits_1 : decode cX7_fits 1 = .ok (.iload_n 1, 1) := by decide +kernel
theorem dX7_fits_2 : decode cX7_fits 2 = .ok (.invokevirtual 158, 3) := by decide +kernel
theorem dX7_fits_5 : decode cX7_fits 5 = .ok (.ifCond .eq 11, 3) := by decide +kernel
theorem dX7_fits_8 : decode cX7_fits 8 = .ok (.aload_n 0, 1) := by decide +kernel
theorem dX7_fits_9 : decode cX7_fits 9 = .ok (.iload_n 1, 1) := by decide +kernel
theorem dX7_fits_10 : decode cX7_fits 10 = .ok (.invokevirtual 272, 3) := by decide +kernel
theorem dX7_fits_13 : decode cX7_fits 13 = .ok (.goto 4, 3) := by decide +kernel
theorem dX7_fits_16 : decode cX7_fits 16 = .ok (.iconst (-1), 1) := by decide +kernel
theorem dX7_fits_17 : decode cX7_fits 17 = .ok (.ireturn, 1) := by decide +kernel
theorem dX7_look_0 : decode cX7_look 0 = .ok (.aload_n 0, 1) := by decide +kernel
theorem dX7_look_1 : decode cX7_look 1 = .ok (.iload_n 1, 1) := by decide +kernel
theorem dX7_look_2 : decode cX7_look 2 = .ok (.invokevirtual 158, 3) := by decide +kernel
theorem dX7_look_5 : decode cX7_look 5 = .ok (.ifCond .eq 13, 3) := by decide +kernel
theorem dX7_look_8 : decode cX7_look 8 = .ok (.iload_n 2, 1) := by decide +kernel
theorem dX7_look_9 : decode cX7_look 9 = .ok (.i2l, 1) := by decide +kernel
theorem dX7_look_10 : decode cX7_look 10 = .ok (.lconst 0, 1) := by decide +kernel
theorem dX7_look_11 : decode cX7_look 11 = .ok (.lconst 1, 1) := by decide +kernel
theorem dX7_look_12 : decode cX7_look 12 = .ok (.invokestatic 58, 3) := by decide +kernel
theorem dX7_look_15 : decode cX7_look 15 = .ok (.ifCond .ne 5, 3) := by decide +kernel
theorem dX7_look_18 : decode cX7_look 18 = .ok (.iconst (-1), 1) := by decide +kernel
theorem dX7_look_19 : decode cX7_look 19 = .ok (.ireturn, 1) := by decide +kernel
theorem dX7_look_20 : decode cX7_look 20 = .ok (.aload_n 0, 1) := by decide +kernel
theorem dX7_look_21 : decode cX7_look 21 = .ok (.iload_n 1, 1) := by decide +kernel
theorem dX7_look_22 : decode cX7_look 22 = .ok (.invokevirtual 272, 3) := by decide +kernel
theorem dX7_look_25 : decode cX7_look 25 = .ok (.istore_n 3, 1) := by decide +kernel
theorem dX7_look_26 : decode cX7_look 26 = .ok (.iload_n 3, 1) := by decide +kernel
theorem dX7_look_27 : decode cX7_look 27 = .ok (.invokestatic 216, 3) := by decide +kernel
theorem dX7_look_30 : decode cX7_look 30 = .ok (.istore 4, 2) := by decide +kernel
theorem dX7_look_32 : decode cX7_look 32 = .ok (.bipush (-4), 2) := by decide +kernel
theorem dX7_look_34 : decode cX7_look 34 = .ok (.istore 5, 2) := by decide +kernel
theorem dX7_look_36 : decode cX7_look 36 = .ok (.iconst 0, 1) := by decide +kernel
theorem dX7_look_37 : decode cX7_look 37 = .ok (.istore 6, 2) := by decide +kernel
theorem dX7_look_39 : decode cX7_look 39 = .ok (.iload 6, 2) := by decide +kernel
theorem dX7_look_41 : decode cX7_look 41 = .ok (.iconst 3, 1) := by decide +kernel
theorem dX7_look_42 : decode cX7_look 42 = .ok (.if_icmp .ge 152, 3) := by decide +kernel
theorem dX7_look_45 : decode cX7_look 45 = .ok (.iconst 0, 1) := by decide +kernel
theorem dX7_look_46 : decode cX7_look 46 = .ok (.istore 7, 2) := by decide +kernel
theorem dX7_look_48 : decode cX7_look 48 = .ok (.iconst 0, 1) := by decide +kernel
theorem dX7_look_49 : decode cX7_look 49 = .ok (.istore 8, 2) := by decide +kernel
theorem dX7_look_51 : decode cX7_look 51 = .ok (.iload 8, 2) := by decide +kernel
theorem dX7_look_53 : decode cX7_look 53 = .ok (.bipush 8, 2) := by decide +kernel
theorem dX7_look_55 : decode cX7_look 55 = .ok (.if_icmp .ge 101, 3) := by decide +kernel
theorem dX7_look_58 : decode cX7_look 58 = .ok (.iconst 0, 1) := by decide +kernel
theorem dX7_look_59 : decode cX7_look 59 = .ok (.istore 9, 2) := by decide +kernel
theorem dX7_look_61 : decode cX7_look 61 = .ok (.iconst 0, 1) := by decide +kernel
theorem dX7_look_62 : decode cX7_look 62 = .ok (.istore 10, 2) := by decide +kernel
theorem dX7_look_64 : decode cX7_look 64 = .ok (.iload 10, 2) := by decide +kernel
theorem dX7_look_66 : decode cX7_look 66 = .ok (.bipush 8, 2) := by decide +kernel
theorem dX7_look_68 : decode cX7_look 68 = .ok (.if_icmp .ge 66, 3) := by decide +kernel
theorem dX7_look_71 : decode cX7_look 71 = .ok (.iload_n 3, 1) := by decide +kernel
theorem dX7_look_72 : decode cX7_look 72 = .ok (.iload 8, 2) := by decide +kernel
theorem dX7_look_74 : decode cX7_look 74 = .ok (.ishr, 1) := by decide +kernel
theorem dX7_look_75 : decode cX7_look 75 = .ok (.iconst 1, 1) := by decide +kernel
theorem dX7_look_76 : decode cX7_look 76 = .ok (.iand, 1) := by decide +kernel
theorem dX7_look_77 : decode cX7_look 77 = .ok (.iconst 1, 1) := by decide +kernel
theorem dX7_look_78 : decode cX7_look 78 = .ok (.if_icmp .ne 56, 3) := by decide +kernel
theorem dX7_look_81 : decode cX7_look 81 = .ok (.iload 9, 2) := by decide +kernel
theorem dX7_look_83 : decode cX7_look 83 = .ok (.iload_n 3, 1) := by decide +kernel
theorem dX7_look_84 : decode cX7_look 84 = .ok (.iload 10, 2) := by decide +kernel
theorem dX7_look_86 : decode cX7_look 86 = .ok (.ishr, 1) := by decide +kernel
theorem dX7_look_87 : decode cX7_look 87 = .ok (.iconst 1, 1) := by decide +kernel
theorem dX7_look_88 : decode cX7_look 88 = .ok (.iand, 1) := by decide +kernel
theorem dX7_look_89 : decode cX7_look 89 = .ok (.iconst 1, 1) := by decide +kernel
theorem dX7_look_90 : decode cX7_look 90 = .ok (.if_icmp .ne 34, 3) := by decide +kernel
theorem dX7_look_93 : decode cX7_look 93 = .ok (.aload_n 0, 1) := by decide +kernel
theorem dX7_look_94 : decode cX7_look 94 = .ok (.getfield 40, 3) := by decide +kernel
theorem dX7_look_97 : decode cX7_look 97 = .ok (.iconst 3, 1) := by decide +kernel
theorem dX7_look_98 : decode cX7_look 98 = .ok (.iload 8, 2) := by decide +kernel
theorem dX7_look_100 : decode cX7_look 100 = .ok (.imul, 1) := by decide +kernel
theorem dX7_look_101 : decode cX7_look 101 = .ok (.iload 6, 2) := by decide +kernel
theorem dX7_look_103 : decode cX7_look 103 = .ok (.iadd, 1) := by decide +kernel
theorem dX7_look_104 : decode cX7_look 104 = .ok (.iaload, 1) := by decide +kernel
theorem dX7_look_105 : decode cX7_look 105 = .ok (.aload_n 0, 1) := by decide +kernel
theorem dX7_look_106 : decode cX7_look 106 = .ok (.getfield 40, 3) := by decide +kernel
theorem dX7_look_109 : decode cX7_look 109 = .ok (.iconst 3, 1) := by decide +kernel
theorem dX7_look_110 : decode cX7_look 110 = .ok (.iload 10, 2) := by decide +kernel
theorem dX7_look_112 : decode cX7_look 112 = .ok (.imul, 1) := by decide +kernel
theorem dX7_look_113 : decode cX7_look 113 = .ok (.iload 6, 2) := by decide +kernel
theorem dX7_look_115 : decode cX7_look 115 = .ok (.iadd, 1) := by decide +kernel
theorem dX7_look_116 : decode cX7_look 116 = .ok (.iaload, 1) := by decide +kernel
theorem dX7_look_117 : decode cX7_look 117 = .ok (.if_icmp .ne 7, 3) := by decide +kernel
theorem dX7_look_120 : decode cX7_look 120 = .ok (.iconst 1, 1) := by decide +kernel
theorem dX7_look_121 : decode cX7_look 121 = .ok (.goto 4, 3) := by decide +kernel
theorem dX7_look_124 : decode cX7_look 124 = .ok (.iconst 0, 1) := by decide +kernel
theorem dX7_look_125 : decode cX7_look 125 = .ok (.iadd, 1) := by decide +kernel
theorem dX7_look_126 : decode cX7_look 126 = .ok (.istore 9, 2) := by decide +kernel
theorem dX7_look_128 : decode cX7_look 128 = .ok (.iinc 10 1, 3) := by decide +kernel
theorem dX7_look_131 : decode cX7_look 131 = .ok (.goto (-67), 3) := by decide +kernel
theorem dX7_look_134 : decode cX7_look 134 = .ok (.iload 9, 2) := by decide +kernel
theorem dX7_look_136 : decode cX7_look 136 = .ok (.iload 7, 2) := by decide +kernel
theorem dX7_look_138 : decode cX7_look 138 = .ok (.if_icmp .le 8, 3) := by decide +kernel
theorem dX7_look_141 : decode cX7_look 141 = .ok (.iload 9, 2) := by decide +kernel
theorem dX7_look_143 : decode cX7_look 143 = .ok (.goto 5, 3) := by decide +kernel
theorem dX7_look_146 : decode cX7_look 146 = .ok (.iload 7, 2) := by decide +kernel
theorem dX7_look_148 : decode cX7_look 148 = .ok (.istore 7, 2) := by decide +kernel
theorem dX7_look_150 : decode cX7_look 150 = .ok (.iinc 8 1, 3) := by decide +kernel
theorem dX7_look_153 : decode cX7_look 153 = .ok (.goto (-102), 3) := by decide +kernel
theorem dX7_look_156 : decode cX7_look 156 = .ok (.iload 7, 2) := by decide +kernel
theorem dX7_look_158 : decode cX7_look 158 = .ok (.iload 4, 2) := by decide +kernel
theorem dX7_look_160 : decode cX7_look 160 = .ok (.if_icmp .ge 8, 3) := by decide +kernel
theorem dX7_look_163 : decode cX7_look 163 = .ok (.iload 6, 2) := by decide +kernel
theorem dX7_look_165 : decode cX7_look 165 = .ok (.goto 5, 3) := by decide +kernel
theorem dX7_look_168 : decode cX7_look 168 = .ok (.iload 5, 2) := by decide +kernel
theorem dX7_look_170 : decode cX7_look 170 = .ok (.istore 5, 2) := by decide +kernel
theorem dX7_look_172 : decode cX7_look 172 = .ok (.iload 7, 2) := by decide +kernel
theorem dX7_look_174 : decode cX7_look 174 = .ok (.iload 4, 2) := by decide +kernel
theorem dX7_look_176 : decode cX7_look 176 = .ok (.if_icmp .ge 8, 3) := by decide +kernel
theorem dX7_look_179 : decode cX7_look 179 = .ok (.iload 7, 2) := by decide +kernel
theorem dX7_look_181 : decode cX7_look 181 = .ok (.goto 5, 3) := by decide +kernel
theorem dX7_look_184 : decode cX7_look 184 = .ok (.iload 4, 2) := by decide +kernel
theorem dX7_look_186 : decode cX7_look 186 = .ok (.istore 4, 2) := by decide +kernel
theorem dX7_look_188 : decode cX7_look 188 = .ok (.iinc 6 1, 3) := by decide +kernel
theorem dX7_look_191 : decode cX7_look 191 = .ok (.goto (-152), 3) := by decide +kernel
theorem dX7_look_194 : decode cX7_look 194 = .ok (.iload 5, 2) := by decide +kernel
theorem dX7_look_196 : decode cX7_look 196 = .ok (.bipush (-4), 2) := by decide +kernel
theorem dX7_look_198 : decode cX7_look 198 = .ok (.if_icmp .eq 7, 3) := by decide +kernel
theorem dX7_look_201 : decode cX7_look 201 = .ok (.iload_n 2, 1) := by decide +kernel
theorem dX7_look_202 : decode cX7_look 202 = .ok (.ifCond .ne 8, 3) := by decide +kernel
theorem dX7_look_205 : decode cX7_look 205 = .ok (.iload 5, 2) := by decide +kernel
theorem dX7_look_207 : decode cX7_look 207 = .ok (.goto 5, 3) := by decide +kernel
theorem dX7_look_210 : decode cX7_look 210 = .ok (.iload 4, 2) := by decide +kernel
theorem dX7_look_212 : decode cX7_look 212 = .ok (.ireturn, 1) := by decide +kernel
theorem dX7_drawsHand_0 : decode cX7_drawsHand 0 = .ok (.aload_n 0, 1) := by decide +kernel
theorem dX7_drawsHand_1 : decode cX7_drawsHand 1 = .ok (.aload_n 0, 1) := by decide +kernel
theorem dX7_drawsHand_2 : decode cX7_drawsHand 2 = .ok (.getfield 275, 3) := by decide +kernel
theorem dX7_drawsHand_5 : decode cX7_drawsHand 5 = .ok (.ldc_w 278, 3) := by decide +kernel
theorem dX7_drawsHand_8 : decode cX7_drawsHand 8 = .ok (.imul, 1) := by decide +kernel
theorem dX7_drawsHand_9 : decode cX7_drawsHand 9 = .ok (.sipush 12345, 3) := by decide +kernel
theorem dX7_drawsHand_12 : decode cX7_drawsHand 12 = .ok (.iadd, 1) := by decide +kernel
theorem dX7_drawsHand_13 : decode cX7_drawsHand 13 = .ok (.putfield 275, 3) := by decide +kernel
theorem dX7_drawsHand_16 : decode cX7_drawsHand 16 = .ok (.aload_n 0, 1) := by decide +kernel
theorem dX7_drawsHand_17 : decode cX7_drawsHand 17 = .ok (.getfield 275, 3) := by decide +kernel
theorem dX7_drawsHand_20 : decode cX7_drawsHand 20 = .ok (.bipush 16, 2) := by decide +kernel
theorem dX7_drawsHand_22 : decode cX7_drawsHand 22 = .ok (.ishr, 1) := by decide +kernel
theorem dX7_drawsHand_23 : decode cX7_drawsHand 23 = .ok (.sipush 32767, 3) := by decide +kernel
theorem dX7_drawsHand_26 : decode cX7_drawsHand 26 = .ok (.iand, 1) := by decide +kernel
theorem dX7_drawsHand_27 : decode cX7_drawsHand 27 = .ok (.aload_n 0, 1) := by decide +kernel
theorem dX7_drawsHand_28 : decode cX7_drawsHand 28 = .ok (.getfield 147, 3) := by decide +kernel
theorem dX7_drawsHand_31 : decode cX7_drawsHand 31 = .ok (.aload_n 0, 1) := by decide +kernel
theorem dX7_drawsHand_32 : decode cX7_drawsHand 32 = .ok (.getfield 150, 3) := by decide +kernel
theorem dX7_drawsHand_35 : decode cX7_drawsHand 35 = .ok (.iadd, 1) := by decide +kernel
theorem dX7_drawsHand_36 : decode cX7_drawsHand 36 = .ok (.irem, 1) := by decide +kernel
theorem dX7_drawsHand_37 : decode cX7_drawsHand 37 = .ok (.istore_n 1, 1) := by decide +kernel
theorem dX7_drawsHand_38 : decode cX7_drawsHand 38 = .ok (.iload_n 1, 1) := by decide +kernel
theorem dX7_drawsHand_39 : decode cX7_drawsHand 39 = .ok (.aload_n 0, 1) := by decide +kernel
theorem dX7_drawsHand_40 : decode cX7_drawsHand 40 = .ok (.getfield 147, 3) := by decide +kernel
theorem dX7_drawsHand_43 : decode cX7_drawsHand 43 = .ok (.if_icmp .ge 7, 3) := by decide +kernel
theorem dX7_drawsHand_46 : decode cX7_drawsHand 46 = .ok (.iload_n 1, 1) := by decide +kernel
theorem dX7_drawsHand_47 : decode cX7_drawsHand 47 = .ok (.goto 11, 3) := by decide +kernel
theorem dX7_drawsHand_50 : decode cX7_drawsHand 50 = .ok (.iconst 4, 1) := by decide +kernel
theorem dX7_drawsHand_51 : decode cX7_drawsHand 51 = .ok (.iload_n 1, 1) := by decide +kernel
theorem dX7_drawsHand_52 : decode cX7_drawsHand 52 = .ok (.iadd, 1) := by decide +kernel
theorem dX7_drawsHand_53 : decode cX7_drawsHand 53 = .ok (.aload_n 0, 1) := by decide +kernel
theorem dX7_drawsHand_54 : decode cX7_drawsHand 54 = .ok (.getfield 147, 3) := by decide +kernel
theorem dX7_drawsHand_57 : decode cX7_drawsHand 57 = .ok (.isub, 1) := by decide +kernel
theorem dX7_drawsHand_58 : decode cX7_drawsHand 58 = .ok (.ireturn, 1) := by decide +kernel
theorem dX7_drift_0 : decode cX7_drift 0 = .ok (.iload_n 2, 1) := by decide +kernel
theorem dX7_drift_1 : decode cX7_drift 1 = .ok (.i2l, 1) := by decide +kernel
theorem dX7_drift_2 : decode cX7_drift 2 = .ok (.lconst 1, 1) := by decide +kernel
theorem dX7_drift_3 : decode cX7_drift 3 = .ok (.ldc2_w 279, 3) := by decide +kernel
theorem dX7_drift_6 : decode cX7_drift 6 = .ok (.invokestatic 58, 3) := by decide +kernel
theorem dX7_drift_9 : decode cX7_drift 9 = .ok (.ifCond .eq 13, 3) := by decide +kernel
theorem dX7_drift_12 : decode cX7_drift 12 = .ok (.iload_n 3, 1) := by decide +kernel
theorem dX7_drift_13 : decode cX7_drift 13 = .ok (.i2l, 1) := by decide +kernel
theorem dX7_drift_14 : decode cX7_drift 14 = .ok (.lconst 0, 1) := by decide +kernel
theorem dX7_drift_15 : decode cX7_drift 15 = .ok (.lconst 1, 1) := by decide +kernel
theorem dX7_drift_16 : decode cX7_drift 16 = .ok (.invokestatic 58, 3) := by decide +kernel
theorem dX7_drift_19 : decode cX7_drift 19 = .ok (.ifCond .ne 5, 3) := by decide +kernel
theorem dX7_drift_22 : decode cX7_drift 22 = .ok (.iconst (-1), 1) := by decide +kernel
theorem dX7_drift_23 : decode cX7_drift 23 = .ok (.ireturn, 1) := by decide +kernel
theorem dX7_drift_24 : decode cX7_drift 24 = .ok (.aload_n 0, 1) := by decide +kernel
theorem dX7_drift_25 : decode cX7_drift 25 = .ok (.getfield 147, 3) := by decide +kernel
theorem dX7_drift_28 : decode cX7_drift 28 = .ok (.aload_n 0, 1) := by decide +kernel
theorem dX7_drift_29 : decode cX7_drift 29 = .ok (.getfield 150, 3) := by decide +kernel
theorem dX7_drift_32 : decode cX7_drift 32 = .ok (.iadd, 1) := by decide +kernel
theorem dX7_drift_33 : decode cX7_drift 33 = .ok (.ifCond .ne 6, 3) := by decide +kernel
theorem dX7_drift_36 : decode cX7_drift 36 = .ok (.bipush (-2), 2) := by decide +kernel
theorem dX7_drift_38 : decode cX7_drift 38 = .ok (.ireturn, 1) := by decide +kernel
theorem dX7_drift_39 : decode cX7_drift 39 = .ok (.aload_n 0, 1) := by decide +kernel
theorem dX7_drift_40 : decode cX7_drift 40 = .ok (.iconst 0, 1) := by decide +kernel
theorem dX7_drift_41 : decode cX7_drift 41 = .ok (.sipush 200, 3) := by decide +kernel
theorem dX7_drift_44 : decode cX7_drift 44 = .ok (.invokevirtual 254, 3) := by decide +kernel
theorem dX7_drift_47 : decode cX7_drift 47 = .ok (.aload_n 0, 1) := by decide +kernel
theorem dX7_drift_48 : decode cX7_drift 48 = .ok (.iload_n 1, 1) := by decide +kernel
theorem dX7_drift_49 : decode cX7_drift 49 = .ok (.putfield 275, 3) := by decide +kernel
theorem dX7_drift_52 : decode cX7_drift 52 = .ok (.iconst 0, 1) := by decide +kernel
theorem dX7_drift_53 : decode cX7_drift 53 = .ok (.istore 4, 2) := by decide +kernel
theorem dX7_drift_55 : decode cX7_drift 55 = .ok (.iconst 0, 1) := by decide +kernel
theorem dX7_drift_56 : decode cX7_drift 56 = .ok (.istore 5, 2) := by decide +kernel
theorem dX7_drift_58 : decode cX7_drift 58 = .ok (.iload 5, 2) := by decide +kernel
theorem dX7_drift_60 : decode cX7_drift 60 = .ok (.iload_n 2, 1) := by decide +kernel
theorem dX7_drift_61 : decode cX7_drift 61 = .ok (.if_icmp .ge 40, 3) := by decide +kernel
theorem dX7_drift_64 : decode cX7_drift 64 = .ok (.aload_n 0, 1) := by decide +kernel
theorem dX7_drift_65 : decode cX7_drift 65 = .ok (.invokevirtual 281, 3) := by decide +kernel
theorem dX7_drift_68 : decode cX7_drift 68 = .ok (.istore 6, 2) := by decide +kernel
theorem dX7_drift_70 : decode cX7_drift 70 = .ok (.aload_n 0, 1) := by decide +kernel
theorem dX7_drift_71 : decode cX7_drift 71 = .ok (.iload 6, 2) := by decide +kernel
theorem dX7_drift_73 : decode cX7_drift 73 = .ok (.aload_n 0, 1) := by decide +kernel
theorem dX7_drift_74 : decode cX7_drift 74 = .ok (.invokevirtual 281, 3) := by decide +kernel
theorem dX7_drift_77 : decode cX7_drift 77 = .ok (.invokevirtual 206, 3) := by decide +kernel
theorem dX7_drift_80 : decode cX7_drift 80 = .ok (.pop, 1) := by decide +kernel
theorem dX7_drift_81 : decode cX7_drift 81 = .ok (.aload_n 0, 1) := by decide +kernel
theorem dX7_drift_82 : decode cX7_drift 82 = .ok (.iconst 0, 1) := by decide +kernel
theorem dX7_drift_83 : decode cX7_drift 83 = .ok (.invokevirtual 225, 3) := by decide +kernel
theorem dX7_drift_86 : decode cX7_drift 86 = .ok (.iload 4, 2) := by decide +kernel
theorem dX7_drift_88 : decode cX7_drift 88 = .ok (.aload_n 0, 1) := by decide +kernel
theorem dX7_drift_89 : decode cX7_drift 89 = .ok (.invokevirtual 231, 3) := by decide +kernel
theorem dX7_drift_92 : decode cX7_drift 92 = .ok (.iadd, 1) := by decide +kernel
theorem dX7_drift_93 : decode cX7_drift 93 = .ok (.istore 4, 2) := by decide +kernel
theorem dX7_drift_95 : decode cX7_drift 95 = .ok (.iinc 5 1, 3) := by decide +kernel
theorem dX7_drift_98 : decode cX7_drift 98 = .ok (.goto (-40), 3) := by decide +kernel
theorem dX7_drift_101 : decode cX7_drift 101 = .ok (.aload_n 0, 1) := by decide +kernel
theorem dX7_drift_102 : decode cX7_drift 102 = .ok (.sipush 200, 3) := by decide +kernel
theorem dX7_drift_105 : decode cX7_drift 105 = .ok (.iconst 0, 1) := by decide +kernel
theorem dX7_drift_106 : decode cX7_drift 106 = .ok (.invokevirtual 254, 3) := by decide +kernel
theorem dX7_drift_109 : decode cX7_drift 109 = .ok (.iload_n 3, 1) := by decide +kernel
theorem dX7_drift_110 : decode cX7_drift 110 = .ok (.ifCond .ne 10, 3) := by decide +kernel
theorem dX7_drift_113 : decode cX7_drift 113 = .ok (.aload_n 0, 1) := by decide +kernel
theorem dX7_drift_114 : decode cX7_drift 114 = .ok (.invokevirtual 228, 3) := by decide +kernel
theorem dX7_drift_117 : decode cX7_drift 117 = .ok (.goto 5, 3) := by decide +kernel
theorem dX7_drift_120 : decode cX7_drift 120 = .ok (.iload 4, 2) := by decide +kernel
theorem dX7_drift_122 : decode cX7_drift 122 = .ok (.ireturn, 1) := by decide +kernel
theorem dX7_keep_0 : decode cX7_keep 0 = .ok (.iload_n 1, 1) := by decide +kernel
theorem dX7_keep_1 : decode cX7_keep 1 = .ok (.i2l, 1) := by decide +kernel
theorem dX7_keep_2 : decode cX7_keep 2 = .ok (.lconst 0, 1) := by decide +kernel
theorem dX7_keep_3 : decode cX7_keep 3 = .ok (.lconst 1, 1) := by decide +kernel
theorem dX7_keep_4 : decode cX7_keep 4 = .ok (.invokestatic 58, 3) := by decide +kernel
theorem dX7_keep_7 : decode cX7_keep 7 = .ok (.ifCond .ne 5, 3) := by decide +kernel
theorem dX7_keep_10 : decode cX7_keep 10 = .ok (.iconst (-1), 1) := by decide +kernel
theorem dX7_keep_11 : decode cX7_keep 11 = .ok (.ireturn, 1) := by decide +kernel
theorem dX7_keep_12 : decode cX7_keep 12 = .ok (.aload_n 0, 1) := by decide +kernel
theorem dX7_keep_13 : decode cX7_keep 13 = .ok (.iconst 0, 1) := by decide +kernel
theorem dX7_keep_14 : decode cX7_keep 14 = .ok (.bipush 50, 2) := by decide +kernel
theorem dX7_keep_16 : decode cX7_keep 16 = .ok (.iload_n 1, 1) := by decide +kernel
theorem dX7_keep_17 : decode cX7_keep 17 = .ok (.iconst 1, 1) := by decide +kernel
theorem dX7_keep_18 : decode cX7_keep 18 = .ok (.iadd, 1) := by decide +kernel
theorem dX7_keep_19 : decode cX7_keep 19 = .ok (.imul, 1) := by decide +kernel
theorem dX7_keep_20 : decode cX7_keep 20 = .ok (.invokevirtual 254, 3) := by decide +kernel
theorem dX7_keep_23 : decode cX7_keep 23 = .ok (.aload_n 0, 1) := by decide +kernel
theorem dX7_keep_24 : decode cX7_keep 24 = .ok (.getfield 43, 3) := by decide +kernel
theorem dX7_keep_27 : decode cX7_keep 27 = .ok (.iload_n 1, 1) := by decide +kernel
theorem dX7_keep_28 : decode cX7_keep 28 = .ok (.baload, 1) := by decide +kernel
theorem dX7_keep_29 : decode cX7_keep 29 = .ok (.ifCond .eq 7, 3) := by decide +kernel
theorem dX7_keep_32 : decode cX7_keep 32 = .ok (.iconst 1, 1) := by decide +kernel
theorem dX7_keep_33 : decode cX7_keep 33 = .ok (.goto 4, 3) := by decide +kernel
theorem dX7_keep_36 : decode cX7_keep 36 = .ok (.iconst 0, 1) := by decide +kernel
theorem dX7_keep_37 : decode cX7_keep 37 = .ok (.istore_n 2, 1) := by decide +kernel
theorem dX7_keep_38 : decode cX7_keep 38 = .ok (.aload_n 0, 1) := by decide +kernel
theorem dX7_keep_39 : decode cX7_keep 39 = .ok (.getfield 43, 3) := by decide +kernel
theorem dX7_keep_42 : decode cX7_keep 42 = .ok (.iload_n 1, 1) := by decide +kernel
theorem dX7_keep_43 : decode cX7_keep 43 = .ok (.iconst 1, 1) := by decide +kernel
theorem dX7_keep_44 : decode cX7_keep 44 = .ok (.bastore, 1) := by decide +kernel
theorem dX7_keep_45 : decode cX7_keep 45 = .ok (.iload_n 2, 1) := by decide +kernel
theorem dX7_keep_46 : decode cX7_keep 46 = .ok (.ireturn, 1) := by decide +kernel
theorem dX7_back_0 : decode cX7_back 0 = .ok (.iload_n 1, 1) := by decide +kernel
theorem dX7_back_1 : decode cX7_back 1 = .ok (.i2l, 1) := by decide +kernel
theorem dX7_back_2 : decode cX7_back 2 = .ok (.lconst 0, 1) := by decide +kernel
theorem dX7_back_3 : decode cX7_back 3 = .ok (.lconst 1, 1) := by decide +kernel
theorem dX7_back_4 : decode cX7_back 4 = .ok (.invokestatic 58, 3) := by decide +kernel
theorem dX7_back_7 : decode cX7_back 7 = .ok (.ifCond .ne 5, 3) := by decide +kernel
theorem dX7_back_10 : decode cX7_back 10 = .ok (.iconst (-1), 1) := by decide +kernel
theorem dX7_back_11 : decode cX7_back 11 = .ok (.ireturn, 1) := by decide +kernel
theorem dX7_back_12 : decode cX7_back 12 = .ok (.aload_n 0, 1) := by decide +kernel
theorem dX7_back_13 : decode cX7_back 13 = .ok (.getfield 43, 3) := by decide +kernel
theorem dX7_back_16 : decode cX7_back 16 = .ok (.iload_n 1, 1) := by decide +kernel
theorem dX7_back_17 : decode cX7_back 17 = .ok (.baload, 1) := by decide +kernel
theorem dX7_back_18 : decode cX7_back 18 = .ok (.ifCond .ne 6, 3) := by decide +kernel
theorem dX7_back_21 : decode cX7_back 21 = .ok (.bipush (-2), 2) := by decide +kernel
theorem dX7_back_23 : decode cX7_back 23 = .ok (.ireturn, 1) := by decide +kernel
theorem dX7_back_24 : decode cX7_back 24 = .ok (.aload_n 0, 1) := by decide +kernel
theorem dX7_back_25 : decode cX7_back 25 = .ok (.bipush 50, 2) := by decide +kernel
theorem dX7_back_27 : decode cX7_back 27 = .ok (.iload_n 1, 1) := by decide +kernel
theorem dX7_back_28 : decode cX7_back 28 = .ok (.iconst 1, 1) := by decide +kernel
theorem dX7_back_29 : decode cX7_back 29 = .ok (.iadd, 1) := by decide +kernel
theorem dX7_back_30 : decode cX7_back 30 = .ok (.imul, 1) := by decide +kernel
theorem dX7_back_31 : decode cX7_back 31 = .ok (.iconst 0, 1) := by decide +kernel
theorem dX7_back_32 : decode cX7_back 32 = .ok (.invokevirtual 254, 3) := by decide +kernel
theorem dX7_back_35 : decode cX7_back 35 = .ok (.aload_n 0, 1) := by decide +kernel
theorem dX7_back_36 : decode cX7_back 36 = .ok (.getfield 7, 3) := by decide +kernel
theorem dX7_back_39 : decode cX7_back 39 = .ok (.bipush 49, 2) := by decide +kernel
theorem dX7_back_41 : decode cX7_back 41 = .ok (.iaload, 1) := by decide +kernel
theorem dX7_back_42 : decode cX7_back 42 = .ok (.ireturn, 1) := by decide +kernel
theorem dX7_sheet_0 : decode cX7_sheet 0 = .ok (.iload_n 1, 1) := by decide +kernel
theorem dX7_sheet_1 : decode cX7_sheet 1 = .ok (.i2l, 1) := by decide +kernel
theorem dX7_sheet_2 : decode cX7_sheet 2 = .ok (.lconst 0, 1) := by decide +kernel
theorem dX7_sheet_3 : decode cX7_sheet 3 = .ok (.ldc2_w 209, 3) := by decide +kernel
theorem dX7_sheet_6 : decode cX7_sheet 6 = .ok (.invokestatic 58, 3) := by decide +kernel
theorem dX7_sheet_9 : decode cX7_sheet 9 = .ok (.ifCond .eq 21, 3) := by decide +kernel
theorem dX7_sheet_12 : decode cX7_sheet 12 = .ok (.iload_n 2, 1) := by decide +kernel
theorem dX7_sheet_13 : decode cX7_sheet 13 = .ok (.i2l, 1) := by decide +kernel
theorem dX7_sheet_14 : decode cX7_sheet 14 = .ok (.lconst 0, 1) := by decide +kernel
theorem dX7_sheet_15 : decode cX7_sheet 15 = .ok (.ldc2_w 184, 3) := by decide +kernel
theorem dX7_sheet_18 : decode cX7_sheet 18 = .ok (.invokestatic 58, 3) := by decide +kernel
theorem dX7_sheet_21 : decode cX7_sheet 21 = .ok (.ifCond .eq 9, 3) := by decide +kernel
theorem dX7_sheet_24 : decode cX7_sheet 24 = .ok (.iload_n 3, 1) := by decide +kernel
theorem dX7_sheet_25 : decode cX7_sheet 25 = .ok (.bipush 40, 2) := by decide +kernel
theorem dX7_sheet_27 : decode cX7_sheet 27 = .ok (.if_icmp .le 5, 3) := by decide +kernel
theorem dX7_sheet_30 : decode cX7_sheet 30 = .ok (.iconst (-1), 1) := by decide +kernel
theorem dX7_sheet_31 : decode cX7_sheet 31 = .ok (.ireturn, 1) := by decide +kernel
theorem dX7_sheet_32 : decode cX7_sheet 32 = .ok (.iload_n 3, 1) := by decide +kernel
theorem dX7_sheet_33 : decode cX7_sheet 33 = .ok (.ifCond .ge 6, 3) := by decide +kernel
theorem dX7_sheet_36 : decode cX7_sheet 36 = .ok (.bipush (-14), 2) := by decide +kernel
theorem dX7_sheet_38 : decode cX7_sheet 38 = .ok (.ireturn, 1) := by decide +kernel
theorem dX7_sheet_39 : decode cX7_sheet 39 = .ok (.aload_n 0, 1) := by decide +kernel
theorem dX7_sheet_40 : decode cX7_sheet 40 = .ok (.getfield 47, 3) := by decide +kernel
theorem dX7_sheet_43 : decode cX7_sheet 43 = .ok (.iload_n 1, 1) := by decide +kernel
theorem dX7_sheet_44 : decode cX7_sheet 44 = .ok (.iload_n 2, 1) := by decide +kernel
theorem dX7_sheet_45 : decode cX7_sheet 45 = .ok (.iastore, 1) := by decide +kernel
theorem dX7_sheet_46 : decode cX7_sheet 46 = .ok (.aload_n 0, 1) := by decide +kernel
theorem dX7_sheet_47 : decode cX7_sheet 47 = .ok (.getfield 50, 3) := by decide +kernel
theorem dX7_sheet_50 : decode cX7_sheet 50 = .ok (.iload_n 1, 1) := by decide +kernel
theorem dX7_sheet_51 : decode cX7_sheet 51 = .ok (.iload_n 3, 1) := by decide +kernel
theorem dX7_sheet_52 : decode cX7_sheet 52 = .ok (.iastore, 1) := by decide +kernel
theorem dX7_sheet_53 : decode cX7_sheet 53 = .ok (.iconst 0, 1) := by decide +kernel
theorem dX7_sheet_54 : decode cX7_sheet 54 = .ok (.istore 4, 2) := by decide +kernel
theorem dX7_sheet_56 : decode cX7_sheet 56 = .ok (.iload 4, 2) := by decide +kernel
theorem dX7_sheet_58 : decode cX7_sheet 58 = .ok (.bipush 40, 2) := by decide +kernel
theorem dX7_sheet_60 : decode cX7_sheet 60 = .ok (.if_icmp .ge 22, 3) := by decide +kernel
theorem dX7_sheet_63 : decode cX7_sheet 63 = .ok (.aload_n 0, 1) := by decide +kernel
theorem dX7_sheet_64 : decode cX7_sheet 64 = .ok (.getfield 53, 3) := by decide +kernel
theorem dX7_sheet_67 : decode cX7_sheet 67 = .ok (.bipush 40, 2) := by decide +kernel
theorem dX7_sheet_69 : decode cX7_sheet 69 = .ok (.iload_n 1, 1) := by decide +kernel
theorem dX7_sheet_70 : decode cX7_sheet 70 = .ok (.imul, 1) := by decide +kernel
theorem dX7_sheet_71 : decode cX7_sheet 71 = .ok (.iload 4, 2) := by decide +kernel
theorem dX7_sheet_73 : decode cX7_sheet 73 = .ok (.iadd, 1) := by decide +kernel
theorem dX7_sheet_74 : decode cX7_sheet 74 = .ok (.iconst 0, 1) := by decide +kernel
theorem dX7_sheet_75 : decode cX7_sheet 75 = .ok (.iastore, 1) := by decide +kernel
theorem dX7_sheet_76 : decode cX7_sheet 76 = .ok (.iinc 4 1, 3) := by decide +kernel
theorem dX7_sheet_79 : decode cX7_sheet 79 = .ok (.goto (-23), 3) := by decide +kernel
theorem dX7_sheet_82 : decode cX7_sheet 82 = .ok (.iconst 1, 1) := by decide +kernel
theorem dX7_sheet_83 : decode cX7_sheet 83 = .ok (.ireturn, 1) := by decide +kernel
theorem dX7_lay_0 : decode cX7_lay 0 = .ok (.iload_n 1, 1) := by decide +kernel
theorem dX7_lay_1 : decode cX7_lay 1 = .ok (.i2l, 1) := by decide +kernel
theorem dX7_lay_2 : decode cX7_lay 2 = .ok (.lconst 0, 1) := by decide +kernel
theorem dX7_lay_3 : decode cX7_lay 3 = .ok (.ldc2_w 209, 3) := by decide +kernel
theorem dX7_lay_6 : decode cX7_lay 6 = .ok (.invokestatic 58, 3) := by decide +kernel
theorem dX7_lay_9 : decode cX7_lay 9 = .ok (.ifCond .ne 5, 3) := by decide +kernel
theorem dX7_lay_12 : decode cX7_lay 12 = .ok (.iconst (-1), 1) := by decide +kernel
theorem dX7_lay_13 : decode cX7_lay 13 = .ok (.ireturn, 1) := by decide +kernel
theorem dX7_lay_14 : decode cX7_lay 14 = .ok (.aload_n 0, 1) := by decide +kernel
theorem dX7_lay_15 : decode cX7_lay 15 = .ok (.getfield 47, 3) := by decide +kernel
theorem dX7_lay_18 : decode cX7_lay 18 = .ok (.iload_n 1, 1) := by decide +kernel
theorem dX7_lay_19 : decode cX7_lay 19 = .ok (.iaload, 1) := by decide +kernel
theorem dX7_lay_20 : decode cX7_lay 20 = .ok (.bipush (-4), 2) := by decide +kernel
theorem dX7_lay_22 : decode cX7_lay 22 = .ok (.if_icmp .ne 6, 3) := by decide +kernel
theorem dX7_lay_25 : decode cX7_lay 25 = .ok (.bipush (-11), 2) := by decide +kernel
theorem dX7_lay_27 : decode cX7_lay 27 = .ok (.ireturn, 1) := by decide +kernel
theorem dX7_lay_28 : decode cX7_lay 28 = .ok (.iload_n 2, 1) := by decide +kernel
theorem dX7_lay_29 : decode cX7_lay 29 = .ok (.i2l, 1) := by decide +kernel
theorem dX7_lay_30 : decode cX7_lay 30 = .ok (.lconst 0, 1) := by decide +kernel
theorem dX7_lay_31 : decode cX7_lay 31 = .ok (.aload_n 0, 1) := by decide +kernel
theorem dX7_lay_32 : decode cX7_lay 32 = .ok (.getfield 50, 3) := by decide +kernel
theorem dX7_lay_35 : decode cX7_lay 35 = .ok (.iload_n 1, 1) := by decide +kernel
theorem dX7_lay_36 : decode cX7_lay 36 = .ok (.iaload, 1) := by decide +kernel
theorem dX7_lay_37 : decode cX7_lay 37 = .ok (.iconst 1, 1) := by decide +kernel
theorem dX7_lay_38 : decode cX7_lay 38 = .ok (.isub, 1) := by decide +kernel
theorem dX7_lay_39 : decode cX7_lay 39 = .ok (.i2l, 1) := by decide +kernel
theorem dX7_lay_40 : decode cX7_lay 40 = .ok (.invokestatic 58, 3) := by decide +kernel
theorem dX7_lay_43 : decode cX7_lay 43 = .ok (.ifCond .ne 6, 3) := by decide +kernel
theorem dX7_lay_46 : decode cX7_lay 46 = .ok (.bipush (-12), 2) := by decide +kernel
theorem dX7_lay_48 : decode cX7_lay 48 = .ok (.ireturn, 1) := by decide +kernel
theorem dX7_lay_49 : decode cX7_lay 49 = .ok (.aload_n 0, 1) := by decide +kernel
theorem dX7_lay_50 : decode cX7_lay 50 = .ok (.getfield 53, 3) := by decide +kernel
theorem dX7_lay_53 : decode cX7_lay 53 = .ok (.bipush 40, 2) := by decide +kernel
theorem dX7_lay_55 : decode cX7_lay 55 = .ok (.iload_n 1, 1) := by decide +kernel
theorem dX7_lay_56 : decode cX7_lay 56 = .ok (.imul, 1) := by decide +kernel
theorem dX7_lay_57 : decode cX7_lay 57 = .ok (.iload_n 2, 1) := by decide +kernel
theorem dX7_lay_58 : decode cX7_lay 58 = .ok (.iadd, 1) := by decide +kernel
theorem dX7_lay_59 : decode cX7_lay 59 = .ok (.aload_n 0, 1) := by decide +kernel
theorem dX7_lay_60 : decode cX7_lay 60 = .ok (.getfield 47, 3) := by decide +kernel
theorem dX7_lay_63 : decode cX7_lay 63 = .ok (.iload_n 1, 1) := by decide +kernel
theorem dX7_lay_64 : decode cX7_lay 64 = .ok (.iaload, 1) := by decide +kernel
theorem dX7_lay_65 : decode cX7_lay 65 = .ok (.ifCond .ne 13, 3) := by decide +kernel
theorem dX7_lay_68 : decode cX7_lay 68 = .ok (.iload_n 3, 1) := by decide +kernel
theorem dX7_lay_69 : decode cX7_lay 69 = .ok (.bipush 24, 2) := by decide +kernel
theorem dX7_lay_71 : decode cX7_lay 71 = .ok (.ishl, 1) := by decide +kernel
theorem dX7_lay_72 : decode cX7_lay 72 = .ok (.bipush 24, 2) := by decide +kernel
theorem dX7_lay_74 : decode cX7_lay 74 = .ok (.ishr, 1) := by decide +kernel
theorem dX7_lay_75 : decode cX7_lay 75 = .ok (.goto 24, 3) := by decide +kernel
theorem dX7_lay_78 : decode cX7_lay 78 = .ok (.aload_n 0, 1) := by decide +kernel
theorem dX7_lay_79 : decode cX7_lay 79 = .ok (.getfield 47, 3) := by decide +kernel
theorem dX7_lay_82 : decode cX7_lay 82 = .ok (.iload_n 1, 1) := by decide +kernel
theorem dX7_lay_83 : decode cX7_lay 83 = .ok (.iaload, 1) := by decide +kernel
theorem dX7_lay_84 : decode cX7_lay 84 = .ok (.iconst 1, 1) := by decide +kernel
theorem dX7_lay_85 : decode cX7_lay 85 = .ok (.if_icmp .ne 13, 3) := by decide +kernel
theorem dX7_lay_88 : decode cX7_lay 88 = .ok (.iload_n 3, 1) := by decide +kernel
theorem dX7_lay_89 : decode cX7_lay 89 = .ok (.bipush 16, 2) := by decide +kernel
theorem dX7_lay_91 : decode cX7_lay 91 = .ok (.ishl, 1) := by decide +kernel
theorem dX7_lay_92 : decode cX7_lay 92 = .ok (.bipush 16, 2) := by decide +kernel
theorem dX7_lay_94 : decode cX7_lay 94 = .ok (.ishr, 1) := by decide +kernel
theorem dX7_lay_95 : decode cX7_lay 95 = .ok (.goto 4, 3) := by decide +kernel
theorem dX7_lay_98 : decode cX7_lay 98 = .ok (.iload_n 3, 1) := by decide +kernel
theorem dX7_lay_99 : decode cX7_lay 99 = .ok (.iastore, 1) := by decide +kernel
theorem dX7_lay_100 : decode cX7_lay 100 = .ok (.iconst 1, 1) := by decide +kernel
theorem dX7_lay_101 : decode cX7_lay 101 = .ok (.ireturn, 1) := by decide +kernel
theorem dX7_read_0 : decode cX7_read 0 = .ok (.iload_n 1, 1) := by decide +kernel
theorem dX7_read_1 : decode cX7_read 1 = .ok (.i2l, 1) := by decide +kernel
theorem dX7_read_2 : decode cX7_read 2 = .ok (.lconst 0, 1) := by decide +kernel
theorem dX7_read_3 : decode cX7_read 3 = .ok (.ldc2_w 209, 3) := by decide +kernel
theorem dX7_read_6 : decode cX7_read 6 = .ok (.invokestatic 58, 3) := by decide +kernel
theorem dX7_read_9 : decode cX7_read 9 = .ok (.ifCond .eq 28, 3) := by decide +kernel
theorem dX7_read_12 : decode cX7_read 12 = .ok (.iload_n 2, 1) := by decide +kernel
theorem dX7_read_13 : decode cX7_read 13 = .ok (.i2l, 1) := by decide +kernel
theorem dX7_read_14 : decode cX7_read 14 = .ok (.lconst 0, 1) := by decide +kernel
theorem dX7_read_15 : decode cX7_read 15 = .ok (.ldc2_w 184, 3) := by decide +kernel
theorem dX7_read_18 : decode cX7_read 18 = .ok (.invokestatic 58, 3) := by decide +kernel
theorem dX7_read_21 : decode cX7_read 21 = .ok (.ifCond .eq 16, 3) := by decide +kernel
theorem dX7_read_24 : decode cX7_read 24 = .ok (.iload 4, 2) := by decide +kernel
theorem dX7_read_26 : decode cX7_read 26 = .ok (.i2l, 1) := by decide +kernel
theorem dX7_read_27 : decode cX7_read 27 = .ok (.lconst 0, 1) := by decide +kernel
theorem dX7_read_28 : decode cX7_read 28 = .ok (.ldc2_w 249, 3) := by decide +kernel
theorem dX7_read_31 : decode cX7_read 31 = .ok (.invokestatic 58, 3) := by decide +kernel
theorem dX7_read_34 : decode cX7_read 34 = .ok (.ifCond .ne 5, 3) := by decide +kernel
theorem dX7_read_37 : decode cX7_read 37 = .ok (.iconst (-1), 1) := by decide +kernel
theorem dX7_read_38 : decode cX7_read 38 = .ok (.ireturn, 1) := by decide +kernel
theorem dX7_read_39 : decode cX7_read 39 = .ok (.aload_n 0, 1) := by decide +kernel
theorem dX7_read_40 : decode cX7_read 40 = .ok (.iconst 0, 1) := by decide +kernel
theorem dX7_read_41 : decode cX7_read 41 = .ok (.sipush 150, 3) := by decide +kernel
theorem dX7_read_44 : decode cX7_read 44 = .ok (.invokevirtual 254, 3) := by decide +kernel
theorem dX7_read_47 : decode cX7_read 47 = .ok (.iconst 0, 1) := by decide +kernel
theorem dX7_read_48 : decode cX7_read 48 = .ok (.istore 5, 2) := by decide +kernel
theorem dX7_read_50 : decode cX7_read 50 = .ok (.iconst 0, 1) := by decide +kernel
theorem dX7_read_51 : decode cX7_read 51 = .ok (.istore 6, 2) := by decide +kernel
theorem dX7_read_53 : decode cX7_read 53 = .ok (.iconst 0, 1) := by decide +kernel
theorem dX7_read_54 : decode cX7_read 54 = .ok (.istore 7, 2) := by decide +kernel
theorem dX7_read_56 : decode cX7_read 56 = .ok (.iload 7, 2) := by decide +kernel
theorem dX7_read_58 : decode cX7_read 58 = .ok (.iconst 2, 1) := by decide +kernel
theorem dX7_read_59 : decode cX7_read 59 = .ok (.iload 4, 2) := by decide +kernel
theorem dX7_read_61 : decode cX7_read 61 = .ok (.imul, 1) := by decide +kernel
theorem dX7_read_62 : decode cX7_read 62 = .ok (.if_icmp .ge 136, 3) := by decide +kernel
theorem dX7_read_65 : decode cX7_read 65 = .ok (.iload 5, 2) := by decide +kernel
theorem dX7_read_67 : decode cX7_read 67 = .ok (.ifCond .ne 131, 3) := by decide +kernel
theorem dX7_read_70 : decode cX7_read 70 = .ok (.aload_n 0, 1) := by decide +kernel
theorem dX7_read_71 : decode cX7_read 71 = .ok (.getfield 47, 3) := by decide +kernel
theorem dX7_read_74 : decode cX7_read 74 = .ok (.iload_n 1, 1) := by decide +kernel
theorem dX7_read_75 : decode cX7_read 75 = .ok (.iaload, 1) := by decide +kernel
theorem dX7_read_76 : decode cX7_read 76 = .ok (.bipush (-4), 2) := by decide +kernel
theorem dX7_read_78 : decode cX7_read 78 = .ok (.if_icmp .ne 7, 3) := by decide +kernel
theorem dX7_read_81 : decode cX7_read 81 = .ok (.iconst 1, 1) := by decide +kernel
theorem dX7_read_82 : decode cX7_read 82 = .ok (.goto 44, 3) := by decide +kernel
theorem dX7_read_85 : decode cX7_read 85 = .ok (.aload_n 0, 1) := by decide +kernel
theorem dX7_read_86 : decode cX7_read 86 = .ok (.getfield 47, 3) := by decide +kernel
theorem dX7_read_89 : decode cX7_read 89 = .ok (.iload_n 1, 1) := by decide +kernel
theorem dX7_read_90 : decode cX7_read 90 = .ok (.iaload, 1) := by decide +kernel
theorem dX7_read_91 : decode cX7_read 91 = .ok (.iload_n 2, 1) := by decide +kernel
theorem dX7_read_92 : decode cX7_read 92 = .ok (.if_icmp .eq 7, 3) := by decide +kernel
theorem dX7_read_95 : decode cX7_read 95 = .ok (.iconst 3, 1) := by decide +kernel
theorem dX7_read_96 : decode cX7_read 96 = .ok (.goto 30, 3) := by decide +kernel
theorem dX7_read_99 : decode cX7_read 99 = .ok (.iload_n 3, 1) := by decide +kernel
theorem dX7_read_100 : decode cX7_read 100 = .ok (.i2l, 1) := by decide +kernel
theorem dX7_read_101 : decode cX7_read 101 = .ok (.iload 7, 2) := by decide +kernel
theorem dX7_read_103 : decode cX7_read 103 = .ok (.i2l, 1) := by decide +kernel
theorem dX7_read_104 : decode cX7_read 104 = .ok (.ladd, 1) := by decide +kernel
theorem dX7_read_105 : decode cX7_read 105 = .ok (.lconst 0, 1) := by decide +kernel
theorem dX7_read_106 : decode cX7_read 106 = .ok (.aload_n 0, 1) := by decide +kernel
theorem dX7_read_107 : decode cX7_read 107 = .ok (.getfield 50, 3) := by decide +kernel
theorem dX7_read_110 : decode cX7_read 110 = .ok (.iload_n 1, 1) := by decide +kernel
theorem dX7_read_111 : decode cX7_read 111 = .ok (.iaload, 1) := by decide +kernel
theorem dX7_read_112 : decode cX7_read 112 = .ok (.iconst 1, 1) := by decide +kernel
theorem dX7_read_113 : decode cX7_read 113 = .ok (.isub, 1) := by decide +kernel
theorem dX7_read_114 : decode cX7_read 114 = .ok (.i2l, 1) := by decide +kernel
theorem dX7_read_115 : decode cX7_read 115 = .ok (.invokestatic 58, 3) := by decide +kernel
theorem dX7_read_118 : decode cX7_read 118 = .ok (.ifCond .ne 7, 3) := by decide +kernel
theorem dX7_read_121 : decode cX7_read 121 = .ok (.iconst 2, 1) := by decide +kernel
theorem dX7_read_122 : decode cX7_read 122 = .ok (.goto 4, 3) := by decide +kernel
theorem dX7_read_125 : decode cX7_read 125 = .ok (.iconst 0, 1) := by decide +kernel
theorem dX7_read_126 : decode cX7_read 126 = .ok (.istore 5, 2) := by decide +kernel
theorem dX7_read_128 : decode cX7_read 128 = .ok (.iload 5, 2) := by decide +kernel
theorem dX7_read_130 : decode cX7_read 130 = .ok (.ifCond .ne 62, 3) := by decide +kernel
theorem dX7_read_133 : decode cX7_read 133 = .ok (.iload 7, 2) := by decide +kernel
theorem dX7_read_135 : decode cX7_read 135 = .ok (.iconst 2, 1) := by decide +kernel
theorem dX7_read_136 : decode cX7_read 136 = .ok (.irem, 1) := by decide +kernel
theorem dX7_read_137 : decode cX7_read 137 = .ok (.iconst 1, 1) := by decide +kernel
theorem dX7_read_138 : decode cX7_read 138 = .ok (.if_icmp .ne 54, 3) := by decide +kernel
theorem dX7_read_141 : decode cX7_read 141 = .ok (.bipush 40, 2) := by decide +kernel
theorem dX7_read_143 : decode cX7_read 143 = .ok (.iload_n 1, 1) := by decide +kernel
theorem dX7_read_144 : decode cX7_read 144 = .ok (.imul, 1) := by decide +kernel
theorem dX7_read_145 : decode cX7_read 145 = .ok (.iload_n 3, 1) := by decide +kernel
theorem dX7_read_146 : decode cX7_read 146 = .ok (.iadd, 1) := by decide +kernel
theorem dX7_read_147 : decode cX7_read 147 = .ok (.iload 7, 2) := by decide +kernel
theorem dX7_read_149 : decode cX7_read 149 = .ok (.iadd, 1) := by decide +kernel
theorem dX7_read_150 : decode cX7_read 150 = .ok (.istore 8, 2) := by decide +kernel
theorem dX7_read_152 : decode cX7_read 152 = .ok (.aload_n 0, 1) := by decide +kernel
theorem dX7_read_153 : decode cX7_read 153 = .ok (.aload_n 0, 1) := by decide +kernel
theorem dX7_read_154 : decode cX7_read 154 = .ok (.getfield 53, 3) := by decide +kernel
theorem dX7_read_157 : decode cX7_read 157 = .ok (.iload 8, 2) := by decide +kernel
theorem dX7_read_159 : decode cX7_read 159 = .ok (.iconst 1, 1) := by decide +kernel
theorem dX7_read_160 : decode cX7_read 160 = .ok (.isub, 1) := by decide +kernel
theorem dX7_read_161 : decode cX7_read 161 = .ok (.iaload, 1) := by decide +kernel
theorem dX7_read_162 : decode cX7_read 162 = .ok (.aload_n 0, 1) := by decide +kernel
theorem dX7_read_163 : decode cX7_read 163 = .ok (.getfield 53, 3) := by decide +kernel
theorem dX7_read_166 : decode cX7_read 166 = .ok (.iload 8, 2) := by decide +kernel
theorem dX7_read_168 : decode cX7_read 168 = .ok (.iaload, 1) := by decide +kernel
theorem dX7_read_169 : decode cX7_read 169 = .ok (.invokevirtual 206, 3) := by decide +kernel
theorem dX7_read_172 : decode cX7_read 172 = .ok (.ifCond .ge 17, 3) := by decide +kernel
theorem dX7_read_175 : decode cX7_read 175 = .ok (.aload_n 0, 1) := by decide +kernel
theorem dX7_read_176 : decode cX7_read 176 = .ok (.sipush 150, 3) := by decide +kernel
theorem dX7_read_179 : decode cX7_read 179 = .ok (.iconst 0, 1) := by decide +kernel
theorem dX7_read_180 : decode cX7_read 180 = .ok (.invokevirtual 254, 3) := by decide +kernel
theorem dX7_read_183 : decode cX7_read 183 = .ok (.bipush (-20), 2) := by decide +kernel
theorem dX7_read_185 : decode cX7_read 185 = .ok (.iload 6, 2) := by decide +kernel
theorem dX7_read_187 : decode cX7_read 187 = .ok (.isub, 1) := by decide +kernel
theorem dX7_read_188 : decode cX7_read 188 = .ok (.ireturn, 1) := by decide +kernel
theorem dX7_read_189 : decode cX7_read 189 = .ok (.iinc 6 1, 3) := by decide +kernel
theorem dX7_read_192 : decode cX7_read 192 = .ok (.iinc 7 1, 3) := by decide +kernel
theorem dX7_read_195 : decode cX7_read 195 = .ok (.goto (-139), 3) := by decide +kernel
theorem dX7_read_198 : decode cX7_read 198 = .ok (.aload_n 0, 1) := by decide +kernel
theorem dX7_read_199 : decode cX7_read 199 = .ok (.iload 5, 2) := by decide +kernel
theorem dX7_read_201 : decode cX7_read 201 = .ok (.putfield 284, 3) := by decide +kernel
theorem dX7_read_204 : decode cX7_read 204 = .ok (.iload 6, 2) := by decide +kernel
theorem dX7_read_206 : decode cX7_read 206 = .ok (.ireturn, 1) := by decide +kernel
theorem dX7_torn_0 : decode cX7_torn 0 = .ok (.aload_n 0, 1) := by decide +kernel
theorem dX7_torn_1 : decode cX7_torn 1 = .ok (.getfield 284, 3) := by decide +kernel
theorem dX7_torn_4 : decode cX7_torn 4 = .ok (.ireturn, 1) := by decide +kernel
theorem dX7_count_0 : decode cX7_count 0 = .ok (.iconst 0, 1) := by decide +kernel
theorem dX7_count_1 : decode cX7_count 1 = .ok (.istore_n 2, 1) := by decide +kernel
theorem dX7_count_2 : decode cX7_count 2 = .ok (.iconst 0, 1) := by decide +kernel
theorem dX7_count_3 : decode cX7_count 3 = .ok (.istore_n 3, 1) := by decide +kernel
theorem dX7_count_4 : decode cX7_count 4 = .ok (.iload_n 3, 1) := by decide +kernel
theorem dX7_count_5 : decode cX7_count 5 = .ok (.iconst 4, 1) := by decide +kernel
theorem dX7_count_6 : decode cX7_count 6 = .ok (.if_icmp .ge 24, 3) := by decide +kernel
theorem dX7_count_9 : decode cX7_count 9 = .ok (.iload_n 2, 1) := by decide +kernel
theorem dX7_count_10 : decode cX7_count 10 = .ok (.aload_n 0, 1) := by decide +kernel
theorem dX7_count_11 : decode cX7_count 11 = .ok (.getfield 7, 3) := by decide +kernel
theorem dX7_count_14 : decode cX7_count 14 = .ok (.bipush 40, 2) := by decide +kernel
theorem dX7_count_16 : decode cX7_count 16 = .ok (.iload_n 3, 1) := by decide +kernel
theorem dX7_count_17 : decode cX7_count 17 = .ok (.iadd, 1) := by decide +kernel
theorem dX7_count_18 : decode cX7_count 18 = .ok (.iaload, 1) := by decide +kernel
theorem dX7_count_19 : decode cX7_count 19 = .ok (.invokestatic 216, 3) := by decide +kernel
theorem dX7_count_22 : decode cX7_count 22 = .ok (.iadd, 1) := by decide +kernel
theorem dX7_count_23 : decode cX7_count 23 = .ok (.istore_n 2, 1) := by decide +kernel
theorem dX7_count_24 : decode cX7_count 24 = .ok (.iinc 3 1, 3) := by decide +kernel
theorem dX7_count_27 : decode cX7_count 27 = .ok (.goto (-23), 3) := by decide +kernel
theorem dX7_count_30 : decode cX7_count 30 = .ok (.iload_n 1, 1) := by decide +kernel
theorem dX7_count_31 : decode cX7_count 31 = .ok (.tableswitch 112 0 5 #[37, 42, 72, 77, 100, 110], 37) := by decide +kernel
theorem dX7_count_68 : decode cX7_count 68 = .ok (.aload_n 0, 1) := by decide +kernel
theorem dX7_count_69 : decode cX7_count 69 = .ok (.getfield 153, 3) := by decide +kernel
theorem dX7_count_72 : decode cX7_count 72 = .ok (.ireturn, 1) := by decide +kernel
theorem dX7_count_73 : decode cX7_count 73 = .ok (.aload_n 0, 1) := by decide +kernel
theorem dX7_count_74 : decode cX7_count 74 = .ok (.getfield 43, 3) := by decide +kernel
theorem dX7_count_77 : decode cX7_count 77 = .ok (.iconst 0, 1) := by decide +kernel
theorem dX7_count_78 : decode cX7_count 78 = .ok (.baload, 1) := by decide +kernel
theorem dX7_count_79 : decode cX7_count 79 = .ok (.ifCond .eq 7, 3) := by decide +kernel
theorem dX7_count_82 : decode cX7_count 82 = .ok (.iconst 1, 1) := by decide +kernel
theorem dX7_count_83 : decode cX7_count 83 = .ok (.goto 4, 3) := by decide +kernel
theorem dX7_count_86 : decode cX7_count 86 = .ok (.iconst 0, 1) := by decide +kernel
theorem dX7_count_87 : decode cX7_count 87 = .ok (.aload_n 0, 1) := by decide +kernel
theorem dX7_count_88 : decode cX7_count 88 = .ok (.getfield 43, 3) := by decide +kernel
theorem dX7_count_91 : decode cX7_count 91 = .ok (.iconst 1, 1) := by decide +kernel
theorem dX7_count_92 : decode cX7_count 92 = .ok (.baload, 1) := by decide +kernel
theorem dX7_count_93 : decode cX7_count 93 = .ok (.ifCond .eq 7, 3) := by decide +kernel
theorem dX7_count_96 : decode cX7_count 96 = .ok (.iconst 1, 1) := by decide +kernel
theorem dX7_count_97 : decode cX7_count 97 = .ok (.goto 4, 3) := by decide +kernel
theorem dX7_count_100 : decode cX7_count 100 = .ok (.iconst 0, 1) := by decide +kernel
theorem dX7_count_101 : decode cX7_count 101 = .ok (.iadd, 1) := by decide +kernel
theorem dX7_count_102 : decode cX7_count 102 = .ok (.ireturn, 1) := by decide +kernel
theorem dX7_count_103 : decode cX7_count 103 = .ok (.aload_n 0, 1) := by decide +kernel
theorem dX7_count_104 : decode cX7_count 104 = .ok (.getfield 62, 3) := by decide +kernel
theorem dX7_count_107 : decode cX7_count 107 = .ok (.ireturn, 1) := by decide +kernel
theorem dX7_count_108 : decode cX7_count 108 = .ok (.aload_n 0, 1) := by decide +kernel
theorem dX7_count_109 : decode cX7_count 109 = .ok (.getfield 47, 3) := by decide +kernel
theorem dX7_count_112 : decode cX7_count 112 = .ok (.iconst 0, 1) := by decide +kernel
theorem dX7_count_113 : decode cX7_count 113 = .ok (.iaload, 1) := by decide +kernel
theorem dX7_count_114 : decode cX7_count 114 = .ok (.bipush (-4), 2) := by decide +kernel
theorem dX7_count_116 : decode cX7_count 116 = .ok (.if_icmp .ne 8, 3) := by decide +kernel
theorem dX7_count_119 : decode cX7_count 119 = .ok (.bipush (-4), 2) := by decide +kernel
theorem dX7_count_121 : decode cX7_count 121 = .ok (.goto 9, 3) := by decide +kernel
theorem dX7_count_124 : decode cX7_count 124 = .ok (.aload_n 0, 1) := by decide +kernel
theorem dX7_count_125 : decode cX7_count 125 = .ok (.getfield 50, 3) := by decide +kernel
theorem dX7_count_128 : decode cX7_count 128 = .ok (.iconst 0, 1) := by decide +kernel
theorem dX7_count_129 : decode cX7_count 129 = .ok (.iaload, 1) := by decide +kernel
theorem dX7_count_130 : decode cX7_count 130 = .ok (.ireturn, 1) := by decide +kernel
theorem dX7_count_131 : decode cX7_count 131 = .ok (.aload_n 0, 1) := by decide +kernel
theorem dX7_count_132 : decode cX7_count 132 = .ok (.invokevirtual 165, 3) := by decide +kernel
theorem dX7_count_135 : decode cX7_count 135 = .ok (.invokestatic 216, 3) := by decide +kernel
theorem dX7_count_138 : decode cX7_count 138 = .ok (.iconst 2, 1) := by decide +kernel
theorem dX7_count_139 : decode cX7_count 139 = .ok (.idiv, 1) := by decide +kernel
theorem dX7_count_140 : decode cX7_count 140 = .ok (.ireturn, 1) := by decide +kernel
theorem dX7_count_141 : decode cX7_count 141 = .ok (.iload_n 2, 1) := by decide +kernel
theorem dX7_count_142 : decode cX7_count 142 = .ok (.ireturn, 1) := by decide +kernel
theorem dX7_count_143 : decode cX7_count 143 = .ok (.iconst (-1), 1) := by decide +kernel
theorem dX7_count_144 : decode cX7_count 144 = .ok (.ireturn, 1) := by decide +kernel
end
section
theorem dL_law_0 : decode cL_law 0 = .ok (.new 7, 3) := by decide +kernel
theorem dL_law_3 : decode cL_law 3 = .ok (.dup, 1) := by decide +kernel
theorem dL_law_4 : decode cL_law 4 = .ok (.invokespecial 9, 3) := by decide +kernel
theorem dL_law_7 : decode cL_law 7 = .ok (.astore_n 1, 1) := by decide +kernel
theorem dL_law_8 : decode cL_law 8 = .ok (.new 10, 3) := by decide +kernel
theorem dL_law_11 : decode cL_law 11 = .ok (.dup, 1) := by decide +kernel
theorem dL_law_12 : decode cL_law 12 = .ok (.invokespecial 12, 3) := by decide +kernel
theorem dL_law_15 : decode cL_law 15 = .ok (.astore_n 2, 1) := by decide +kernel
theorem dL_law_16 : decode cL_law 16 = .ok (.iconst 0, 1) := by decide +kernel
theorem dL_law_17 : decode cL_law 17 = .ok (.istore_n 3, 1) := by decide +kernel
theorem dL_law_18 : decode cL_law 18 = .ok (.iload_n 3, 1) := by decide +kernel
theorem dL_law_19 : decode cL_law 19 = .ok (.aload_n 0, 1) := by decide +kernel
theorem dL_law_20 : decode cL_law 20 = .ok (.arraylength, 1) := by decide +kernel
theorem dL_law_21 : decode cL_law 21 = .ok (.iconst 5, 1) := by decide +kernel
theorem dL_law_22 : decode cL_law 22 = .ok (.isub, 1) := by decide +kernel
theorem dL_law_23 : decode cL_law 23 = .ok (.if_icmp .gt 1338, 3) := by decide +kernel
theorem dL_law_26 : decode cL_law 26 = .ok (.aload_n 0, 1) := by decide +kernel
theorem dL_law_27 : decode cL_law 27 = .ok (.iload_n 3, 1) := by decide +kernel
theorem dL_law_28 : decode cL_law 28 = .ok (.iaload, 1) := by decide +kernel
theorem dL_law_29 : decode cL_law 29 = .ok (.bipush 63, 2) := by decide +kernel
theorem dL_law_31 : decode cL_law 31 = .ok (.iand, 1) := by decide +kernel
theorem dL_law_32 : decode cL_law 32 = .ok (.tableswitch 1323 0 38 #[172, 195, 218, 231, 244, 267, 300, 333, 366, 399, 442, 491, 550, 583, 606, 639, 662, 685, 708, 731, 744, 767, 780, 803, 836, 859, 893, 937, 980, 1003, 1026, 1059, 1102, 1125, 1148, 1191, 1234, 1287, 1300], 172) := by decide +kernel
theorem dL_law_204 : decode cL_law 204 = .ok (.aload_n 1, 1) := by decide +kernel
theorem dL_law_205 : decode cL_law 205 = .ok (.aload_n 0, 1) := by decide +kernel
theorem dL_law_206 : decode cL_law 206 = .ok (.iload_n 3, 1) := by decide +kernel
theorem dL_law_207 : decode cL_law 207 = .ok (.iconst 1, 1) := by decide +kernel
theorem dL_law_208 : decode cL_law 208 = .ok (.iadd, 1) := by decide +kernel
theorem dL_law_209 : decode cL_law 209 = .ok (.iaload, 1) := by decide +kernel
theorem dL_law_210 : decode cL_law 210 = .ok (.invokevirtual 13, 3) := by decide +kernel
theorem dL_law_213 : decode cL_law 213 = .ok (.aload_n 2, 1) := by decide +kernel
theorem dL_law_214 : decode cL_law 214 = .ok (.aload_n 0, 1) := by decide +kernel
theorem dL_law_215 : decode cL_law 215 = .ok (.iload_n 3, 1) := by decide +kernel
theorem dL_law_216 : decode cL_law 216 = .ok (.iconst 1, 1) := by decide +kernel
theorem dL_law_217 : decode cL_law 217 = .ok (.iadd, 1) := by decide +kernel
theorem dL_law_218 : decode cL_law 218 = .ok (.iaload, 1) := by decide +kernel
theorem dL_law_219 : decode cL_law 219 = .ok (.invokevirtual 17, 3) := by decide +kernel
theorem dL_law_222 : decode cL_law 222 = .ok (.if_icmp .eq 1133, 3) := by decide +kernel
theorem dL_law_225 : decode cL_law 225 = .ok (.iconst 0, 1) := by decide +kernel
theorem dL_law_226 : decode cL_law 226 = .ok (.ireturn, 1) := by decide +kernel
theorem dL_law_227 : decode cL_law 227 = .ok (.aload_n 1, 1) := by decide +kernel
theorem dL_law_228 : decode cL_law 228 = .ok (.aload_n 0, 1) := by decide +kernel
theorem dL_law_229 : decode cL_law 229 = .ok (.iload_n 3, 1) := by decide +kernel
theorem dL_law_230 : decode cL_law 230 = .ok (.iconst 1, 1) := by decide +kernel
theorem dL_law_231 : decode cL_law 231 = .ok (.iadd, 1) := by decide +kernel
theorem dL_law_232 : decode cL_law 232 = .ok (.iaload, 1) := by decide +kernel
theorem dL_law_233 : decode cL_law 233 = .ok (.invokevirtual 18, 3) := by decide +kernel
theorem dL_law_236 : decode cL_law 236 = .ok (.aload_n 2, 1) := by decide +kernel
theorem dL_law_237 : decode cL_law 237 = .ok (.aload_n 0, 1) := by decide +kernel
theorem dL_law_238 : decode cL_law 238 = .ok (.iload_n 3, 1) := by decide +kernel
theorem dL_law_239 : decode cL_law 239 = .ok (.iconst 1, 1) := by decide +kernel
theorem dL_law_240 : decode cL_law 240 = .ok (.iadd, 1) := by decide +kernel
theorem dL_law_241 : decode cL_law 241 = .ok (.iaload, 1) := by decide +kernel
theorem dL_law_242 : decode cL_law 242 = .ok (.invokevirtual 21, 3) := by decide +kernel
theorem dL_law_245 : decode cL_law 245 = .ok (.if_icmp .eq 1110, 3) := by decide +kernel
theorem dL_law_248 : decode cL_law 248 = .ok (.iconst 0, 1) := by decide +kernel
theorem dL_law_249 : decode cL_law 249 = .ok (.ireturn, 1) := by decide +kernel
theorem dL_law_250 : decode cL_law 250 = .ok (.aload_n 1, 1) := by decide +kernel
theorem dL_law_251 : decode cL_law 251 = .ok (.invokevirtual 22, 3) := by decide +kernel
theorem dL_law_254 : decode cL_law 254 = .ok (.aload_n 2, 1) := by decide +kernel
theorem dL_law_255 : decode cL_law 255 = .ok (.invokevirtual 26, 3) := by decide +kernel
theorem dL_law_258 : decode cL_law 258 = .ok (.if_icmp .eq 1097, 3) := by decide +kernel
theorem dL_law_261 : decode cL_law 261 = .ok (.iconst 0, 1) := by decide +kernel
theorem dL_law_262 : decode cL_law 262 = .ok (.ireturn, 1) := by decide +kernel
theorem dL_law_263 : decode cL_law 263 = .ok (.aload_n 1, 1) := by decide +kernel
theorem dL_law_264 : decode cL_law 264 = .ok (.invokevirtual 27, 3) := by decide +kernel
theorem dL_law_267 : decode cL_law 267 = .ok (.aload_n 2, 1) := by decide +kernel
theorem dL_law_268 : decode cL_law 268 = .ok (.invokevirtual 30, 3) := by decide +kernel
theorem dL_law_271 : decode cL_law 271 = .ok (.if_icmp .eq 1084, 3) := by decide +kernel
theorem dL_law_274 : decode cL_law 274 = .ok (.iconst 0, 1) := by decide +kernel
theorem dL_law_275 : decode cL_law 275 = .ok (.ireturn, 1) := by decide +kernel
theorem dL_law_276 : decode cL_law 276 = .ok (.aload_n 1, 1) := by decide +kernel
theorem dL_law_277 : decode cL_law 277 = .ok (.aload_n 0, 1) := by decide +kernel
theorem dL_law_278 : decode cL_law 278 = .ok (.iload_n 3, 1) := by decide +kernel
theorem dL_law_279 : decode cL_law 279 = .ok (.iconst 1, 1) := by decide +kernel
theorem dL_law_280 : decode cL_law 280 = .ok (.iadd, 1) := by decide +kernel
theorem dL_law_281 : decode cL_law 281 = .ok (.iaload, 1) := by decide +kernel
theorem dL_law_282 : decode cL_law 282 = .ok (.invokevirtual 31, 3) := by decide +kernel
theorem dL_law_285 : decode cL_law 285 = .ok (.aload_n 2, 1) := by decide +kernel
theorem dL_law_286 : decode cL_law 286 = .ok (.aload_n 0, 1) := by decide +kernel
theorem dL_law_287 : decode cL_law 287 = .ok (.iload_n 3, 1) := by decide +kernel
theorem dL_law_288 : decode cL_law 288 = .ok (.iconst 1, 1) := by decide +kernel
theorem dL_law_289 : decode cL_law 289 = .ok (.iadd, 1) := by decide +kernel
theorem dL_law_290 : decode cL_law 290 = .ok (.iaload, 1) := by decide +kernel
theorem dL_law_291 : decode cL_law 291 = .ok (.invokevirtual 34, 3) := by decide +kernel
theorem dL_law_294 : decode cL_law 294 = .ok (.if_icmp .eq 1061, 3) := by decide +kernel
theorem dL_law_297 : decode cL_law 297 = .ok (.iconst 0, 1) := by decide +kernel
theorem dL_law_298 : decode cL_law 298 = .ok (.ireturn, 1) := by decide +kernel
theorem dL_law_299 : decode cL_law 299 = .ok (.aload_n 1, 1) := by decide +kernel
theorem dL_law_300 : decode cL_law 300 = .ok (.aload_n 0, 1) := by decide +kernel
theorem dL_law_301 : decode cL_law 301 = .ok (.iload_n 3, 1) := by decide +kernel
theorem dL_law_302 : decode cL_law 302 = .ok (.iconst 1, 1) := by decide +kernel
theorem dL_law_303 : decode cL_law 303 = .ok (.iadd, 1) := by decide +kernel
theorem dL_law_304 : decode cL_law 304 = .ok (.iaload, 1) := by decide +kernel
theorem dL_law_305 : decode cL_law 305 = .ok (.aload_n 0, 1) := by decide +kernel
theorem dL_law_306 : decode cL_law 306 = .ok (.iload_n 3, 1) := by decide +kernel
theorem dL_law_307 : decode cL_law 307 = .ok (.iconst 2, 1) := by decide +kernel
theorem dL_law_308 : decode cL_law 308 = .ok (.iadd, 1) := by decide +kernel
theorem dL_law_309 : decode cL_law 309 = .ok (.iaload, 1) := by decide +kernel
theorem dL_law_310 : decode cL_law 310 = .ok (.invokevirtual 35, 3) := by decide +kernel
theorem dL_law_313 : decode cL_law 313 = .ok (.aload_n 2, 1) := by decide +kernel
theorem dL_law_314 : decode cL_law 314 = .ok (.aload_n 0, 1) := by decide +kernel
theorem dL_law_315 : decode cL_law 315 = .ok (.iload_n 3, 1) := by decide +kernel
theorem dL_law_316 : decode cL_law 316 = .ok (.iconst 1, 1) := by decide +kernel
theorem dL_law_317 : decode cL_law 317 = .ok (.iadd, 1) := by decide +kernel
theorem dL_law_318 : decode cL_law 318 = .ok (.iaload, 1) := by decide +kernel
theorem dL_law_319 : decode cL_law 319 = .ok (.aload_n 0, 1) := by decide +kernel
theorem dL_law_320 : decode cL_law 320 = .ok (.iload_n 3, 1) := by decide +kernel
theorem dL_law_321 : decode cL_law 321 = .ok (.iconst 2, 1) := by decide +kernel
theorem dL_law_322 : decode cL_law 322 = .ok (.iadd, 1) := by decide +kernel
theorem dL_law_323 : decode cL_law 323 = .ok (.iaload, 1) := by decide +kernel
theorem dL_law_324 : decode cL_law 324 = .ok (.invokevirtual 39, 3) := by decide +kernel
theorem dL_law_327 : decode cL_law 327 = .ok (.if_icmp .eq 1028, 3) := by decide +kernel
theorem dL_law_330 : decode cL_law 330 = .ok (.iconst 0, 1) := by decide +kernel
theorem dL_law_331 : decode cL_law 331 = .ok (.ireturn, 1) := by decide +kernel
theorem dL_law_332 : decode cL_law 332 = .ok (.aload_n 1, 1) := by decide +kernel
theorem dL_law_333 : decode cL_law 333 = .ok (.aload_n 0, 1) := by decide +kernel
theorem dL_law_334 : decode cL_law 334 = .ok (.iload_n 3, 1) := by decide +kernel
theorem dL_law_335 : decode cL_law 335 = .ok (.iconst 1, 1) := by decide +kernel
theorem dL_law_336 : decode cL_law 336 = .ok (.iadd, 1) := by decide +kernel
theorem dL_law_337 : decode cL_law 337 = .ok (.iaload, 1) := by decide +kernel
theorem dL_law_338 : decode cL_law 338 = .ok (.aload_n 0, 1) := by decide +kernel
theorem dL_law_339 : decode cL_law 339 = .ok (.iload_n 3, 1) := by decide +kernel
theorem dL_law_340 : decode cL_law 340 = .ok (.iconst 2, 1) := by decide +kernel
theorem dL_law_341 : decode cL_law 341 = .ok (.iadd, 1) := by decide +kernel
theorem dL_law_342 : decode cL_law 342 = .ok (.iaload, 1) := by decide +kernel
theorem dL_law_343 : decode cL_law 343 = .ok (.invokevirtual 40, 3) := by decide +kernel
theorem dL_law_346 : decode cL_law 346 = .ok (.aload_n 2, 1) := by decide +kernel
theorem dL_law_347 : decode cL_law 347 = .ok (.aload_n 0, 1) := by decide +kernel
theorem dL_law_348 : decode cL_law 348 = .ok (.iload_n 3, 1) := by decide +kernel
theorem dL_law_349 : decode cL_law 349 = .ok (.iconst 1, 1) := by decide +kernel
theorem dL_law_350 : decode cL_law 350 = .ok (.iadd, 1) := by decide +kernel
theorem dL_law_351 : decode cL_law 351 = .ok (.iaload, 1) := by decide +kernel
theorem dL_law_352 : decode cL_law 352 = .ok (.aload_n 0, 1) := by decide +kernel
theorem dL_law_353 : decode cL_law 353 = .ok (.iload_n 3, 1) := by decide +kernel
theorem dL_law_354 : decode cL_law 354 = .ok (.iconst 2, 1) := by decide +kernel
theorem dL_law_355 : decode cL_law 355 = .ok (.iadd, 1) := by decide +kernel
theorem dL_law_356 : decode cL_law 356 = .ok (.iaload, 1) := by decide +kernel
theorem dL_law_357 : decode cL_law 357 = .ok (.invokevirtual 43, 3) := by decide +kernel
theorem dL_law_360 : decode cL_law 360 = .ok (.if_icmp .eq 995, 3) := by decide +kernel
theorem dL_law_363 : decode cL_law 363 = .ok (.iconst 0, 1) := by decide +kernel
theorem dL_law_364 : decode cL_law 364 = .ok (.ireturn, 1) := by decide +kernel
theorem dL_law_365 : decode cL_law 365 = .ok (.aload_n 1, 1) := by decide +kernel
theorem dL_law_366 : decode cL_law 366 = .ok (.aload_n 0, 1) := by decide +kernel
theorem dL_law_367 : decode cL_law 367 = .ok (.iload_n 3, 1) := by decide +kernel
theorem dL_law_368 : decode cL_law 368 = .ok (.iconst 1, 1) := by decide +kernel
theorem dL_law_369 : decode cL_law 369 = .ok (.iadd, 1) := by decide +kernel
theorem dL_law_370 : decode cL_law 370 = .ok (.iaload, 1) := by decide +kernel
theorem dL_law_371 : decode cL_law 371 = .ok (.aload_n 0, 1) := by decide +kernel
theorem dL_law_372 : decode cL_law 372 = .ok (.iload_n 3, 1) := by decide +kernel
theorem dL_law_373 : decode cL_law 373 = .ok (.iconst 2, 1) := by decide +kernel
theorem dL_law_374 : decode cL_law 374 = .ok (.iadd, 1) := by decide +kernel
theorem dL_law_375 : decode cL_law 375 = .ok (.iaload, 1) := by decide +kernel
theorem dL_law_376 : decode cL_law 376 = .ok (.invokevirtual 44, 3) := by decide +kernel
theorem dL_law_379 : decode cL_law 379 = .ok (.aload_n 2, 1) := by decide +kernel
theorem dL_law_380 : decode cL_law 380 = .ok (.aload_n 0, 1) := by decide +kernel
theorem dL_law_381 : decode cL_law 381 = .ok (.iload_n 3, 1) := by decide +kernel
theorem dL_law_382 : decode cL_law 382 = .ok (.iconst 1, 1) := by decide +kernel
theorem dL_law_383 : decode cL_law 383 = .ok (.iadd, 1) := by decide +kernel
theorem dL_law_384 : decode cL_law 384 = .ok (.iaload, 1) := by decide +kernel
theorem dL_law_385 : decode cL_law 385 = .ok (.aload_n 0, 1) := by decide +kernel
theorem dL_law_386 : decode cL_law 386 = .ok (.iload_n 3, 1) := by decide +kernel
theorem dL_law_387 : decode cL_law 387 = .ok (.iconst 2, 1) := by decide +kernel
theorem dL_law_388 : decode cL_law 388 = .ok (.iadd, 1) := by decide +kernel
theorem dL_law_389 : decode cL_law 389 = .ok (.iaload, 1) := by decide +kernel
theorem dL_law_390 : decode cL_law 390 = .ok (.invokevirtual 47, 3) := by decide +kernel
theorem dL_law_393 : decode cL_law 393 = .ok (.if_icmp .eq 962, 3) := by decide +kernel
theorem dL_law_396 : decode cL_law 396 = .ok (.iconst 0, 1) := by decide +kernel
theorem dL_law_397 : decode cL_law 397 = .ok (.ireturn, 1) := by decide +kernel
theorem dL_law_398 : decode cL_law 398 = .ok (.aload_n 1, 1) := by decide +kernel
theorem dL_law_399 : decode cL_law 399 = .ok (.aload_n 0, 1) := by decide +kernel
theorem dL_law_400 : decode cL_law 400 = .ok (.iload_n 3, 1) := by decide +kernel
theorem dL_law_401 : decode cL_law 401 = .ok (.iconst 1, 1) := by decide +kernel
theorem dL_law_402 : decode cL_law 402 = .ok (.iadd, 1) := by decide +kernel
theorem dL_law_403 : decode cL_law 403 = .ok (.iaload, 1) := by decide +kernel
theorem dL_law_404 : decode cL_law 404 = .ok (.aload_n 0, 1) := by decide +kernel
theorem dL_law_405 : decode cL_law 405 = .ok (.iload_n 3, 1) := by decide +kernel
theorem dL_law_406 : decode cL_law 406 = .ok (.iconst 2, 1) := by decide +kernel
theorem dL_law_407 : decode cL_law 407 = .ok (.iadd, 1) := by decide +kernel
theorem dL_law_408 : decode cL_law 408 = .ok (.iaload, 1) := by decide +kernel
theorem dL_law_409 : decode cL_law 409 = .ok (.invokevirtual 48, 3) := by decide +kernel
theorem dL_law_412 : decode cL_law 412 = .ok (.aload_n 2, 1) := by decide +kernel
theorem dL_law_413 : decode cL_law 413 = .ok (.aload_n 0, 1) := by decide +kernel
theorem dL_law_414 : decode cL_law 414 = .ok (.iload_n 3, 1) := by decide +kernel
theorem dL_law_415 : decode cL_law 415 = .ok (.iconst 1, 1) := by decide +kernel
theorem dL_law_416 : decode cL_law 416 = .ok (.iadd, 1) := by decide +kernel
theorem dL_law_417 : decode cL_law 417 = .ok (.iaload, 1) := by decide +kernel
theorem dL_law_418 : decode cL_law 418 = .ok (.aload_n 0, 1) := by decide +kernel
theorem dL_law_419 : decode cL_law 419 = .ok (.iload_n 3, 1) := by decide +kernel
theorem dL_law_420 : decode cL_law 420 = .ok (.iconst 2, 1) := by decide +kernel
theorem dL_law_421 : decode cL_law 421 = .ok (.iadd, 1) := by decide +kernel
theorem dL_law_422 : decode cL_law 422 = .ok (.iaload, 1) := by decide +kernel
theorem dL_law_423 : decode cL_law 423 = .ok (.invokevirtual 51, 3) := by decide +kernel
theorem dL_law_426 : decode cL_law 426 = .ok (.if_icmp .eq 929, 3) := by decide +kernel
theorem dL_law_429 : decode cL_law 429 = .ok (.iconst 0, 1) := by decide +kernel
theorem dL_law_430 : decode cL_law 430 = .ok (.ireturn, 1) := by decide +kernel
theorem dL_law_431 : decode cL_law 431 = .ok (.aload_n 1, 1) := by decide +kernel
theorem dL_law_432 : decode cL_law 432 = .ok (.aload_n 0, 1) := by decide +kernel
theorem dL_law_433 : decode cL_law 433 = .ok (.iload_n 3, 1) := by decide +kernel
theorem dL_law_434 : decode cL_law 434 = .ok (.iconst 1, 1) := by decide +kernel
theorem dL_law_435 : decode cL_law 435 = .ok (.iadd, 1) := by decide +kernel
theorem dL_law_436 : decode cL_law 436 = .ok (.iaload, 1) := by decide +kernel
theorem dL_law_437 : decode cL_law 437 = .ok (.aload_n 0, 1) := by decide +kernel
theorem dL_law_438 : decode cL_law 438 = .ok (.iload_n 3, 1) := by decide +kernel
theorem dL_law_439 : decode cL_law 439 = .ok (.iconst 2, 1) := by decide +kernel
theorem dL_law_440 : decode cL_law 440 = .ok (.iadd, 1) := by decide +kernel
theorem dL_law_441 : decode cL_law 441 = .ok (.iaload, 1) := by decide +kernel
theorem dL_law_442 : decode cL_law 442 = .ok (.aload_n 0, 1) := by decide +kernel
theorem dL_law_443 : decode cL_law 443 = .ok (.iload_n 3, 1) := by decide +kernel
theorem dL_law_444 : decode cL_law 444 = .ok (.iconst 3, 1) := by decide +kernel
theorem dL_law_445 : decode cL_law 445 = .ok (.iadd, 1) := by decide +kernel
theorem dL_law_446 : decode cL_law 446 = .ok (.iaload, 1) := by decide +kernel
theorem dL_law_447 : decode cL_law 447 = .ok (.invokevirtual 52, 3) := by decide +kernel
theorem dL_law_450 : decode cL_law 450 = .ok (.aload_n 2, 1) := by decide +kernel
theorem dL_law_451 : decode cL_law 451 = .ok (.aload_n 0, 1) := by decide +kernel
theorem dL_law_452 : decode cL_law 452 = .ok (.iload_n 3, 1) := by decide +kernel
theorem dL_law_453 : decode cL_law 453 = .ok (.iconst 1, 1) := by decide +kernel
theorem dL_law_454 : decode cL_law 454 = .ok (.iadd, 1) := by decide +kernel
theorem dL_law_455 : decode cL_law 455 = .ok (.iaload, 1) := by decide +kernel
theorem dL_law_456 : decode cL_law 456 = .ok (.aload_n 0, 1) := by decide +kernel
theorem dL_law_457 : decode cL_law 457 = .ok (.iload_n 3, 1) := by decide +kernel
theorem dL_law_458 : decode cL_law 458 = .ok (.iconst 2, 1) := by decide +kernel
theorem dL_law_459 : decode cL_law 459 = .ok (.iadd, 1) := by decide +kernel
theorem dL_law_460 : decode cL_law 460 = .ok (.iaload, 1) := by decide +kernel
theorem dL_law_461 : decode cL_law 461 = .ok (.aload_n 0, 1) := by decide +kernel
theorem dL_law_462 : decode cL_law 462 = .ok (.iload_n 3, 1) := by decide +kernel
theorem dL_law_463 : decode cL_law 463 = .ok (.iconst 3, 1) := by decide +kernel
theorem dL_law_464 : decode cL_law 464 = .ok (.iadd, 1) := by decide +kernel
theorem dL_law_465 : decode cL_law 465 = .ok (.iaload, 1) := by decide +kernel
theorem dL_law_466 : decode cL_law 466 = .ok (.invokevirtual 56, 3) := by decide +kernel
theorem dL_law_469 : decode cL_law 469 = .ok (.if_icmp .eq 886, 3) := by decide +kernel
theorem dL_law_472 : decode cL_law 472 = .ok (.iconst 0, 1) := by decide +kernel
theorem dL_law_473 : decode cL_law 473 = .ok (.ireturn, 1) := by decide +kernel
theorem dL_law_474 : decode cL_law 474 = .ok (.aload_n 1, 1) := by decide +kernel
theorem dL_law_475 : decode cL_law 475 = .ok (.aload_n 0, 1) := by decide +kernel
theorem dL_law_476 : decode cL_law 476 = .ok (.iload_n 3, 1) := by decide +kernel
theorem dL_law_477 : decode cL_law 477 = .ok (.iconst 1, 1) := by decide +kernel
theorem dL_law_478 : decode cL_law 478 = .ok (.iadd, 1) := by decide +kernel
theorem dL_law_479 : decode cL_law 479 = .ok (.iaload, 1) := by decide +kernel
theorem dL_law_480 : decode cL_law 480 = .ok (.aload_n 0, 1) := by decide +kernel
theorem dL_law_481 : decode cL_law 481 = .ok (.iload_n 3, 1) := by decide +kernel
theorem dL_law_482 : decode cL_law 482 = .ok (.iconst 2, 1) := by decide +kernel
theorem dL_law_483 : decode cL_law 483 = .ok (.iadd, 1) := by decide +kernel
theorem dL_law_484 : decode cL_law 484 = .ok (.iaload, 1) := by decide +kernel
theorem dL_law_485 : decode cL_law 485 = .ok (.ifCond .eq 7, 3) := by decide +kernel
theorem dL_law_488 : decode cL_law 488 = .ok (.iconst 1, 1) := by decide +kernel
theorem dL_law_489 : decode cL_law 489 = .ok (.goto 4, 3) := by decide +kernel
theorem dL_law_492 : decode cL_law 492 = .ok (.iconst 0, 1) := by decide +kernel
theorem dL_law_493 : decode cL_law 493 = .ok (.invokevirtual 57, 3) := by decide +kernel
theorem dL_law_496 : decode cL_law 496 = .ok (.aload_n 2, 1) := by decide +kernel
theorem dL_law_497 : decode cL_law 497 = .ok (.aload_n 0, 1) := by decide +kernel
theorem dL_law_498 : decode cL_law 498 = .ok (.iload_n 3, 1) := by decide +kernel
theorem dL_law_499 : decode cL_law 499 = .ok (.iconst 1, 1) := by decide +kernel
theorem dL_law_500 : decode cL_law 500 = .ok (.iadd, 1) := by decide +kernel
theorem dL_law_501 : decode cL_law 501 = .ok (.iaload, 1) := by decide +kernel
theorem dL_law_502 : decode cL_law 502 = .ok (.aload_n 0, 1) := by decide +kernel
theorem dL_law_503 : decode cL_law 503 = .ok (.iload_n 3, 1) := by decide +kernel
theorem dL_law_504 : decode cL_law 504 = .ok (.iconst 2, 1) := by decide +kernel
theorem dL_law_505 : decode cL_law 505 = .ok (.iadd, 1) := by decide +kernel
theorem dL_law_506 : decode cL_law 506 = .ok (.iaload, 1) := by decide +kernel
theorem dL_law_507 : decode cL_law 507 = .ok (.ifCond .eq 7, 3) := by decide +kernel
theorem dL_law_510 : decode cL_law 510 = .ok (.iconst 1, 1) := by decide +kernel
theorem dL_law_511 : decode cL_law 511 = .ok (.goto 4, 3) := by decide +kernel
theorem dL_law_514 : decode cL_law 514 = .ok (.iconst 0, 1) := by decide +kernel
theorem dL_law_515 : decode cL_law 515 = .ok (.invokevirtual 61, 3) := by decide +kernel
theorem dL_law_518 : decode cL_law 518 = .ok (.if_icmp .eq 837, 3) := by decide +kernel
theorem dL_law_521 : decode cL_law 521 = .ok (.iconst 0, 1) := by decide +kernel
theorem dL_law_522 : decode cL_law 522 = .ok (.ireturn, 1) := by decide +kernel
theorem dL_law_523 : decode cL_law 523 = .ok (.aload_n 1, 1) := by decide +kernel
theorem dL_law_524 : decode cL_law 524 = .ok (.aload_n 0, 1) := by decide +kernel
theorem dL_law_525 : decode cL_law 525 = .ok (.iload_n 3, 1) := by decide +kernel
theorem dL_law_526 : decode cL_law 526 = .ok (.iconst 1, 1) := by decide +kernel
theorem dL_law_527 : decode cL_law 527 = .ok (.iadd, 1) := by decide +kernel
theorem dL_law_528 : decode cL_law 528 = .ok (.iaload, 1) := by decide +kernel
theorem dL_law_529 : decode cL_law 529 = .ok (.aload_n 0, 1) := by decide +kernel
theorem dL_law_530 : decode cL_law 530 = .ok (.iload_n 3, 1) := by decide +kernel
theorem dL_law_531 : decode cL_law 531 = .ok (.iconst 2, 1) := by decide +kernel
theorem dL_law_532 : decode cL_law 532 = .ok (.iadd, 1) := by decide +kernel
theorem dL_law_533 : decode cL_law 533 = .ok (.iaload, 1) := by decide +kernel
theorem dL_law_534 : decode cL_law 534 = .ok (.aload_n 0, 1) := by decide +kernel
theorem dL_law_535 : decode cL_law 535 = .ok (.iload_n 3, 1) := by decide +kernel
theorem dL_law_536 : decode cL_law 536 = .ok (.iconst 3, 1) := by decide +kernel
theorem dL_law_537 : decode cL_law 537 = .ok (.iadd, 1) := by decide +kernel
theorem dL_law_538 : decode cL_law 538 = .ok (.iaload, 1) := by decide +kernel
theorem dL_law_539 : decode cL_law 539 = .ok (.ifCond .eq 7, 3) := by decide +kernel
theorem dL_law_542 : decode cL_law 542 = .ok (.iconst 1, 1) := by decide +kernel
theorem dL_law_543 : decode cL_law 543 = .ok (.goto 4, 3) := by decide +kernel
theorem dL_law_546 : decode cL_law 546 = .ok (.iconst 0, 1) := by decide +kernel
theorem dL_law_547 : decode cL_law 547 = .ok (.invokevirtual 62, 3) := by decide +kernel
theorem dL_law_550 : decode cL_law 550 = .ok (.aload_n 2, 1) := by decide +kernel
theorem dL_law_551 : decode cL_law 551 = .ok (.aload_n 0, 1) := by decide +kernel
theorem dL_law_552 : decode cL_law 552 = .ok (.iload_n 3, 1) := by decide +kernel
theorem dL_law_553 : decode cL_law 553 = .ok (.iconst 1, 1) := by decide +kernel
theorem dL_law_554 : decode cL_law 554 = .ok (.iadd, 1) := by decide +kernel
theorem dL_law_555 : decode cL_law 555 = .ok (.iaload, 1) := by decide +kernel
theorem dL_law_556 : decode cL_law 556 = .ok (.aload_n 0, 1) := by decide +kernel
theorem dL_law_557 : decode cL_law 557 = .ok (.iload_n 3, 1) := by decide +kernel
theorem dL_law_558 : decode cL_law 558 = .ok (.iconst 2, 1) := by decide +kernel
theorem dL_law_559 : decode cL_law 559 = .ok (.iadd, 1) := by decide +kernel
theorem dL_law_560 : decode cL_law 560 = .ok (.iaload, 1) := by decide +kernel
theorem dL_law_561 : decode cL_law 561 = .ok (.aload_n 0, 1) := by decide +kernel
theorem dL_law_562 : decode cL_law 562 = .ok (.iload_n 3, 1) := by decide +kernel
theorem dL_law_563 : decode cL_law 563 = .ok (.iconst 3, 1) := by decide +kernel
theorem dL_law_564 : decode cL_law 564 = .ok (.iadd, 1) := by decide +kernel
theorem dL_law_565 : decode cL_law 565 = .ok (.iaload, 1) := by decide +kernel
theorem dL_law_566 : decode cL_law 566 = .ok (.ifCond .eq 7, 3) := by decide +kernel
theorem dL_law_569 : decode cL_law 569 = .ok (.iconst 1, 1) := by decide +kernel
theorem dL_law_570 : decode cL_law 570 = .ok (.goto 4, 3) := by decide +kernel
theorem dL_law_573 : decode cL_law 573 = .ok (.iconst 0, 1) := by decide +kernel
theorem dL_law_574 : decode cL_law 574 = .ok (.invokevirtual 66, 3) := by decide +kernel
theorem dL_law_577 : decode cL_law 577 = .ok (.if_icmp .eq 778, 3) := by decide +kernel
theorem dL_law_580 : decode cL_law 580 = .ok (.iconst 0, 1) := by decide +kernel
theorem dL_law_581 : decode cL_law 581 = .ok (.ireturn, 1) := by decide +kernel
theorem dL_law_582 : decode cL_law 582 = .ok (.aload_n 1, 1) := by decide +kernel
theorem dL_law_583 : decode cL_law 583 = .ok (.aload_n 0, 1) := by decide +kernel
theorem dL_law_584 : decode cL_law 584 = .ok (.iload_n 3, 1) := by decide +kernel
theorem dL_law_585 : decode cL_law 585 = .ok (.iconst 1, 1) := by decide +kernel
theorem dL_law_586 : decode cL_law 586 = .ok (.iadd, 1) := by decide +kernel
theorem dL_law_587 : decode cL_law 587 = .ok (.iaload, 1) := by decide +kernel
theorem dL_law_588 : decode cL_law 588 = .ok (.aload_n 0, 1) := by decide +kernel
theorem dL_law_589 : decode cL_law 589 = .ok (.iload_n 3, 1) := by decide +kernel
theorem dL_law_590 : decode cL_law 590 = .ok (.iconst 2, 1) := by decide +kernel
theorem dL_law_591 : decode cL_law 591 = .ok (.iadd, 1) := by decide +kernel
theorem dL_law_592 : decode cL_law 592 = .ok (.iaload, 1) := by decide +kernel
theorem dL_law_593 : decode cL_law 593 = .ok (.invokevirtual 67, 3) := by decide +kernel
theorem dL_law_596 : decode cL_law 596 = .ok (.aload_n 2, 1) := by decide +kernel
theorem dL_law_597 : decode cL_law 597 = .ok (.aload_n 0, 1) := by decide +kernel
theorem dL_law_598 : decode cL_law 598 = .ok (.iload_n 3, 1) := by decide +kernel
theorem dL_law_599 : decode cL_law 599 = .ok (.iconst 1, 1) := by decide +kernel
theorem dL_law_600 : decode cL_law 600 = .ok (.iadd, 1) := by decide +kernel
theorem dL_law_601 : decode cL_law 601 = .ok (.iaload, 1) := by decide +kernel
theorem dL_law_602 : decode cL_law 602 = .ok (.aload_n 0, 1) := by decide +kernel
theorem dL_law_603 : decode cL_law 603 = .ok (.iload_n 3, 1) := by decide +kernel
theorem dL_law_604 : decode cL_law 604 = .ok (.iconst 2, 1) := by decide +kernel
theorem dL_law_605 : decode cL_law 605 = .ok (.iadd, 1) := by decide +kernel
theorem dL_law_606 : decode cL_law 606 = .ok (.iaload, 1) := by decide +kernel
theorem dL_law_607 : decode cL_law 607 = .ok (.invokevirtual 70, 3) := by decide +kernel
theorem dL_law_610 : decode cL_law 610 = .ok (.if_icmp .eq 745, 3) := by decide +kernel
theorem dL_law_613 : decode cL_law 613 = .ok (.iconst 0, 1) := by decide +kernel
theorem dL_law_614 : decode cL_law 614 = .ok (.ireturn, 1) := by decide +kernel
theorem dL_law_615 : decode cL_law 615 = .ok (.aload_n 1, 1) := by decide +kernel
theorem dL_law_616 : decode cL_law 616 = .ok (.aload_n 0, 1) := by decide +kernel
theorem dL_law_617 : decode cL_law 617 = .ok (.iload_n 3, 1) := by decide +kernel
theorem dL_law_618 : decode cL_law 618 = .ok (.iconst 1, 1) := by decide +kernel
theorem dL_law_619 : decode cL_law 619 = .ok (.iadd, 1) := by decide +kernel
theorem dL_law_620 : decode cL_law 620 = .ok (.iaload, 1) := by decide +kernel
theorem dL_law_621 : decode cL_law 621 = .ok (.invokevirtual 71, 3) := by decide +kernel
theorem dL_law_624 : decode cL_law 624 = .ok (.aload_n 2, 1) := by decide +kernel
theorem dL_law_625 : decode cL_law 625 = .ok (.aload_n 0, 1) := by decide +kernel
theorem dL_law_626 : decode cL_law 626 = .ok (.iload_n 3, 1) := by decide +kernel
theorem dL_law_627 : decode cL_law 627 = .ok (.iconst 1, 1) := by decide +kernel
theorem dL_law_628 : decode cL_law 628 = .ok (.iadd, 1) := by decide +kernel
theorem dL_law_629 : decode cL_law 629 = .ok (.iaload, 1) := by decide +kernel
theorem dL_law_630 : decode cL_law 630 = .ok (.invokevirtual 74, 3) := by decide +kernel
theorem dL_law_633 : decode cL_law 633 = .ok (.if_icmp .eq 722, 3) := by decide +kernel
theorem dL_law_636 : decode cL_law 636 = .ok (.iconst 0, 1) := by decide +kernel
theorem dL_law_637 : decode cL_law 637 = .ok (.ireturn, 1) := by decide +kernel
theorem dL_law_638 : decode cL_law 638 = .ok (.aload_n 1, 1) := by decide +kernel
theorem dL_law_639 : decode cL_law 639 = .ok (.aload_n 0, 1) := by decide +kernel
theorem dL_law_640 : decode cL_law 640 = .ok (.iload_n 3, 1) := by decide +kernel
theorem dL_law_641 : decode cL_law 641 = .ok (.iconst 1, 1) := by decide +kernel
theorem dL_law_642 : decode cL_law 642 = .ok (.iadd, 1) := by decide +kernel
theorem dL_law_643 : decode cL_law 643 = .ok (.iaload, 1) := by decide +kernel
theorem dL_law_644 : decode cL_law 644 = .ok (.aload_n 0, 1) := by decide +kernel
theorem dL_law_645 : decode cL_law 645 = .ok (.iload_n 3, 1) := by decide +kernel
theorem dL_law_646 : decode cL_law 646 = .ok (.iconst 2, 1) := by decide +kernel
theorem dL_law_647 : decode cL_law 647 = .ok (.iadd, 1) := by decide +kernel
theorem dL_law_648 : decode cL_law 648 = .ok (.iaload, 1) := by decide +kernel
theorem dL_law_649 : decode cL_law 649 = .ok (.invokevirtual 75, 3) := by decide +kernel
theorem dL_law_652 : decode cL_law 652 = .ok (.aload_n 2, 1) := by decide +kernel
theorem dL_law_653 : decode cL_law 653 = .ok (.aload_n 0, 1) := by decide +kernel
theorem dL_law_654 : decode cL_law 654 = .ok (.iload_n 3, 1) := by decide +kernel
theorem dL_law_655 : decode cL_law 655 = .ok (.iconst 1, 1) := by decide +kernel
theorem dL_law_656 : decode cL_law 656 = .ok (.iadd, 1) := by decide +kernel
theorem dL_law_657 : decode cL_law 657 = .ok (.iaload, 1) := by decide +kernel
theorem dL_law_658 : decode cL_law 658 = .ok (.aload_n 0, 1) := by decide +kernel
theorem dL_law_659 : decode cL_law 659 = .ok (.iload_n 3, 1) := by decide +kernel
theorem dL_law_660 : decode cL_law 660 = .ok (.iconst 2, 1) := by decide +kernel
theorem dL_law_661 : decode cL_law 661 = .ok (.iadd, 1) := by decide +kernel
theorem dL_law_662 : decode cL_law 662 = .ok (.iaload, 1) := by decide +kernel
theorem dL_law_663 : decode cL_law 663 = .ok (.invokevirtual 78, 3) := by decide +kernel
theorem dL_law_666 : decode cL_law 666 = .ok (.if_icmp .eq 689, 3) := by decide +kernel
theorem dL_law_669 : decode cL_law 669 = .ok (.iconst 0, 1) := by decide +kernel
theorem dL_law_670 : decode cL_law 670 = .ok (.ireturn, 1) := by decide +kernel
theorem dL_law_671 : decode cL_law 671 = .ok (.aload_n 1, 1) := by decide +kernel
theorem dL_law_672 : decode cL_law 672 = .ok (.aload_n 0, 1) := by decide +kernel
theorem dL_law_673 : decode cL_law 673 = .ok (.iload_n 3, 1) := by decide +kernel
theorem dL_law_674 : decode cL_law 674 = .ok (.iconst 1, 1) := by decide +kernel
theorem dL_law_675 : decode cL_law 675 = .ok (.iadd, 1) := by decide +kernel
theorem dL_law_676 : decode cL_law 676 = .ok (.iaload, 1) := by decide +kernel
theorem dL_law_677 : decode cL_law 677 = .ok (.invokevirtual 79, 3) := by decide +kernel
theorem dL_law_680 : decode cL_law 680 = .ok (.aload_n 2, 1) := by decide +kernel
theorem dL_law_681 : decode cL_law 681 = .ok (.aload_n 0, 1) := by decide +kernel
theorem dL_law_682 : decode cL_law 682 = .ok (.iload_n 3, 1) := by decide +kernel
theorem dL_law_683 : decode cL_law 683 = .ok (.iconst 1, 1) := by decide +kernel
theorem dL_law_684 : decode cL_law 684 = .ok (.iadd, 1) := by decide +kernel
theorem dL_law_685 : decode cL_law 685 = .ok (.iaload, 1) := by decide +kernel
theorem dL_law_686 : decode cL_law 686 = .ok (.invokevirtual 82, 3) := by decide +kernel
theorem dL_law_689 : decode cL_law 689 = .ok (.if_icmp .eq 666, 3) := by decide +kernel
theorem dL_law_692 : decode cL_law 692 = .ok (.iconst 0, 1) := by decide +kernel
theorem dL_law_693 : decode cL_law 693 = .ok (.ireturn, 1) := by decide +kernel
theorem dL_law_694 : decode cL_law 694 = .ok (.aload_n 1, 1) := by decide +kernel
theorem dL_law_695 : decode cL_law 695 = .ok (.aload_n 0, 1) := by decide +kernel
theorem dL_law_696 : decode cL_law 696 = .ok (.iload_n 3, 1) := by decide +kernel
theorem dL_law_697 : decode cL_law 697 = .ok (.iconst 1, 1) := by decide +kernel
theorem dL_law_698 : decode cL_law 698 = .ok (.iadd, 1) := by decide +kernel
theorem dL_law_699 : decode cL_law 699 = .ok (.iaload, 1) := by decide +kernel
theorem dL_law_700 : decode cL_law 700 = .ok (.invokevirtual 83, 3) := by decide +kernel
theorem dL_law_703 : decode cL_law 703 = .ok (.aload_n 2, 1) := by decide +kernel
theorem dL_law_704 : decode cL_law 704 = .ok (.aload_n 0, 1) := by decide +kernel
theorem dL_law_705 : decode cL_law 705 = .ok (.iload_n 3, 1) := by decide +kernel
theorem dL_law_706 : decode cL_law 706 = .ok (.iconst 1, 1) := by decide +kernel
theorem dL_law_707 : decode cL_law 707 = .ok (.iadd, 1) := by decide +kernel
theorem dL_law_708 : decode cL_law 708 = .ok (.iaload, 1) := by decide +kernel
theorem dL_law_709 : decode cL_law 709 = .ok (.invokevirtual 86, 3) := by decide +kernel
theorem dL_law_712 : decode cL_law 712 = .ok (.if_icmp .eq 643, 3) := by decide +kernel
theorem dL_law_715 : decode cL_law 715 = .ok (.iconst 0, 1) := by decide +kernel
theorem dL_law_716 : decode cL_law 716 = .ok (.ireturn, 1) := by decide +kernel
theorem dL_law_717 : decode cL_law 717 = .ok (.aload_n 1, 1) := by decide +kernel
theorem dL_law_718 : decode cL_law 718 = .ok (.aload_n 0, 1) := by decide +kernel
theorem dL_law_719 : decode cL_law 719 = .ok (.iload_n 3, 1) := by decide +kernel
theorem dL_law_720 : decode cL_law 720 = .ok (.iconst 1, 1) := by decide +kernel
theorem dL_law_721 : decode cL_law 721 = .ok (.iadd, 1) := by decide +kernel
theorem dL_law_722 : decode cL_law 722 = .ok (.iaload, 1) := by decide +kernel
theorem dL_law_723 : decode cL_law 723 = .ok (.invokevirtual 87, 3) := by decide +kernel
theorem dL_law_726 : decode cL_law 726 = .ok (.aload_n 2, 1) := by decide +kernel
theorem dL_law_727 : decode cL_law 727 = .ok (.aload_n 0, 1) := by decide +kernel
theorem dL_law_728 : decode cL_law 728 = .ok (.iload_n 3, 1) := by decide +kernel
theorem dL_law_729 : decode cL_law 729 = .ok (.iconst 1, 1) := by decide +kernel
theorem dL_law_730 : decode cL_law 730 = .ok (.iadd, 1) := by decide +kernel
theorem dL_law_731 : decode cL_law 731 = .ok (.iaload, 1) := by decide +kernel
theorem dL_law_732 : decode cL_law 732 = .ok (.invokevirtual 90, 3) := by decide +kernel
theorem dL_law_735 : decode cL_law 735 = .ok (.if_icmp .eq 620, 3) := by decide +kernel
theorem dL_law_738 : decode cL_law 738 = .ok (.iconst 0, 1) := by decide +kernel
theorem dL_law_739 : decode cL_law 739 = .ok (.ireturn, 1) := by decide +kernel
theorem dL_law_740 : decode cL_law 740 = .ok (.aload_n 1, 1) := by decide +kernel
theorem dL_law_741 : decode cL_law 741 = .ok (.aload_n 0, 1) := by decide +kernel
theorem dL_law_742 : decode cL_law 742 = .ok (.iload_n 3, 1) := by decide +kernel
theorem dL_law_743 : decode cL_law 743 = .ok (.iconst 1, 1) := by decide +kernel
theorem dL_law_744 : decode cL_law 744 = .ok (.iadd, 1) := by decide +kernel
theorem dL_law_745 : decode cL_law 745 = .ok (.iaload, 1) := by decide +kernel
theorem dL_law_746 : decode cL_law 746 = .ok (.invokevirtual 91, 3) := by decide +kernel
theorem dL_law_749 : decode cL_law 749 = .ok (.aload_n 2, 1) := by decide +kernel
theorem dL_law_750 : decode cL_law 750 = .ok (.aload_n 0, 1) := by decide +kernel
theorem dL_law_751 : decode cL_law 751 = .ok (.iload_n 3, 1) := by decide +kernel
theorem dL_law_752 : decode cL_law 752 = .ok (.iconst 1, 1) := by decide +kernel
theorem dL_law_753 : decode cL_law 753 = .ok (.iadd, 1) := by decide +kernel
theorem dL_law_754 : decode cL_law 754 = .ok (.iaload, 1) := by decide +kernel
theorem dL_law_755 : decode cL_law 755 = .ok (.invokevirtual 94, 3) := by decide +kernel
theorem dL_law_758 : decode cL_law 758 = .ok (.if_icmp .eq 597, 3) := by decide +kernel
theorem dL_law_761 : decode cL_law 761 = .ok (.iconst 0, 1) := by decide +kernel
theorem dL_law_762 : decode cL_law 762 = .ok (.ireturn, 1) := by decide +kernel
theorem dL_law_763 : decode cL_law 763 = .ok (.aload_n 1, 1) := by decide +kernel
theorem dL_law_764 : decode cL_law 764 = .ok (.invokevirtual 95, 3) := by decide +kernel
theorem dL_law_767 : decode cL_law 767 = .ok (.aload_n 2, 1) := by decide +kernel
theorem dL_law_768 : decode cL_law 768 = .ok (.invokevirtual 98, 3) := by decide +kernel
theorem dL_law_771 : decode cL_law 771 = .ok (.if_icmp .eq 584, 3) := by decide +kernel
theorem dL_law_774 : decode cL_law 774 = .ok (.iconst 0, 1) := by decide +kernel
theorem dL_law_775 : decode cL_law 775 = .ok (.ireturn, 1) := by decide +kernel
theorem dL_law_776 : decode cL_law 776 = .ok (.aload_n 1, 1) := by decide +kernel
theorem dL_law_777 : decode cL_law 777 = .ok (.aload_n 0, 1) := by decide +kernel
theorem dL_law_778 : decode cL_law 778 = .ok (.iload_n 3, 1) := by decide +kernel
theorem dL_law_779 : decode cL_law 779 = .ok (.iconst 1, 1) := by decide +kernel
theorem dL_law_780 : decode cL_law 780 = .ok (.iadd, 1) := by decide +kernel
theorem dL_law_781 : decode cL_law 781 = .ok (.iaload, 1) := by decide +kernel
theorem dL_law_782 : decode cL_law 782 = .ok (.invokevirtual 99, 3) := by decide +kernel
theorem dL_law_785 : decode cL_law 785 = .ok (.aload_n 2, 1) := by decide +kernel
theorem dL_law_786 : decode cL_law 786 = .ok (.aload_n 0, 1) := by decide +kernel
theorem dL_law_787 : decode cL_law 787 = .ok (.iload_n 3, 1) := by decide +kernel
theorem dL_law_788 : decode cL_law 788 = .ok (.iconst 1, 1) := by decide +kernel
theorem dL_law_789 : decode cL_law 789 = .ok (.iadd, 1) := by decide +kernel
theorem dL_law_790 : decode cL_law 790 = .ok (.iaload, 1) := by decide +kernel
theorem dL_law_791 : decode cL_law 791 = .ok (.invokevirtual 102, 3) := by decide +kernel
theorem dL_law_794 : decode cL_law 794 = .ok (.if_icmp .eq 561, 3) := by decide +kernel
theorem dL_law_797 : decode cL_law 797 = .ok (.iconst 0, 1) := by decide +kernel
theorem dL_law_798 : decode cL_law 798 = .ok (.ireturn, 1) := by decide +kernel
theorem dL_law_799 : decode cL_law 799 = .ok (.aload_n 1, 1) := by decide +kernel
theorem dL_law_800 : decode cL_law 800 = .ok (.invokevirtual 103, 3) := by decide +kernel
theorem dL_law_803 : decode cL_law 803 = .ok (.aload_n 2, 1) := by decide +kernel
theorem dL_law_804 : decode cL_law 804 = .ok (.invokevirtual 106, 3) := by decide +kernel
theorem dL_law_807 : decode cL_law 807 = .ok (.if_icmp .eq 548, 3) := by decide +kernel
theorem dL_law_810 : decode cL_law 810 = .ok (.iconst 0, 1) := by decide +kernel
theorem dL_law_811 : decode cL_law 811 = .ok (.ireturn, 1) := by decide +kernel
theorem dL_law_812 : decode cL_law 812 = .ok (.aload_n 1, 1) := by decide +kernel
theorem dL_law_813 : decode cL_law 813 = .ok (.aload_n 0, 1) := by decide +kernel
theorem dL_law_814 : decode cL_law 814 = .ok (.iload_n 3, 1) := by decide +kernel
theorem dL_law_815 : decode cL_law 815 = .ok (.iconst 1, 1) := by decide +kernel
theorem dL_law_816 : decode cL_law 816 = .ok (.iadd, 1) := by decide +kernel
theorem dL_law_817 : decode cL_law 817 = .ok (.iaload, 1) := by decide +kernel
theorem dL_law_818 : decode cL_law 818 = .ok (.invokevirtual 107, 3) := by decide +kernel
theorem dL_law_821 : decode cL_law 821 = .ok (.aload_n 2, 1) := by decide +kernel
theorem dL_law_822 : decode cL_law 822 = .ok (.aload_n 0, 1) := by decide +kernel
theorem dL_law_823 : decode cL_law 823 = .ok (.iload_n 3, 1) := by decide +kernel
theorem dL_law_824 : decode cL_law 824 = .ok (.iconst 1, 1) := by decide +kernel
theorem dL_law_825 : decode cL_law 825 = .ok (.iadd, 1) := by decide +kernel
theorem dL_law_826 : decode cL_law 826 = .ok (.iaload, 1) := by decide +kernel
theorem dL_law_827 : decode cL_law 827 = .ok (.invokevirtual 110, 3) := by decide +kernel
theorem dL_law_830 : decode cL_law 830 = .ok (.if_icmp .eq 525, 3) := by decide +kernel
theorem dL_law_833 : decode cL_law 833 = .ok (.iconst 0, 1) := by decide +kernel
theorem dL_law_834 : decode cL_law 834 = .ok (.ireturn, 1) := by decide +kernel
theorem dL_law_835 : decode cL_law 835 = .ok (.aload_n 1, 1) := by decide +kernel
theorem dL_law_836 : decode cL_law 836 = .ok (.aload_n 0, 1) := by decide +kernel
theorem dL_law_837 : decode cL_law 837 = .ok (.iload_n 3, 1) := by decide +kernel
theorem dL_law_838 : decode cL_law 838 = .ok (.iconst 1, 1) := by decide +kernel
theorem dL_law_839 : decode cL_law 839 = .ok (.iadd, 1) := by decide +kernel
theorem dL_law_840 : decode cL_law 840 = .ok (.iaload, 1) := by decide +kernel
theorem dL_law_841 : decode cL_law 841 = .ok (.aload_n 0, 1) := by decide +kernel
theorem dL_law_842 : decode cL_law 842 = .ok (.iload_n 3, 1) := by decide +kernel
theorem dL_law_843 : decode cL_law 843 = .ok (.iconst 2, 1) := by decide +kernel
theorem dL_law_844 : decode cL_law 844 = .ok (.iadd, 1) := by decide +kernel
theorem dL_law_845 : decode cL_law 845 = .ok (.iaload, 1) := by decide +kernel
theorem dL_law_846 : decode cL_law 846 = .ok (.invokevirtual 111, 3) := by decide +kernel
theorem dL_law_849 : decode cL_law 849 = .ok (.aload_n 2, 1) := by decide +kernel
theorem dL_law_850 : decode cL_law 850 = .ok (.aload_n 0, 1) := by decide +kernel
theorem dL_law_851 : decode cL_law 851 = .ok (.iload_n 3, 1) := by decide +kernel
theorem dL_law_852 : decode cL_law 852 = .ok (.iconst 1, 1) := by decide +kernel
theorem dL_law_853 : decode cL_law 853 = .ok (.iadd, 1) := by decide +kernel
theorem dL_law_854 : decode cL_law 854 = .ok (.iaload, 1) := by decide +kernel
theorem dL_law_855 : decode cL_law 855 = .ok (.aload_n 0, 1) := by decide +kernel
theorem dL_law_856 : decode cL_law 856 = .ok (.iload_n 3, 1) := by decide +kernel
theorem dL_law_857 : decode cL_law 857 = .ok (.iconst 2, 1) := by decide +kernel
theorem dL_law_858 : decode cL_law 858 = .ok (.iadd, 1) := by decide +kernel
theorem dL_law_859 : decode cL_law 859 = .ok (.iaload, 1) := by decide +kernel
theorem dL_law_860 : decode cL_law 860 = .ok (.invokevirtual 114, 3) := by decide +kernel
theorem dL_law_863 : decode cL_law 863 = .ok (.if_icmp .eq 492, 3) := by decide +kernel
theorem dL_law_866 : decode cL_law 866 = .ok (.iconst 0, 1) := by decide +kernel
theorem dL_law_867 : decode cL_law 867 = .ok (.ireturn, 1) := by decide +kernel
theorem dL_law_868 : decode cL_law 868 = .ok (.aload_n 1, 1) := by decide +kernel
theorem dL_law_869 : decode cL_law 869 = .ok (.aload_n 0, 1) := by decide +kernel
theorem dL_law_870 : decode cL_law 870 = .ok (.iload_n 3, 1) := by decide +kernel
theorem dL_law_871 : decode cL_law 871 = .ok (.iconst 1, 1) := by decide +kernel
theorem dL_law_872 : decode cL_law 872 = .ok (.iadd, 1) := by decide +kernel
theorem dL_law_873 : decode cL_law 873 = .ok (.iaload, 1) := by decide +kernel
theorem dL_law_874 : decode cL_law 874 = .ok (.invokevirtual 115, 3) := by decide +kernel
theorem dL_law_877 : decode cL_law 877 = .ok (.aload_n 2, 1) := by decide +kernel
theorem dL_law_878 : decode cL_law 878 = .ok (.aload_n 0, 1) := by decide +kernel
theorem dL_law_879 : decode cL_law 879 = .ok (.iload_n 3, 1) := by decide +kernel
theorem dL_law_880 : decode cL_law 880 = .ok (.iconst 1, 1) := by decide +kernel
theorem dL_law_881 : decode cL_law 881 = .ok (.iadd, 1) := by decide +kernel
theorem dL_law_882 : decode cL_law 882 = .ok (.iaload, 1) := by decide +kernel
theorem dL_law_883 : decode cL_law 883 = .ok (.invokevirtual 118, 3) := by decide +kernel
theorem dL_law_886 : decode cL_law 886 = .ok (.if_icmp .eq 469, 3) := by decide +kernel
theorem dL_law_889 : decode cL_law 889 = .ok (.iconst 0, 1) := by decide +kernel
theorem dL_law_890 : decode cL_law 890 = .ok (.ireturn, 1) := by decide +kernel
theorem dL_law_891 : decode cL_law 891 = .ok (.aload_n 1, 1) := by decide +kernel
theorem dL_law_892 : decode cL_law 892 = .ok (.aload_n 0, 1) := by decide +kernel
theorem dL_law_893 : decode cL_law 893 = .ok (.iload_n 3, 1) := by decide +kernel
theorem dL_law_894 : decode cL_law 894 = .ok (.iconst 1, 1) := by decide +kernel
theorem dL_law_895 : decode cL_law 895 = .ok (.iadd, 1) := by decide +kernel
theorem dL_law_896 : decode cL_law 896 = .ok (.iaload, 1) := by decide +kernel
theorem dL_law_897 : decode cL_law 897 = .ok (.aload_n 0, 1) := by decide +kernel
theorem dL_law_898 : decode cL_law 898 = .ok (.iload_n 3, 1) := by decide +kernel
theorem dL_law_899 : decode cL_law 899 = .ok (.iconst 2, 1) := by decide +kernel
theorem dL_law_900 : decode cL_law 900 = .ok (.iadd, 1) := by decide +kernel
theorem dL_law_901 : decode cL_law 901 = .ok (.iaload, 1) := by decide +kernel
theorem dL_law_902 : decode cL_law 902 = .ok (.invokevirtual 119, 3) := by decide +kernel
theorem dL_law_905 : decode cL_law 905 = .ok (.aload_n 2, 1) := by decide +kernel
theorem dL_law_906 : decode cL_law 906 = .ok (.aload_n 0, 1) := by decide +kernel
theorem dL_law_907 : decode cL_law 907 = .ok (.iload_n 3, 1) := by decide +kernel
theorem dL_law_908 : decode cL_law 908 = .ok (.iconst 1, 1) := by decide +kernel
theorem dL_law_909 : decode cL_law 909 = .ok (.iadd, 1) := by decide +kernel
theorem dL_law_910 : decode cL_law 910 = .ok (.iaload, 1) := by decide +kernel
theorem dL_law_911 : decode cL_law 911 = .ok (.aload_n 0, 1) := by decide +kernel
theorem dL_law_912 : decode cL_law 912 = .ok (.iload_n 3, 1) := by decide +kernel
theorem dL_law_913 : decode cL_law 913 = .ok (.iconst 2, 1) := by decide +kernel
theorem dL_law_914 : decode cL_law 914 = .ok (.iadd, 1) := by decide +kernel
theorem dL_law_915 : decode cL_law 915 = .ok (.iaload, 1) := by decide +kernel
theorem dL_law_916 : decode cL_law 916 = .ok (.invokevirtual 123, 3) := by decide +kernel
theorem dL_law_919 : decode cL_law 919 = .ok (.lcmp, 1) := by decide +kernel
theorem dL_law_920 : decode cL_law 920 = .ok (.ifCond .eq 435, 3) := by decide +kernel
theorem dL_law_923 : decode cL_law 923 = .ok (.iconst 0, 1) := by decide +kernel
theorem dL_law_924 : decode cL_law 924 = .ok (.ireturn, 1) := by decide +kernel
theorem dL_law_925 : decode cL_law 925 = .ok (.aload_n 1, 1) := by decide +kernel
theorem dL_law_926 : decode cL_law 926 = .ok (.aload_n 0, 1) := by decide +kernel
theorem dL_law_927 : decode cL_law 927 = .ok (.iload_n 3, 1) := by decide +kernel
theorem dL_law_928 : decode cL_law 928 = .ok (.iconst 1, 1) := by decide +kernel
theorem dL_law_929 : decode cL_law 929 = .ok (.iadd, 1) := by decide +kernel
theorem dL_law_930 : decode cL_law 930 = .ok (.iaload, 1) := by decide +kernel
theorem dL_law_931 : decode cL_law 931 = .ok (.aload_n 0, 1) := by decide +kernel
theorem dL_law_932 : decode cL_law 932 = .ok (.iload_n 3, 1) := by decide +kernel
theorem dL_law_933 : decode cL_law 933 = .ok (.iconst 2, 1) := by decide +kernel
theorem dL_law_934 : decode cL_law 934 = .ok (.iadd, 1) := by decide +kernel
theorem dL_law_935 : decode cL_law 935 = .ok (.iaload, 1) := by decide +kernel
theorem dL_law_936 : decode cL_law 936 = .ok (.aload_n 0, 1) := by decide +kernel
theorem dL_law_937 : decode cL_law 937 = .ok (.iload_n 3, 1) := by decide +kernel
theorem dL_law_938 : decode cL_law 938 = .ok (.iconst 3, 1) := by decide +kernel
theorem dL_law_939 : decode cL_law 939 = .ok (.iadd, 1) := by decide +kernel
theorem dL_law_940 : decode cL_law 940 = .ok (.iaload, 1) := by decide +kernel
theorem dL_law_941 : decode cL_law 941 = .ok (.invokevirtual 124, 3) := by decide +kernel
theorem dL_law_944 : decode cL_law 944 = .ok (.aload_n 2, 1) := by decide +kernel
theorem dL_law_945 : decode cL_law 945 = .ok (.aload_n 0, 1) := by decide +kernel
theorem dL_law_946 : decode cL_law 946 = .ok (.iload_n 3, 1) := by decide +kernel
theorem dL_law_947 : decode cL_law 947 = .ok (.iconst 1, 1) := by decide +kernel
theorem dL_law_948 : decode cL_law 948 = .ok (.iadd, 1) := by decide +kernel
theorem dL_law_949 : decode cL_law 949 = .ok (.iaload, 1) := by decide +kernel
theorem dL_law_950 : decode cL_law 950 = .ok (.aload_n 0, 1) := by decide +kernel
theorem dL_law_951 : decode cL_law 951 = .ok (.iload_n 3, 1) := by decide +kernel
theorem dL_law_952 : decode cL_law 952 = .ok (.iconst 2, 1) := by decide +kernel
theorem dL_law_953 : decode cL_law 953 = .ok (.iadd, 1) := by decide +kernel
theorem dL_law_954 : decode cL_law 954 = .ok (.iaload, 1) := by decide +kernel
theorem dL_law_955 : decode cL_law 955 = .ok (.aload_n 0, 1) := by decide +kernel
theorem dL_law_956 : decode cL_law 956 = .ok (.iload_n 3, 1) := by decide +kernel
theorem dL_law_957 : decode cL_law 957 = .ok (.iconst 3, 1) := by decide +kernel
theorem dL_law_958 : decode cL_law 958 = .ok (.iadd, 1) := by decide +kernel
theorem dL_law_959 : decode cL_law 959 = .ok (.iaload, 1) := by decide +kernel
theorem dL_law_960 : decode cL_law 960 = .ok (.invokevirtual 128, 3) := by decide +kernel
theorem dL_law_963 : decode cL_law 963 = .ok (.lcmp, 1) := by decide +kernel
theorem dL_law_964 : decode cL_law 964 = .ok (.ifCond .eq 391, 3) := by decide +kernel
theorem dL_law_967 : decode cL_law 967 = .ok (.iconst 0, 1) := by decide +kernel
theorem dL_law_968 : decode cL_law 968 = .ok (.ireturn, 1) := by decide +kernel
theorem dL_law_969 : decode cL_law 969 = .ok (.aload_n 1, 1) := by decide +kernel
theorem dL_law_970 : decode cL_law 970 = .ok (.aload_n 0, 1) := by decide +kernel
theorem dL_law_971 : decode cL_law 971 = .ok (.iload_n 3, 1) := by decide +kernel
theorem dL_law_972 : decode cL_law 972 = .ok (.iconst 1, 1) := by decide +kernel
theorem dL_law_973 : decode cL_law 973 = .ok (.iadd, 1) := by decide +kernel
theorem dL_law_974 : decode cL_law 974 = .ok (.iaload, 1) := by decide +kernel
theorem dL_law_975 : decode cL_law 975 = .ok (.aload_n 0, 1) := by decide +kernel
theorem dL_law_976 : decode cL_law 976 = .ok (.iload_n 3, 1) := by decide +kernel
theorem dL_law_977 : decode cL_law 977 = .ok (.iconst 2, 1) := by decide +kernel
theorem dL_law_978 : decode cL_law 978 = .ok (.iadd, 1) := by decide +kernel
theorem dL_law_979 : decode cL_law 979 = .ok (.iaload, 1) := by decide +kernel
theorem dL_law_980 : decode cL_law 980 = .ok (.aload_n 0, 1) := by decide +kernel
theorem dL_law_981 : decode cL_law 981 = .ok (.iload_n 3, 1) := by decide +kernel
theorem dL_law_982 : decode cL_law 982 = .ok (.iconst 3, 1) := by decide +kernel
theorem dL_law_983 : decode cL_law 983 = .ok (.iadd, 1) := by decide +kernel
theorem dL_law_984 : decode cL_law 984 = .ok (.iaload, 1) := by decide +kernel
theorem dL_law_985 : decode cL_law 985 = .ok (.invokevirtual 129, 3) := by decide +kernel
theorem dL_law_988 : decode cL_law 988 = .ok (.aload_n 2, 1) := by decide +kernel
theorem dL_law_989 : decode cL_law 989 = .ok (.aload_n 0, 1) := by decide +kernel
theorem dL_law_990 : decode cL_law 990 = .ok (.iload_n 3, 1) := by decide +kernel
theorem dL_law_991 : decode cL_law 991 = .ok (.iconst 1, 1) := by decide +kernel
theorem dL_law_992 : decode cL_law 992 = .ok (.iadd, 1) := by decide +kernel
theorem dL_law_993 : decode cL_law 993 = .ok (.iaload, 1) := by decide +kernel
theorem dL_law_994 : decode cL_law 994 = .ok (.aload_n 0, 1) := by decide +kernel
theorem dL_law_995 : decode cL_law 995 = .ok (.iload_n 3, 1) := by decide +kernel
theorem dL_law_996 : decode cL_law 996 = .ok (.iconst 2, 1) := by decide +kernel
theorem dL_law_997 : decode cL_law 997 = .ok (.iadd, 1) := by decide +kernel
theorem dL_law_998 : decode cL_law 998 = .ok (.iaload, 1) := by decide +kernel
theorem dL_law_999 : decode cL_law 999 = .ok (.aload_n 0, 1) := by decide +kernel
theorem dL_law_1000 : decode cL_law 1000 = .ok (.iload_n 3, 1) := by decide +kernel
theorem dL_law_1001 : decode cL_law 1001 = .ok (.iconst 3, 1) := by decide +kernel
theorem dL_law_1002 : decode cL_law 1002 = .ok (.iadd, 1) := by decide +kernel
theorem dL_law_1003 : decode cL_law 1003 = .ok (.iaload, 1) := by decide +kernel
theorem dL_law_1004 : decode cL_law 1004 = .ok (.invokevirtual 132, 3) := by decide +kernel
theorem dL_law_1007 : decode cL_law 1007 = .ok (.if_icmp .eq 348, 3) := by decide +kernel
theorem dL_law_1010 : decode cL_law 1010 = .ok (.iconst 0, 1) := by decide +kernel
theorem dL_law_1011 : decode cL_law 1011 = .ok (.ireturn, 1) := by decide +kernel
theorem dL_law_1012 : decode cL_law 1012 = .ok (.aload_n 1, 1) := by decide +kernel
theorem dL_law_1013 : decode cL_law 1013 = .ok (.aload_n 0, 1) := by decide +kernel
theorem dL_law_1014 : decode cL_law 1014 = .ok (.iload_n 3, 1) := by decide +kernel
theorem dL_law_1015 : decode cL_law 1015 = .ok (.iconst 1, 1) := by decide +kernel
theorem dL_law_1016 : decode cL_law 1016 = .ok (.iadd, 1) := by decide +kernel
theorem dL_law_1017 : decode cL_law 1017 = .ok (.iaload, 1) := by decide +kernel
theorem dL_law_1018 : decode cL_law 1018 = .ok (.invokevirtual 133, 3) := by decide +kernel
theorem dL_law_1021 : decode cL_law 1021 = .ok (.aload_n 2, 1) := by decide +kernel
theorem dL_law_1022 : decode cL_law 1022 = .ok (.aload_n 0, 1) := by decide +kernel
theorem dL_law_1023 : decode cL_law 1023 = .ok (.iload_n 3, 1) := by decide +kernel
theorem dL_law_1024 : decode cL_law 1024 = .ok (.iconst 1, 1) := by decide +kernel
theorem dL_law_1025 : decode cL_law 1025 = .ok (.iadd, 1) := by decide +kernel
theorem dL_law_1026 : decode cL_law 1026 = .ok (.iaload, 1) := by decide +kernel
theorem dL_law_1027 : decode cL_law 1027 = .ok (.invokevirtual 136, 3) := by decide +kernel
theorem dL_law_1030 : decode cL_law 1030 = .ok (.if_icmp .eq 325, 3) := by decide +kernel
theorem dL_law_1033 : decode cL_law 1033 = .ok (.iconst 0, 1) := by decide +kernel
theorem dL_law_1034 : decode cL_law 1034 = .ok (.ireturn, 1) := by decide +kernel
theorem dL_law_1035 : decode cL_law 1035 = .ok (.aload_n 1, 1) := by decide +kernel
theorem dL_law_1036 : decode cL_law 1036 = .ok (.aload_n 0, 1) := by decide +kernel
theorem dL_law_1037 : decode cL_law 1037 = .ok (.iload_n 3, 1) := by decide +kernel
theorem dL_law_1038 : decode cL_law 1038 = .ok (.iconst 1, 1) := by decide +kernel
theorem dL_law_1039 : decode cL_law 1039 = .ok (.iadd, 1) := by decide +kernel
theorem dL_law_1040 : decode cL_law 1040 = .ok (.iaload, 1) := by decide +kernel
theorem dL_law_1041 : decode cL_law 1041 = .ok (.invokevirtual 137, 3) := by decide +kernel
theorem dL_law_1044 : decode cL_law 1044 = .ok (.aload_n 2, 1) := by decide +kernel
theorem dL_law_1045 : decode cL_law 1045 = .ok (.aload_n 0, 1) := by decide +kernel
theorem dL_law_1046 : decode cL_law 1046 = .ok (.iload_n 3, 1) := by decide +kernel
theorem dL_law_1047 : decode cL_law 1047 = .ok (.iconst 1, 1) := by decide +kernel
theorem dL_law_1048 : decode cL_law 1048 = .ok (.iadd, 1) := by decide +kernel
theorem dL_law_1049 : decode cL_law 1049 = .ok (.iaload, 1) := by decide +kernel
theorem dL_law_1050 : decode cL_law 1050 = .ok (.invokevirtual 140, 3) := by decide +kernel
theorem dL_law_1053 : decode cL_law 1053 = .ok (.if_icmp .eq 302, 3) := by decide +kernel
theorem dL_law_1056 : decode cL_law 1056 = .ok (.iconst 0, 1) := by decide +kernel
theorem dL_law_1057 : decode cL_law 1057 = .ok (.ireturn, 1) := by decide +kernel
theorem dL_law_1058 : decode cL_law 1058 = .ok (.aload_n 1, 1) := by decide +kernel
theorem dL_law_1059 : decode cL_law 1059 = .ok (.aload_n 0, 1) := by decide +kernel
theorem dL_law_1060 : decode cL_law 1060 = .ok (.iload_n 3, 1) := by decide +kernel
theorem dL_law_1061 : decode cL_law 1061 = .ok (.iconst 1, 1) := by decide +kernel
theorem dL_law_1062 : decode cL_law 1062 = .ok (.iadd, 1) := by decide +kernel
theorem dL_law_1063 : decode cL_law 1063 = .ok (.iaload, 1) := by decide +kernel
theorem dL_law_1064 : decode cL_law 1064 = .ok (.aload_n 0, 1) := by decide +kernel
theorem dL_law_1065 : decode cL_law 1065 = .ok (.iload_n 3, 1) := by decide +kernel
theorem dL_law_1066 : decode cL_law 1066 = .ok (.iconst 2, 1) := by decide +kernel
theorem dL_law_1067 : decode cL_law 1067 = .ok (.iadd, 1) := by decide +kernel
theorem dL_law_1068 : decode cL_law 1068 = .ok (.iaload, 1) := by decide +kernel
theorem dL_law_1069 : decode cL_law 1069 = .ok (.invokevirtual 141, 3) := by decide +kernel
theorem dL_law_1072 : decode cL_law 1072 = .ok (.aload_n 2, 1) := by decide +kernel
theorem dL_law_1073 : decode cL_law 1073 = .ok (.aload_n 0, 1) := by decide +kernel
theorem dL_law_1074 : decode cL_law 1074 = .ok (.iload_n 3, 1) := by decide +kernel
theorem dL_law_1075 : decode cL_law 1075 = .ok (.iconst 1, 1) := by decide +kernel
theorem dL_law_1076 : decode cL_law 1076 = .ok (.iadd, 1) := by decide +kernel
theorem dL_law_1077 : decode cL_law 1077 = .ok (.iaload, 1) := by decide +kernel
theorem dL_law_1078 : decode cL_law 1078 = .ok (.aload_n 0, 1) := by decide +kernel
theorem dL_law_1079 : decode cL_law 1079 = .ok (.iload_n 3, 1) := by decide +kernel
theorem dL_law_1080 : decode cL_law 1080 = .ok (.iconst 2, 1) := by decide +kernel
theorem dL_law_1081 : decode cL_law 1081 = .ok (.iadd, 1) := by decide +kernel
theorem dL_law_1082 : decode cL_law 1082 = .ok (.iaload, 1) := by decide +kernel
theorem dL_law_1083 : decode cL_law 1083 = .ok (.invokevirtual 144, 3) := by decide +kernel
theorem dL_law_1086 : decode cL_law 1086 = .ok (.if_icmp .eq 269, 3) := by decide +kernel
theorem dL_law_1089 : decode cL_law 1089 = .ok (.iconst 0, 1) := by decide +kernel
theorem dL_law_1090 : decode cL_law 1090 = .ok (.ireturn, 1) := by decide +kernel
theorem dL_law_1091 : decode cL_law 1091 = .ok (.aload_n 1, 1) := by decide +kernel
theorem dL_law_1092 : decode cL_law 1092 = .ok (.aload_n 0, 1) := by decide +kernel
theorem dL_law_1093 : decode cL_law 1093 = .ok (.iload_n 3, 1) := by decide +kernel
theorem dL_law_1094 : decode cL_law 1094 = .ok (.iconst 1, 1) := by decide +kernel
theorem dL_law_1095 : decode cL_law 1095 = .ok (.iadd, 1) := by decide +kernel
theorem dL_law_1096 : decode cL_law 1096 = .ok (.iaload, 1) := by decide +kernel
theorem dL_law_1097 : decode cL_law 1097 = .ok (.aload_n 0, 1) := by decide +kernel
theorem dL_law_1098 : decode cL_law 1098 = .ok (.iload_n 3, 1) := by decide +kernel
theorem dL_law_1099 : decode cL_law 1099 = .ok (.iconst 2, 1) := by decide +kernel
theorem dL_law_1100 : decode cL_law 1100 = .ok (.iadd, 1) := by decide +kernel
theorem dL_law_1101 : decode cL_law 1101 = .ok (.iaload, 1) := by decide +kernel
theorem dL_law_1102 : decode cL_law 1102 = .ok (.aload_n 0, 1) := by decide +kernel
theorem dL_law_1103 : decode cL_law 1103 = .ok (.iload_n 3, 1) := by decide +kernel
theorem dL_law_1104 : decode cL_law 1104 = .ok (.iconst 3, 1) := by decide +kernel
theorem dL_law_1105 : decode cL_law 1105 = .ok (.iadd, 1) := by decide +kernel
theorem dL_law_1106 : decode cL_law 1106 = .ok (.iaload, 1) := by decide +kernel
theorem dL_law_1107 : decode cL_law 1107 = .ok (.invokevirtual 145, 3) := by decide +kernel
theorem dL_law_1110 : decode cL_law 1110 = .ok (.aload_n 2, 1) := by decide +kernel
theorem dL_law_1111 : decode cL_law 1111 = .ok (.aload_n 0, 1) := by decide +kernel
theorem dL_law_1112 : decode cL_law 1112 = .ok (.iload_n 3, 1) := by decide +kernel
theorem dL_law_1113 : decode cL_law 1113 = .ok (.iconst 1, 1) := by decide +kernel
theorem dL_law_1114 : decode cL_law 1114 = .ok (.iadd, 1) := by decide +kernel
theorem dL_law_1115 : decode cL_law 1115 = .ok (.iaload, 1) := by decide +kernel
theorem dL_law_1116 : decode cL_law 1116 = .ok (.aload_n 0, 1) := by decide +kernel
theorem dL_law_1117 : decode cL_law 1117 = .ok (.iload_n 3, 1) := by decide +kernel
theorem dL_law_1118 : decode cL_law 1118 = .ok (.iconst 2, 1) := by decide +kernel
theorem dL_law_1119 : decode cL_law 1119 = .ok (.iadd, 1) := by decide +kernel
theorem dL_law_1120 : decode cL_law 1120 = .ok (.iaload, 1) := by decide +kernel
theorem dL_law_1121 : decode cL_law 1121 = .ok (.aload_n 0, 1) := by decide +kernel
theorem dL_law_1122 : decode cL_law 1122 = .ok (.iload_n 3, 1) := by decide +kernel
theorem dL_law_1123 : decode cL_law 1123 = .ok (.iconst 3, 1) := by decide +kernel
theorem dL_law_1124 : decode cL_law 1124 = .ok (.iadd, 1) := by decide +kernel
theorem dL_law_1125 : decode cL_law 1125 = .ok (.iaload, 1) := by decide +kernel
theorem dL_law_1126 : decode cL_law 1126 = .ok (.invokevirtual 148, 3) := by decide +kernel
theorem dL_law_1129 : decode cL_law 1129 = .ok (.if_icmp .eq 226, 3) := by decide +kernel
theorem dL_law_1132 : decode cL_law 1132 = .ok (.iconst 0, 1) := by decide +kernel
theorem dL_law_1133 : decode cL_law 1133 = .ok (.ireturn, 1) := by decide +kernel
theorem dL_law_1134 : decode cL_law 1134 = .ok (.aload_n 1, 1) := by decide +kernel
theorem dL_law_1135 : decode cL_law 1135 = .ok (.aload_n 0, 1) := by decide +kernel
theorem dL_law_1136 : decode cL_law 1136 = .ok (.iload_n 3, 1) := by decide +kernel
theorem dL_law_1137 : decode cL_law 1137 = .ok (.iconst 1, 1) := by decide +kernel
theorem dL_law_1138 : decode cL_law 1138 = .ok (.iadd, 1) := by decide +kernel
theorem dL_law_1139 : decode cL_law 1139 = .ok (.iaload, 1) := by decide +kernel
theorem dL_law_1140 : decode cL_law 1140 = .ok (.invokevirtual 149, 3) := by decide +kernel
theorem dL_law_1143 : decode cL_law 1143 = .ok (.aload_n 2, 1) := by decide +kernel
theorem dL_law_1144 : decode cL_law 1144 = .ok (.aload_n 0, 1) := by decide +kernel
theorem dL_law_1145 : decode cL_law 1145 = .ok (.iload_n 3, 1) := by decide +kernel
theorem dL_law_1146 : decode cL_law 1146 = .ok (.iconst 1, 1) := by decide +kernel
theorem dL_law_1147 : decode cL_law 1147 = .ok (.iadd, 1) := by decide +kernel
theorem dL_law_1148 : decode cL_law 1148 = .ok (.iaload, 1) := by decide +kernel
theorem dL_law_1149 : decode cL_law 1149 = .ok (.invokevirtual 152, 3) := by decide +kernel
theorem dL_law_1152 : decode cL_law 1152 = .ok (.if_icmp .eq 203, 3) := by decide +kernel
theorem dL_law_1155 : decode cL_law 1155 = .ok (.iconst 0, 1) := by decide +kernel
theorem dL_law_1156 : decode cL_law 1156 = .ok (.ireturn, 1) := by decide +kernel
theorem dL_law_1157 : decode cL_law 1157 = .ok (.aload_n 1, 1) := by decide +kernel
theorem dL_law_1158 : decode cL_law 1158 = .ok (.aload_n 0, 1) := by decide +kernel
theorem dL_law_1159 : decode cL_law 1159 = .ok (.iload_n 3, 1) := by decide +kernel
theorem dL_law_1160 : decode cL_law 1160 = .ok (.iconst 1, 1) := by decide +kernel
theorem dL_law_1161 : decode cL_law 1161 = .ok (.iadd, 1) := by decide +kernel
theorem dL_law_1162 : decode cL_law 1162 = .ok (.iaload, 1) := by decide +kernel
theorem dL_law_1163 : decode cL_law 1163 = .ok (.invokevirtual 153, 3) := by decide +kernel
theorem dL_law_1166 : decode cL_law 1166 = .ok (.aload_n 2, 1) := by decide +kernel
theorem dL_law_1167 : decode cL_law 1167 = .ok (.aload_n 0, 1) := by decide +kernel
theorem dL_law_1168 : decode cL_law 1168 = .ok (.iload_n 3, 1) := by decide +kernel
theorem dL_law_1169 : decode cL_law 1169 = .ok (.iconst 1, 1) := by decide +kernel
theorem dL_law_1170 : decode cL_law 1170 = .ok (.iadd, 1) := by decide +kernel
theorem dL_law_1171 : decode cL_law 1171 = .ok (.iaload, 1) := by decide +kernel
theorem dL_law_1172 : decode cL_law 1172 = .ok (.invokevirtual 156, 3) := by decide +kernel
theorem dL_law_1175 : decode cL_law 1175 = .ok (.if_icmp .eq 180, 3) := by decide +kernel
theorem dL_law_1178 : decode cL_law 1178 = .ok (.iconst 0, 1) := by decide +kernel
theorem dL_law_1179 : decode cL_law 1179 = .ok (.ireturn, 1) := by decide +kernel
theorem dL_law_1180 : decode cL_law 1180 = .ok (.aload_n 1, 1) := by decide +kernel
theorem dL_law_1181 : decode cL_law 1181 = .ok (.aload_n 0, 1) := by decide +kernel
theorem dL_law_1182 : decode cL_law 1182 = .ok (.iload_n 3, 1) := by decide +kernel
theorem dL_law_1183 : decode cL_law 1183 = .ok (.iconst 1, 1) := by decide +kernel
theorem dL_law_1184 : decode cL_law 1184 = .ok (.iadd, 1) := by decide +kernel
theorem dL_law_1185 : decode cL_law 1185 = .ok (.iaload, 1) := by decide +kernel
theorem dL_law_1186 : decode cL_law 1186 = .ok (.aload_n 0, 1) := by decide +kernel
theorem dL_law_1187 : decode cL_law 1187 = .ok (.iload_n 3, 1) := by decide +kernel
theorem dL_law_1188 : decode cL_law 1188 = .ok (.iconst 2, 1) := by decide +kernel
theorem dL_law_1189 : decode cL_law 1189 = .ok (.iadd, 1) := by decide +kernel
theorem dL_law_1190 : decode cL_law 1190 = .ok (.iaload, 1) := by decide +kernel
theorem dL_law_1191 : decode cL_law 1191 = .ok (.aload_n 0, 1) := by decide +kernel
theorem dL_law_1192 : decode cL_law 1192 = .ok (.iload_n 3, 1) := by decide +kernel
theorem dL_law_1193 : decode cL_law 1193 = .ok (.iconst 3, 1) := by decide +kernel
theorem dL_law_1194 : decode cL_law 1194 = .ok (.iadd, 1) := by decide +kernel
theorem dL_law_1195 : decode cL_law 1195 = .ok (.iaload, 1) := by decide +kernel
theorem dL_law_1196 : decode cL_law 1196 = .ok (.invokevirtual 157, 3) := by decide +kernel
theorem dL_law_1199 : decode cL_law 1199 = .ok (.aload_n 2, 1) := by decide +kernel
theorem dL_law_1200 : decode cL_law 1200 = .ok (.aload_n 0, 1) := by decide +kernel
theorem dL_law_1201 : decode cL_law 1201 = .ok (.iload_n 3, 1) := by decide +kernel
theorem dL_law_1202 : decode cL_law 1202 = .ok (.iconst 1, 1) := by decide +kernel
theorem dL_law_1203 : decode cL_law 1203 = .ok (.iadd, 1) := by decide +kernel
theorem dL_law_1204 : decode cL_law 1204 = .ok (.iaload, 1) := by decide +kernel
theorem dL_law_1205 : decode cL_law 1205 = .ok (.aload_n 0, 1) := by decide +kernel
theorem dL_law_1206 : decode cL_law 1206 = .ok (.iload_n 3, 1) := by decide +kernel
theorem dL_law_1207 : decode cL_law 1207 = .ok (.iconst 2, 1) := by decide +kernel
theorem dL_law_1208 : decode cL_law 1208 = .ok (.iadd, 1) := by decide +kernel
theorem dL_law_1209 : decode cL_law 1209 = .ok (.iaload, 1) := by decide +kernel
theorem dL_law_1210 : decode cL_law 1210 = .ok (.aload_n 0, 1) := by decide +kernel
theorem dL_law_1211 : decode cL_law 1211 = .ok (.iload_n 3, 1) := by decide +kernel
theorem dL_law_1212 : decode cL_law 1212 = .ok (.iconst 3, 1) := by decide +kernel
theorem dL_law_1213 : decode cL_law 1213 = .ok (.iadd, 1) := by decide +kernel
theorem dL_law_1214 : decode cL_law 1214 = .ok (.iaload, 1) := by decide +kernel
theorem dL_law_1215 : decode cL_law 1215 = .ok (.invokevirtual 160, 3) := by decide +kernel
theorem dL_law_1218 : decode cL_law 1218 = .ok (.if_icmp .eq 137, 3) := by decide +kernel
theorem dL_law_1221 : decode cL_law 1221 = .ok (.iconst 0, 1) := by decide +kernel
theorem dL_law_1222 : decode cL_law 1222 = .ok (.ireturn, 1) := by decide +kernel
theorem dL_law_1223 : decode cL_law 1223 = .ok (.aload_n 1, 1) := by decide +kernel
theorem dL_law_1224 : decode cL_law 1224 = .ok (.aload_n 0, 1) := by decide +kernel
theorem dL_law_1225 : decode cL_law 1225 = .ok (.iload_n 3, 1) := by decide +kernel
theorem dL_law_1226 : decode cL_law 1226 = .ok (.iconst 1, 1) := by decide +kernel
theorem dL_law_1227 : decode cL_law 1227 = .ok (.iadd, 1) := by decide +kernel
theorem dL_law_1228 : decode cL_law 1228 = .ok (.iaload, 1) := by decide +kernel
theorem dL_law_1229 : decode cL_law 1229 = .ok (.aload_n 0, 1) := by decide +kernel
theorem dL_law_1230 : decode cL_law 1230 = .ok (.iload_n 3, 1) := by decide +kernel
theorem dL_law_1231 : decode cL_law 1231 = .ok (.iconst 2, 1) := by decide +kernel
theorem dL_law_1232 : decode cL_law 1232 = .ok (.iadd, 1) := by decide +kernel
theorem dL_law_1233 : decode cL_law 1233 = .ok (.iaload, 1) := by decide +kernel
theorem dL_law_1234 : decode cL_law 1234 = .ok (.aload_n 0, 1) := by decide +kernel
theorem dL_law_1235 : decode cL_law 1235 = .ok (.iload_n 3, 1) := by decide +kernel
theorem dL_law_1236 : decode cL_law 1236 = .ok (.iconst 3, 1) := by decide +kernel
theorem dL_law_1237 : decode cL_law 1237 = .ok (.iadd, 1) := by decide +kernel
theorem dL_law_1238 : decode cL_law 1238 = .ok (.iaload, 1) := by decide +kernel
theorem dL_law_1239 : decode cL_law 1239 = .ok (.invokevirtual 161, 3) := by decide +kernel
theorem dL_law_1242 : decode cL_law 1242 = .ok (.aload_n 2, 1) := by decide +kernel
theorem dL_law_1243 : decode cL_law 1243 = .ok (.aload_n 0, 1) := by decide +kernel
theorem dL_law_1244 : decode cL_law 1244 = .ok (.iload_n 3, 1) := by decide +kernel
theorem dL_law_1245 : decode cL_law 1245 = .ok (.iconst 1, 1) := by decide +kernel
theorem dL_law_1246 : decode cL_law 1246 = .ok (.iadd, 1) := by decide +kernel
theorem dL_law_1247 : decode cL_law 1247 = .ok (.iaload, 1) := by decide +kernel
theorem dL_law_1248 : decode cL_law 1248 = .ok (.aload_n 0, 1) := by decide +kernel
theorem dL_law_1249 : decode cL_law 1249 = .ok (.iload_n 3, 1) := by decide +kernel
theorem dL_law_1250 : decode cL_law 1250 = .ok (.iconst 2, 1) := by decide +kernel
theorem dL_law_1251 : decode cL_law 1251 = .ok (.iadd, 1) := by decide +kernel
theorem dL_law_1252 : decode cL_law 1252 = .ok (.iaload, 1) := by decide +kernel
theorem dL_law_1253 : decode cL_law 1253 = .ok (.aload_n 0, 1) := by decide +kernel
theorem dL_law_1254 : decode cL_law 1254 = .ok (.iload_n 3, 1) := by decide +kernel
theorem dL_law_1255 : decode cL_law 1255 = .ok (.iconst 3, 1) := by decide +kernel
theorem dL_law_1256 : decode cL_law 1256 = .ok (.iadd, 1) := by decide +kernel
theorem dL_law_1257 : decode cL_law 1257 = .ok (.iaload, 1) := by decide +kernel
theorem dL_law_1258 : decode cL_law 1258 = .ok (.invokevirtual 164, 3) := by decide +kernel
theorem dL_law_1261 : decode cL_law 1261 = .ok (.if_icmp .eq 94, 3) := by decide +kernel
theorem dL_law_1264 : decode cL_law 1264 = .ok (.iconst 0, 1) := by decide +kernel
theorem dL_law_1265 : decode cL_law 1265 = .ok (.ireturn, 1) := by decide +kernel
theorem dL_law_1266 : decode cL_law 1266 = .ok (.aload_n 1, 1) := by decide +kernel
theorem dL_law_1267 : decode cL_law 1267 = .ok (.aload_n 0, 1) := by decide +kernel
theorem dL_law_1268 : decode cL_law 1268 = .ok (.iload_n 3, 1) := by decide +kernel
theorem dL_law_1269 : decode cL_law 1269 = .ok (.iconst 1, 1) := by decide +kernel
theorem dL_law_1270 : decode cL_law 1270 = .ok (.iadd, 1) := by decide +kernel
theorem dL_law_1271 : decode cL_law 1271 = .ok (.iaload, 1) := by decide +kernel
theorem dL_law_1272 : decode cL_law 1272 = .ok (.aload_n 0, 1) := by decide +kernel
theorem dL_law_1273 : decode cL_law 1273 = .ok (.iload_n 3, 1) := by decide +kernel
theorem dL_law_1274 : decode cL_law 1274 = .ok (.iconst 2, 1) := by decide +kernel
theorem dL_law_1275 : decode cL_law 1275 = .ok (.iadd, 1) := by decide +kernel
theorem dL_law_1276 : decode cL_law 1276 = .ok (.iaload, 1) := by decide +kernel
theorem dL_law_1277 : decode cL_law 1277 = .ok (.aload_n 0, 1) := by decide +kernel
theorem dL_law_1278 : decode cL_law 1278 = .ok (.iload_n 3, 1) := by decide +kernel
theorem dL_law_1279 : decode cL_law 1279 = .ok (.iconst 3, 1) := by decide +kernel
theorem dL_law_1280 : decode cL_law 1280 = .ok (.iadd, 1) := by decide +kernel
theorem dL_law_1281 : decode cL_law 1281 = .ok (.iaload, 1) := by decide +kernel
theorem dL_law_1282 : decode cL_law 1282 = .ok (.aload_n 0, 1) := by decide +kernel
theorem dL_law_1283 : decode cL_law 1283 = .ok (.iload_n 3, 1) := by decide +kernel
theorem dL_law_1284 : decode cL_law 1284 = .ok (.iconst 4, 1) := by decide +kernel
theorem dL_law_1285 : decode cL_law 1285 = .ok (.iadd, 1) := by decide +kernel
theorem dL_law_1286 : decode cL_law 1286 = .ok (.iaload, 1) := by decide +kernel
theorem dL_law_1287 : decode cL_law 1287 = .ok (.invokevirtual 165, 3) := by decide +kernel
theorem dL_law_1290 : decode cL_law 1290 = .ok (.aload_n 2, 1) := by decide +kernel
theorem dL_law_1291 : decode cL_law 1291 = .ok (.aload_n 0, 1) := by decide +kernel
theorem dL_law_1292 : decode cL_law 1292 = .ok (.iload_n 3, 1) := by decide +kernel
theorem dL_law_1293 : decode cL_law 1293 = .ok (.iconst 1, 1) := by decide +kernel
theorem dL_law_1294 : decode cL_law 1294 = .ok (.iadd, 1) := by decide +kernel
theorem dL_law_1295 : decode cL_law 1295 = .ok (.iaload, 1) := by decide +kernel
theorem dL_law_1296 : decode cL_law 1296 = .ok (.aload_n 0, 1) := by decide +kernel
theorem dL_law_1297 : decode cL_law 1297 = .ok (.iload_n 3, 1) := by decide +kernel
theorem dL_law_1298 : decode cL_law 1298 = .ok (.iconst 2, 1) := by decide +kernel
theorem dL_law_1299 : decode cL_law 1299 = .ok (.iadd, 1) := by decide +kernel
theorem dL_law_1300 : decode cL_law 1300 = .ok (.iaload, 1) := by decide +kernel
theorem dL_law_1301 : decode cL_law 1301 = .ok (.aload_n 0, 1) := by decide +kernel
theorem dL_law_1302 : decode cL_law 1302 = .ok (.iload_n 3, 1) := by decide +kernel
theorem dL_law_1303 : decode cL_law 1303 = .ok (.iconst 3, 1) := by decide +kernel
theorem dL_law_1304 : decode cL_law 1304 = .ok (.iadd, 1) := by decide +kernel
theorem dL_law_1305 : decode cL_law 1305 = .ok (.iaload, 1) := by decide +kernel
theorem dL_law_1306 : decode cL_law 1306 = .ok (.aload_n 0, 1) := by decide +kernel
theorem dL_law_1307 : decode cL_law 1307 = .ok (.iload_n 3, 1) := by decide +kernel
theorem dL_law_1308 : decode cL_law 1308 = .ok (.iconst 4, 1) := by decide +kernel
theorem dL_law_1309 : decode cL_law 1309 = .ok (.iadd, 1) := by decide +kernel
theorem dL_law_1310 : decode cL_law 1310 = .ok (.iaload, 1) := by decide +kernel
theorem dL_law_1311 : decode cL_law 1311 = .ok (.invokevirtual 169, 3) := by decide +kernel
theorem dL_law_1314 : decode cL_law 1314 = .ok (.if_icmp .eq 41, 3) := by decide +kernel
theorem dL_law_1317 : decode cL_law 1317 = .ok (.iconst 0, 1) := by decide +kernel
theorem dL_law_1318 : decode cL_law 1318 = .ok (.ireturn, 1) := by decide +kernel
theorem dL_law_1319 : decode cL_law 1319 = .ok (.aload_n 1, 1) := by decide +kernel
theorem dL_law_1320 : decode cL_law 1320 = .ok (.invokevirtual 170, 3) := by decide +kernel
theorem dL_law_1323 : decode cL_law 1323 = .ok (.aload_n 2, 1) := by decide +kernel
theorem dL_law_1324 : decode cL_law 1324 = .ok (.invokevirtual 173, 3) := by decide +kernel
theorem dL_law_1327 : decode cL_law 1327 = .ok (.if_icmp .eq 28, 3) := by decide +kernel
theorem dL_law_1330 : decode cL_law 1330 = .ok (.iconst 0, 1) := by decide +kernel
theorem dL_law_1331 : decode cL_law 1331 = .ok (.ireturn, 1) := by decide +kernel
theorem dL_law_1332 : decode cL_law 1332 = .ok (.aload_n 1, 1) := by decide +kernel
theorem dL_law_1333 : decode cL_law 1333 = .ok (.aload_n 0, 1) := by decide +kernel
theorem dL_law_1334 : decode cL_law 1334 = .ok (.iload_n 3, 1) := by decide +kernel
theorem dL_law_1335 : decode cL_law 1335 = .ok (.iconst 1, 1) := by decide +kernel
theorem dL_law_1336 : decode cL_law 1336 = .ok (.iadd, 1) := by decide +kernel
theorem dL_law_1337 : decode cL_law 1337 = .ok (.iaload, 1) := by decide +kernel
theorem dL_law_1338 : decode cL_law 1338 = .ok (.invokevirtual 174, 3) := by decide +kernel
theorem dL_law_1341 : decode cL_law 1341 = .ok (.aload_n 2, 1) := by decide +kernel
theorem dL_law_1342 : decode cL_law 1342 = .ok (.aload_n 0, 1) := by decide +kernel
theorem dL_law_1343 : decode cL_law 1343 = .ok (.iload_n 3, 1) := by decide +kernel
theorem dL_law_1344 : decode cL_law 1344 = .ok (.iconst 1, 1) := by decide +kernel
theorem dL_law_1345 : decode cL_law 1345 = .ok (.iadd, 1) := by decide +kernel
theorem dL_law_1346 : decode cL_law 1346 = .ok (.iaload, 1) := by decide +kernel
theorem dL_law_1347 : decode cL_law 1347 = .ok (.invokevirtual 177, 3) := by decide +kernel
theorem dL_law_1350 : decode cL_law 1350 = .ok (.if_icmp .eq 5, 3) := by decide +kernel
theorem dL_law_1353 : decode cL_law 1353 = .ok (.iconst 0, 1) := by decide +kernel
theorem dL_law_1354 : decode cL_law 1354 = .ok (.ireturn, 1) := by decide +kernel
theorem dL_law_1355 : decode cL_law 1355 = .ok (.iinc 3 5, 3) := by decide +kernel
theorem dL_law_1358 : decode cL_law 1358 = .ok (.goto (-1340), 3) := by decide +kernel
theorem dL_law_1361 : decode cL_law 1361 = .ok (.iconst 1, 1) := by decide +kernel
theorem dL_law_1362 : decode cL_law 1362 = .ok (.ireturn, 1) := by decide +kernel
end
section
/-! THE WORLD OF ALL CELLS: which cell is what (k_SH) never changes once the objects are made; what they hold is a memory of ints. -/
abbrev k_Mem : Type := Nat → Nat → Int32
abbrev k_Shp : Type := (FieldType × Nat × Option (Nat → Nat)) ⊕ (Nat × List (Option Nat))
def k_twn (b : Nat) : k_Shp := .inr (5, [some (b + 1), some (b + 2), some (b + 3), some (b + 4), some (b + 5), some (b + 6), some (b + 7), none, none, none, none])
def k_ia (n : Nat) : k_Shp := .inl (.int, n, none)
def k_she (b : Nat) : k_Shp := .inr (2, [some (b + 1), none, none])
def k_SHL : List k_Shp := [
  .inr (6, [some 6, some 14, some 22, some 30, none, some 1, some 3, some 46, some 55, some 4, some 5, none]),
  .inr (4, [some 2, none, none, none, none, none]), .inl (.byte, 160, none),
  .inr (1, [some 1, some 38, none, none, none, none]),
  k_ia 10,
  .inl (.object "HandMarket$Sheet", 4, some (fun i => 59 + 2 * i)),
  k_twn 6, k_ia 8, k_ia 8, k_ia 8, k_ia 8, k_ia 8, k_ia 8, k_ia 8,
  k_twn 14, k_ia 8, k_ia 8, k_ia 8, k_ia 8, k_ia 8, k_ia 8, k_ia 8,
  k_twn 22, k_ia 8, k_ia 8, k_ia 8, k_ia 8, k_ia 8, k_ia 8, k_ia 8,
  k_twn 30, k_ia 8, k_ia 8, k_ia 8, k_ia 8, k_ia 8, k_ia 8, k_ia 8,
  k_twn 38, k_ia 8, k_ia 8, k_ia 8, k_ia 8, k_ia 8, k_ia 8, k_ia 8,
  .inr (0, [some 47, some 48, some 49, some 50, some 51, some 52, some 53, some 54, none]), k_ia 8, k_ia 8, k_ia 8, k_ia 64, k_ia 64, k_ia 8, k_ia 8, k_ia 8,
  .inr (3, [some 56, some 57, some 58, none]), k_ia 6, k_ia 6, k_ia 6,
  k_she 59, k_ia 40, k_she 61, k_ia 40, k_she 63, k_ia 40, k_she 65, k_ia 40,
  .inr (7, [some 68, none, none, some 69, none, none, none, none, none, some 70, none, none, none, none, none, none, none, none, some 71, some 72, some 73, some 74, some 75, some 76, some 77, none, some 78, none, some 79, some 80, some 81, some 82, none]), k_ia 250, k_ia 50, k_ia 160, k_ia 11, k_ia 45, k_ia 64, k_ia 8, k_ia 8, k_ia 8, k_ia 18, k_ia 24, .inl (.boolean, 2, none), k_ia 4, k_ia 4, k_ia 160]
def k_NC : Nat := 83
def k_SH (k : Nat) : k_Shp := k_SHL.getD k (.inr (99, []))
theorem k_len : k_SHL.length = k_NC := by decide +kernel
theorem k_lt_l {o : Nat} {x : FieldType × Nat × Option (Nat → Nat)} (h : k_SH o = .inl x) : o < k_NC := by
  rcases Nat.lt_or_ge o k_NC with q | q
  · exact q
  · rw [k_SH, List.getD_eq_getElem?_getD, List.getElem?_eq_none (by rw [k_len]; exact q)] at h
    cases h
theorem k_lt_r {o ci : Nat} {fs : List (Option Nat)} (h : k_SH o = .inr (ci, fs)) (hc : ci < 99) : o < k_NC := by
  rcases Nat.lt_or_ge o k_NC with q | q
  · exact q
  · rw [k_SH, List.getD_eq_getElem?_getD, List.getElem?_eq_none (by rw [k_len]; exact q)] at h
    injection h with h
    injection h with h1 h2
    omega
def k_mrow (σ : k_Mem) (k : Nat) (f : Nat → Int32) : k_Mem := fun a => if a = k then f else σ a
def k_mset (σ : k_Mem) (k i : Nat) (v : Int32) : k_Mem := k_mrow σ k (upd (σ k) i v)
def k_fl (ad : Nat → Nat) (f : Nat → Int32) : Nat → List (Option Nat) → List Value
  | _, [] => []
  | j, none :: r => .int (f j) :: k_fl ad f (j + 1) r
  | j, some q :: r => .ref (ad q) :: k_fl ad f (j + 1) r
/-- the classes of arrays; the addresses; the objects' classes and slots; the texts' addresses, their rows' -/
abbrev k_EV : Type := (FieldType → ClassId) × (Nat → Nat) × va_G × (Nat → Nat) × (Nat → Nat)
def k_cell (E : k_EV) (σ : k_Mem) (k : Nat) : va_E := match k_SH k with
  | .inl (ty, n, none) => .inl (E.1 ty, n, .inl (σ k))
  | .inl (ty, n, some g) => .inl (E.1 ty, n, .inr (.inr (.inr (.inr (fun i => some (E.2.1 (g i)))))))
  | .inr (ci, fs) => .inr (ci, k_fl E.2.1 (σ k) 0 fs)
def k_lay (E : k_EV) (σ : k_Mem) : va_W := (List.range k_NC).map (fun k => (E.2.1 k, k_cell E σ k))
theorem k_lay_at {E : k_EV} {σ : k_Mem} {k : Nat} (h : k < k_NC) : (k_lay E σ)[k]? = some (E.2.1 k, k_cell E σ k) := by
  rw [k_lay, List.getElem?_map, List.getElem?_range h]; rfl
theorem k_lay_in {E : k_EV} {σ : k_Mem} {k : Nat} {q : Nat × va_E} (h : (k_lay E σ)[k]? = some q) : k < k_NC ∧ q = (E.2.1 k, k_cell E σ k) := by
  have hk : k < k_NC := by
    have := (List.getElem?_eq_some_iff.mp h).1
    simpa [k_lay] using this
  rw [k_lay_at hk] at h
  exact ⟨hk, (Option.some.inj h).symm⟩
theorem k_row_self (σ : k_Mem) (k : Nat) (f : Nat → Int32) : k_mrow σ k f k = f := by simp [k_mrow]
theorem k_row_ne (σ : k_Mem) {k a : Nat} (f : Nat → Int32) (h : a ≠ k) : k_mrow σ k f a = σ a := by simp [k_mrow, h]
theorem k_cell_ne {E : k_EV} (σ : k_Mem) {k a : Nat} (f : Nat → Int32) (h : a ≠ k) : k_cell E (k_mrow σ k f) a = k_cell E σ a := by
  simp only [k_cell, k_row_ne σ f h]
theorem k_lay_set {E : k_EV} {σ : k_Mem} {k : Nat} (f : Nat → Int32) : (k_lay E σ).set k (E.2.1 k, k_cell E (k_mrow σ k f) k) = k_lay E (k_mrow σ k f) := by
  apply List.ext_getElem?
  intro j
  by_cases hj : j < k_NC
  · rw [k_lay_at hj, List.getElem?_set]
    by_cases hk : k = j
    · subst hk
      rw [if_pos rfl, if_pos (by simpa [k_lay] using hj)]
    · rw [if_neg hk, k_lay_at hj, k_cell_ne σ f (fun h => hk h.symm)]
  · rw [List.getElem?_eq_none (by simpa [k_lay] using hj), List.getElem?_eq_none (by simpa [k_lay] using hj)]
theorem k_fl_at {ad : Nat → Nat} {f : Nat → Int32} : ∀ (fs : List (Option Nat)) (j k : Nat), (k_fl ad f j fs)[k]? = (fs[k]?).map (fun x => match x with | none => .int (f (j + k)) | some q => .ref (ad q))
  | [], j, k => by simp [k_fl]
  | none :: r, j, 0 => by simp [k_fl]
  | some q :: r, j, 0 => by simp [k_fl]
  | none :: r, j, k + 1 => by
    rw [k_fl, List.getElem?_cons_succ, List.getElem?_cons_succ, k_fl_at r (j + 1) k, Nat.add_right_comm, Nat.add_assoc]
  | some q :: r, j, k + 1 => by
    rw [k_fl, List.getElem?_cons_succ, List.getElem?_cons_succ, k_fl_at r (j + 1) k, Nat.add_right_comm, Nat.add_assoc]
theorem k_fl_set {ad : Nat → Nat} {f : Nat → Int32} {fs : List (Option Nat)} {k : Nat} {v : Int32} (h : fs[k]? = some none) : (k_fl ad f 0 fs).set k (.int v) = k_fl ad (upd f k v) 0 fs := by
  apply List.ext_getElem?
  intro j
  have hl : ∀ (g : Nat → Int32) (fs : List (Option Nat)) (i : Nat), (k_fl ad g i fs).length = fs.length := by
    intro g fs
    induction fs with
    | nil => intro i; rfl
    | cons a r ih => intro i; cases a <;> simp [k_fl, ih]
  rw [List.getElem?_set]
  by_cases hj : k = j
  · subst hj
    rw [if_pos rfl, if_pos (by rw [hl]; exact (List.getElem?_eq_some_iff.mp h).1), k_fl_at, h]
    simp [upd]
  · rw [if_neg hj, k_fl_at, k_fl_at]
    cases hq : fs[j]? with
    | none => rfl
    | some x => cases x with
      | none => simp [upd, Ne.symm hj]
      | some q => rfl
theorem k_fl_len {ad : Nat → Nat} {f : Nat → Int32} : ∀ (fs : List (Option Nat)) (i : Nat), (k_fl ad f i fs).length = fs.length
  | [], i => rfl
  | none :: r, i => by simp [k_fl, k_fl_len r (i + 1)]
  | some q :: r, i => by simp [k_fl, k_fl_len r (i + 1)]
def k_inj (E : k_EV) : Prop := ∀ i j, i < k_NC → j < k_NC → E.2.1 i = E.2.1 j → i = j
def k_AA (E : k_EV) (sz : Nat) : Nat → Prop := fun q => (∃ k, k < k_NC ∧ q = E.2.1 k) ∨ sz ≤ q
theorem k_D {E : k_EV} (h : k_inj E) (σ : k_Mem) (sz : Nat) : va_D (k_AA E sz) (k_lay E σ) := by
  refine ⟨fun i j p q hp hq e => ?_, fun k q hk => ?_⟩
  · obtain ⟨h1, rfl⟩ := k_lay_in hp
    obtain ⟨h2, rfl⟩ := k_lay_in hq
    exact h i j h1 h2 e
  · obtain ⟨h1, rfl⟩ := k_lay_in hk
    exact Or.inl ⟨k, h1, rfl⟩
def k_tys (E : k_EV) : List (ClassId × FieldType) := [(E.1 .int, .int), (E.1 .byte, .byte), (E.1 .boolean, .boolean), (E.1 (.object "HandMarket$Sheet"), .object "HandMarket$Sheet")]
def k_slen : List Nat := [5, 6, 4, 8, 4, 5, 3, 3, 4, 3]
def k_sbyt : List (List Int32) := [[112, 108, 97, 105, 110], [116, 97, 117, 103, 104, 116], [118, 97, 105, 110], [116, 114, 101, 109, 98, 108, 101, 114], [108, 101, 102, 116], [114, 105, 103, 104, 116], [112, 101, 110], [114, 117, 110], [102, 111, 108, 100], [119, 101, 100]]
def k_spool : List (Nat × String × Nat) := [(100, "plain", 0), (102, "taught", 1), (104, "vain", 2), (106, "trembler", 3), (111, "left", 4), (113, "right", 5), (73, "pen", 6), (82, "run", 7), (87, "fold", 8), (92, "wed", 9)]
/-- the texts that the class speaks of, and how the machine writes them -/
def k_XS (E : k_EV) (A : Nat → Prop) (U : State) (H : Heap) : Prop := vk_S 10 k_slen k_sbyt E.2.2.2.1 E.2.2.2.2 A U H ∧ va_Z "java/lang/String" "COMPACT_STRINGS" "Z" (.int 1) A U H ∧ ∀ q ∈ k_spool, vk_R RX1 q.1 q.2.1 (E.2.2.2.1 q.2.2) U
theorem k_XS.warm {E : k_EV} {A : Nat → Prop} {s U : State} {H : Heap} (hW : s.WarmedH U.vm) (h : k_XS E A s H) : k_XS E A U H := ⟨h.1.moved hW.alike, h.2.1.moved hW.alike, fun q hq => (h.2.2 q hq).warm hW⟩
theorem k_XS.same {E : k_EV} {A : Nat → Prop} {s U : State} {H : Heap} (hv : U.vm = s.vm) (h : k_XS E A s H) : k_XS E A U H := ⟨h.1.moved (by rw [hv]; exact Vm.Alike.refl s.vm), h.2.1.moved (by rw [hv]; exact Vm.Alike.refl s.vm), fun q hq => (h.2.2 q hq).same hv⟩
theorem k_XS.kept {E : k_EV} {A : Nat → Prop} {U : State} {H H1 : Heap} (h : k_XS E A U H) (hq : ∀ a : Nat, a < H.size → ¬ A a → H1[a]? = H[a]?) : k_XS E A U H1 := ⟨h.1.kept hq, h.2.1.kept hq, h.2.2⟩
theorem k_XS.narrow {E : k_EV} {A B : Nat → Prop} {U : State} {H : Heap} (h : k_XS E A U H) (hAB : ∀ q, B q → A q) : k_XS E B U H := ⟨h.1.narrow hAB, h.2.1.narrow hAB, h.2.2⟩
/-- the words that stay -/
def k_tbl : List Cond := lw_tbl.filter goodWord
theorem k_mem {w : Cond} (i : Nat) (h : lw_tbl[i]? = some w) (hg : goodWord w = true) : w ∈ k_tbl := List.mem_filter.mpr ⟨List.mem_of_getElem? h, hg⟩
/-- a method: its name, code, places, what it returns; its height in the calls -/
abbrev k_MI : Type := MethodName × ByteArray × Nat × Option FieldType × Nat
def k_ws (M : k_MI) : List Cond := .code M.1 M.2.1 M.2.2.1 M.2.2.2.1 :: k_tbl
def k_rm (d : Nat) : Room := { frames := d, cells := 0, slots := 0, locals := 36 * d }
def k_QG (E : k_EV) (sz : Nat) (r : Option Value) (σ' : k_Mem) : Array Value → State → Outcome → State → Prop := fun _ st o t => o = .returned r ∧ va_P E.2.2.1 vwCl (k_lay E σ') t.heap ∧ va_F (k_AA E sz) st t
/-- what stands still while a method runs -/
def k_Fx (M : k_MI) (E : k_EV) (p : Program) (s : State) (m : MethodId) (args : Array Value) (meth : Method) (c : Code) : Prop :=
  p.tables.exec = Jvm.exec ∧ c.code = M.2.1 ∧ meth.sig.returnType = M.2.2.2.1 ∧ c.maxLocals = M.2.2.1 ∧ s.vm.findClass M.1.cls = some m.cls ∧ (∀ w ∈ k_ws M, w.before args s = true) ∧ va_K E.2.2.1 vwCl (k_tys E) s ∧ k_inj E ∧ k_XS E (k_AA E s.heap.size) s s.heap ∧ meth.locks = false
def k_G (M : k_MI) (E : k_EV) (pc : Nat) (lv : List (Nat × Value)) (st : List Value) (σ : k_Mem) (r : Option Value) (σ' : k_Mem) : Prop :=
  ∀ (p : Program) (l : Launch) (e : Env) (s : State) (m : MethodId) (args : Array Value) (below : List Frame) (meth : Method) (c : Code), k_Fx M E p s m args meth c →
    ∀ (H : Heap) (locs : List Loc) (ls : Array Slot), va_P E.2.2.1 vwCl (k_lay E σ) H → va_S (k_AA E s.heap.size) s.heap H locs → lv_has ls M.2.2.1 lv →
      W p l e (k_rm M.2.2.2.2) s m args below meth c H locs 0 0 (MQ below (k_QG E s.heap.size r σ') args s 0 0 (k_AA E s.heap.size)) (F0 m pc ls st)
/-- from here on the method does as X says, wherever X says anything -/
def k_GO {ρ : Type} (M : k_MI) (E : k_EV) (em : ρ → Option Value) (pc : Nat) (lv : List (Nat × Value)) (st : List Value) (σ : k_Mem) (X : Option (ρ × k_Mem)) : Prop :=
  ∀ (r : ρ) (σ' : k_Mem), X = some (r, σ') → k_G M E pc lv st σ (em r) σ'
/-- the contract: with these arguments and this memory the method does as X says -/
def k_MC {ρ : Type} (M : k_MI) (E : k_EV) (em : ρ → Option Value) (as : List Value) (σ : k_Mem) (X : Option (ρ × k_Mem)) : Prop :=
  ∀ (r : ρ) (σ' : k_Mem), X = some (r, σ') → ∀ (l : Launch) (sz : Nat), Met l M.1 (k_ws M) (k_rm M.2.2.2.2) (va_Pc as (fun U => U.heap.size = sz ∧ va_P E.2.2.1 vwCl (k_lay E σ) U.heap ∧ va_K E.2.2.1 vwCl (k_tys E) U ∧ k_inj E ∧ k_XS E (k_AA E sz) U U.heap)) (k_QG E sz (em r) σ') 0 0 (k_AA E sz)
abbrev k_rf (E : k_EV) (k : Nat) : Value := .ref (E.2.1 k)
abbrev k_rs (E : k_EV) (k : Nat) : Value := .ref (E.2.2.2.1 k)
theorem k_MC_of {ρ : Type} {M : k_MI} {E : k_EV} {em : ρ → Option Value} {as : List Value} {σ : k_Mem} {X : Option (ρ × k_Mem)} (hy : plainName M.1.cls = true) (hn : (lg_sl as).length ≤ M.2.2.1)
    (h : k_GO M E em 0 (lv_args 0 as) [] σ X) : k_MC M E em as σ X := by
  intro r σ' hX l sz
  refine Met.ofW (cc := M.2.1) (maxL := M.2.2.1) (ret := M.2.2.2.1) hy rfl ?_
  intro p e s m args below meth c s₁ B hml hv
  obtain ⟨rfl, hsz, hP, hK, hinj, hXS⟩ := hv
  subst hsz
  have hl := lv_entry as (n := M.2.2.1) hn
  rw [lg_entry_eq]
  exact h r σ' hX p l e s m _ below meth c ⟨B.exec, B.bytes, B.returns, hml, findClass_of_methodNamed B.named, atoms_spec (ws := k_ws M) B.pre, hK, hinj, hXS, B.notSynchronized⟩ s.heap [] _ hP va_S.rf hl
end
section
/-! THE RULES: an instruction each; X is what the method does from there on -/
def k_in (i : Int32) (n : Nat) : Bool := !(decide (i < 0)) && decide (i.toNatClampNeg < n)
abbrev k_n (i : Int32) : Nat := i.toNatClampNeg
theorem k_in_iff {i : Int32} {n : Nat} : k_in i n = true ↔ vp_in i n := by
  simp only [k_in, vp_in, Bool.and_eq_true, Bool.not_eq_true', decide_eq_false_iff_not, decide_eq_true_eq, not_or, Nat.not_le]
def k_shl (x y : Int32) : Int32 := x <<< (y &&& 31)
def k_shr (x y : Int32) : Int32 := x >>> (y &&& 31)
def k_ushr (x y : Int32) : Int32 := (x.toUInt32 >>> (y.toUInt32 &&& Int32.toUInt32 31)).toInt32
def k_rem (x y : Int32) : Int32 := x - x / y * y
def k_lrem (x y : Int64) : Int64 := x - x / y * y
def k_vi : Int32 → Option Value := fun r => some (.int r)
def k_vl : Int64 → Option Value := fun r => some (.long r)
def k_vv : Unit → Option Value := fun _ => none
def k_vr (E : k_EV) : Nat → Option Value := fun k => some (k_rf E k)
theorem k_good : k_tbl.all goodWord = true := List.all_eq_true.mpr (fun _ h => (List.mem_filter.mp h).2)
/-- the words of a method that is called, of a call, of a field -/
def k_CW (N : k_MI) (n : Nat) : Prop := Cond.code N.1 N.2.1 N.2.2.1 N.2.2.2.1 ∈ k_tbl ∧ Cond.initialized N.1.cls ∈ k_tbl ∧ (N.1.cls ≠ "java/lang/invoke/MethodHandle" ∧ N.1.cls ≠ "java/lang/invoke/VarHandle" ∧ (parseMethodDescriptor N.1.desc).map (fun d => d.parameters.length) = some n)
def k_VW (N : k_MI) : Prop := Cond.instanceMethod N.1 ∈ k_tbl ∧ Cond.selects N.1.cls N.1 N.1 ∈ k_tbl
def k_rk (M N : k_MI) : Bool := decide (N.2.2.2.2 + 1 ≤ M.2.2.2.2) && decide (8 + (N.2.2.1 + 11) + 36 * N.2.2.2.2 ≤ 36 * M.2.2.2.2)
def k_FL (own : String) (idx ci k : Nat) : Prop := ∃ (C : String) (T : u_T) (N : Nat), vwCl[ci]? = some (C, T, N) ∧ k < N ∧ (∀ w ∈ u_ws C T N, w ∈ k_tbl) ∧ Cond.fieldLink own idx (T k).1 (T k).2.1 (T k).2.2.1 ∈ k_tbl
def k_FP (own : String) (idx ci k : Nat) : Prop := ∃ (C : String) (T : u_T) (N : Nat) (ty0 : Nat → FieldType), vwCl[ci]? = some (C, T, N) ∧ k < N ∧ (∀ w ∈ u_ws C T N, w ∈ k_tbl) ∧ Cond.fieldLink own idx (T k).1 (T k).2.1 (T k).2.2.1 ∈ k_tbl ∧ (∀ k, k < N → parseFieldDescriptor (T k).2.2.1 = some (ty0 k)) ∧ (∀ a, a < N → ∀ b, b < N → a ≠ b → (T a).2.1 ≠ (T b).2.1) ∧ (T k).2.2.2 = false ∧ parseFieldDescriptor (T k).2.2.1 = some .int
section RULES
variable {ρ : Type} {M : k_MI} {E : k_EV} {em : ρ → Option Value} {pc : Nat} {lv : List (Nat × Value)} {st : List Value} {σ : k_Mem} {X A B : Option (ρ × k_Mem)}
theorem k_wt {s : State} {m : MethodId} {p : Program} {args : Array Value} {meth : Method} {c : Code} (F : k_Fx M E p s m args meth c) {w : Cond} (h : w ∈ k_tbl) : w.before args s = true := F.2.2.2.2.2.1 w (List.mem_cons_of_mem _ h)
theorem r_sub {lv' : List (Nat × Value)} (ks : List Nat) (h : lv_pick lv ks = lv') (k : k_GO M E em pc lv' st σ X) : k_GO M E em pc lv st σ X := by
  intro r σ' hX p l e s m args below meth c F H locs ls hP hS hl
  exact k r σ' hX p l e s m args below meth c F H locs ls hP hS (lv_sub hl ks h)
theorem r_none : k_GO M E em pc lv st σ none := fun r σ' hX => by cases hX
theorem r_grd {P : Prop} [Decidable P] (k : P → k_GO M E em pc lv st σ A) : k_GO M E em pc lv st σ (if P then A else none) := by
  intro r σ' hX
  by_cases h : P
  · rw [if_pos h] at hX
    exact k h r σ' hX
  · rw [if_neg h] at hX
    cases hX
theorem r_split {P : Prop} [Decidable P] (kt : P → k_GO M E em pc lv st σ A) (kf : ¬ P → k_GO M E em pc lv st σ B) : k_GO M E em pc lv st σ (if P then A else B) := by
  intro r σ' hX
  by_cases h : P
  · rw [if_pos h] at hX
    exact kt h r σ' hX
  · rw [if_neg h] at hX
    exact kf h r σ' hX

theorem r_iconst {n : Int} (v : Int32) (hv : Int32.ofInt n = v) (q : Nat) (hq : pc + 1 = q) (d : decode M.2.1 pc = .ok (.iconst n, 1)) (k : k_GO M E em q lv (.int v :: st) σ X) : k_GO M E em pc lv st σ X := by
  intro r σ' hX p l e s m args below meth c F H locs ls hP hS hl
  subst hq
  exact lv_iconst F.1 F.2.1 d hv (k r σ' hX p l e s m args below meth c F H locs ls hP hS hl)
theorem r_bipush {n : Int} (v : Int32) (hv : (Int8.ofInt n).toInt32 = v) (q : Nat) (hq : pc + 2 = q) (d : decode M.2.1 pc = .ok (.bipush n, 2)) (k : k_GO M E em q lv (.int v :: st) σ X) : k_GO M E em pc lv st σ X := by
  intro r σ' hX p l e s m args below meth c F H locs ls hP hS hl
  subst hq
  exact lv_bipush F.1 F.2.1 d hv (k r σ' hX p l e s m args below meth c F H locs ls hP hS hl)
theorem r_sipush {n : Int} (v : Int32) (hv : (Int16.ofInt n).toInt32 = v) (q : Nat) (hq : pc + 3 = q) (d : decode M.2.1 pc = .ok (.sipush n, 3)) (k : k_GO M E em q lv (.int v :: st) σ X) : k_GO M E em pc lv st σ X := by
  intro r σ' hX p l e s m args below meth c F H locs ls hP hS hl
  subst hq
  exact lv_sipush F.1 F.2.1 d hv (k r σ' hX p l e s m args below meth c F H locs ls hP hS hl)
theorem r_lconst {n : Fin 2} (v : Int64) (hv : Int64.ofNat (n : Nat) = v) (q : Nat) (hq : pc + 1 = q) (d : decode M.2.1 pc = .ok (.lconst n, 1)) (k : k_GO M E em q lv (.long v :: st) σ X) : k_GO M E em pc lv st σ X := by
  intro r σ' hX p l e s m args below meth c F H locs ls hP hS hl
  subst hq
  exact lv_lconst F.1 F.2.1 d hv (k r σ' hX p l e s m args below meth c F H locs ls hP hS hl)
theorem r_ldc {i : Nat} {v : Int32} (h : Cond.constant M.1.cls i v ∈ k_tbl) (q : Nat) (hq : pc + 2 = q) (d : decode M.2.1 pc = .ok (.ldc i, 2)) (k : k_GO M E em q lv (.int v :: st) σ X) : k_GO M E em pc lv st σ X := by
  intro r σ' hX p l e s m args below meth c F H locs ls hP hS hl
  subst hq
  exact lv_ldc F.1 F.2.1 F.2.2.2.2.1 (k_wt F h) d (k r σ' hX p l e s m args below meth c F H locs ls hP hS hl)
theorem r_ldcw {i : Nat} {v : Int32} (h : Cond.constant M.1.cls i v ∈ k_tbl) (q : Nat) (hq : pc + 3 = q) (d : decode M.2.1 pc = .ok (.ldc_w i, 3)) (k : k_GO M E em q lv (.int v :: st) σ X) : k_GO M E em pc lv st σ X := by
  intro r σ' hX p l e s m args below meth c F H locs ls hP hS hl
  subst hq
  exact lv_ldcw F.1 F.2.1 F.2.2.2.2.1 (k_wt F h) d (k r σ' hX p l e s m args below meth c F H locs ls hP hS hl)
theorem r_ldc2 {i : Nat} {v : Int64} (h : Cond.constantLong M.1.cls i v ∈ k_tbl) (q : Nat) (hq : pc + 3 = q) (d : decode M.2.1 pc = .ok (.ldc2_w i, 3)) (k : k_GO M E em q lv (.long v :: st) σ X) : k_GO M E em pc lv st σ X := by
  intro r σ' hX p l e s m args below meth c F H locs ls hP hS hl
  subst hq
  exact lv_ldc2 F.1 F.2.1 F.2.2.2.2.1 (k_wt F h) d (k r σ' hX p l e s m args below meth c F H locs ls hP hS hl)
theorem r_ldcs {j : Nat} {tx : String} (i : Nat) (h : (j, tx, i) ∈ k_spool) (hc : M.1.cls = RX1) (q : Nat) (hq : pc + 2 = q) (d : decode M.2.1 pc = .ok (.ldc j, 2)) (k : k_GO M E em q lv (k_rs E i :: st) σ X) : k_GO M E em pc lv st σ X := by
  intro r σ' hX p l e s m args below meth c F H locs ls hP hS hl
  subst hq
  exact va_ldcS F.1 F.2.1 F.2.2.2.2.1 (by rw [hc]; exact F.2.2.2.2.2.2.2.2.1.2.2 _ h) d (k r σ' hX p l e s m args below meth c F H locs ls hP hS hl)
theorem r_iload_n {f : Fin 4} {i : Nat} {x : Int32} (j : Nat) (hj : lv[j]? = some (i, .int x)) (hi : (f : Nat) = i) (q : Nat) (hq : pc + 1 = q) (d : decode M.2.1 pc = .ok (.iload_n f, 1)) (k : k_GO M E em q lv (.int x :: st) σ X) : k_GO M E em pc lv st σ X := by
  intro r σ' hX p l e s m args below meth c F H locs ls hP hS hl
  subst hq
  exact lv_iload_n F.1 F.2.1 d hi (lv_at hl j hj) (k r σ' hX p l e s m args below meth c F H locs ls hP hS hl)
theorem r_iload {i : Nat} {x : Int32} (j : Nat) (hj : lv[j]? = some (i, .int x)) (q : Nat) (hq : pc + 2 = q) (d : decode M.2.1 pc = .ok (.iload i, 2)) (k : k_GO M E em q lv (.int x :: st) σ X) : k_GO M E em pc lv st σ X := by
  intro r σ' hX p l e s m args below meth c F H locs ls hP hS hl
  subst hq
  exact lv_iload F.1 F.2.1 d (lv_at hl j hj) (k r σ' hX p l e s m args below meth c F H locs ls hP hS hl)
theorem r_lload_n {f : Fin 4} {i : Nat} {x : Int64} (j : Nat) (hj : lv[j]? = some (i, .long x)) (hi : (f : Nat) = i) (q : Nat) (hq : pc + 1 = q) (d : decode M.2.1 pc = .ok (.lload_n f, 1)) (k : k_GO M E em q lv (.long x :: st) σ X) : k_GO M E em pc lv st σ X := by
  intro r σ' hX p l e s m args below meth c F H locs ls hP hS hl
  subst hq
  exact lv_lload_n F.1 F.2.1 d hi (lv_at hl j hj) (k r σ' hX p l e s m args below meth c F H locs ls hP hS hl)
theorem r_lload {i : Nat} {x : Int64} (j : Nat) (hj : lv[j]? = some (i, .long x)) (q : Nat) (hq : pc + 2 = q) (d : decode M.2.1 pc = .ok (.lload i, 2)) (k : k_GO M E em q lv (.long x :: st) σ X) : k_GO M E em pc lv st σ X := by
  intro r σ' hX p l e s m args below meth c F H locs ls hP hS hl
  subst hq
  exact lv_lload F.1 F.2.1 d (lv_at hl j hj) (k r σ' hX p l e s m args below meth c F H locs ls hP hS hl)
theorem r_aload_n {f : Fin 4} {i : Nat} {x : Nat} (j : Nat) (hj : lv[j]? = some (i, .ref x)) (hi : (f : Nat) = i) (q : Nat) (hq : pc + 1 = q) (d : decode M.2.1 pc = .ok (.aload_n f, 1)) (k : k_GO M E em q lv (.ref x :: st) σ X) : k_GO M E em pc lv st σ X := by
  intro r σ' hX p l e s m args below meth c F H locs ls hP hS hl
  subst hq
  exact lv_aload_n F.1 F.2.1 d hi (lv_at hl j hj) (k r σ' hX p l e s m args below meth c F H locs ls hP hS hl)
theorem r_aload {i : Nat} {x : Nat} (j : Nat) (hj : lv[j]? = some (i, .ref x)) (q : Nat) (hq : pc + 2 = q) (d : decode M.2.1 pc = .ok (.aload i, 2)) (k : k_GO M E em q lv (.ref x :: st) σ X) : k_GO M E em pc lv st σ X := by
  intro r σ' hX p l e s m args below meth c F H locs ls hP hS hl
  subst hq
  exact lv_aload F.1 F.2.1 d (lv_at hl j hj) (k r σ' hX p l e s m args below meth c F H locs ls hP hS hl)
theorem r_istore_n {f : Fin 4} {i : Nat} {x : Int32} (lv' : List (Nat × Value)) (hl' : (i, Value.int x) :: lv.filter (fun q => !(q.1 == i) && !(q.1 + 1 == i && q.2.category == 2)) = lv') (hi : (f : Nat) = i) (hn : i < M.2.2.1) (q : Nat) (hq : pc + 1 = q) (d : decode M.2.1 pc = .ok (.istore_n f, 1)) (k : k_GO M E em q lv' st σ X) : k_GO M E em pc lv (.int x :: st) σ X := by
  intro r σ' hX p l e s m args below meth c F H locs ls hP hS hl
  subst hq
  exact lv_istore_n F.1 F.2.1 d hi hl hn hl' (fun ls hl => k r σ' hX p l e s m args below meth c F H locs ls hP hS hl)
theorem r_istore {i : Nat} {x : Int32} (lv' : List (Nat × Value)) (hl' : (i, Value.int x) :: lv.filter (fun q => !(q.1 == i) && !(q.1 + 1 == i && q.2.category == 2)) = lv') (hn : i < M.2.2.1) (q : Nat) (hq : pc + 2 = q) (d : decode M.2.1 pc = .ok (.istore i, 2)) (k : k_GO M E em q lv' st σ X) : k_GO M E em pc lv (.int x :: st) σ X := by
  intro r σ' hX p l e s m args below meth c F H locs ls hP hS hl
  subst hq
  exact lv_istore F.1 F.2.1 d hl hn hl' (fun ls hl => k r σ' hX p l e s m args below meth c F H locs ls hP hS hl)
theorem r_lstore_n {f : Fin 4} {i : Nat} {x : Int64} (lv' : List (Nat × Value)) (hl' : (i, Value.long x) :: lv.filter (fun q => !(q.1 == i) && (!(q.1 == i + 1) && !(q.1 + 1 == i && q.2.category == 2))) = lv') (hi : (f : Nat) = i) (hn : i + 1 < M.2.2.1) (q : Nat) (hq : pc + 1 = q) (d : decode M.2.1 pc = .ok (.lstore_n f, 1)) (k : k_GO M E em q lv' st σ X) : k_GO M E em pc lv (.long x :: st) σ X := by
  intro r σ' hX p l e s m args below meth c F H locs ls hP hS hl
  subst hq
  exact lv_lstore_n F.1 F.2.1 d hi hl hn hl' (fun ls hl => k r σ' hX p l e s m args below meth c F H locs ls hP hS hl)
theorem r_lstore {i : Nat} {x : Int64} (lv' : List (Nat × Value)) (hl' : (i, Value.long x) :: lv.filter (fun q => !(q.1 == i) && (!(q.1 == i + 1) && !(q.1 + 1 == i && q.2.category == 2))) = lv') (hn : i + 1 < M.2.2.1) (q : Nat) (hq : pc + 2 = q) (d : decode M.2.1 pc = .ok (.lstore i, 2)) (k : k_GO M E em q lv' st σ X) : k_GO M E em pc lv (.long x :: st) σ X := by
  intro r σ' hX p l e s m args below meth c F H locs ls hP hS hl
  subst hq
  exact lv_lstore F.1 F.2.1 d hl hn hl' (fun ls hl => k r σ' hX p l e s m args below meth c F H locs ls hP hS hl)
theorem r_astore_n {f : Fin 4} {i : Nat} {x : Nat} (lv' : List (Nat × Value)) (hl' : (i, Value.ref x) :: lv.filter (fun q => !(q.1 == i) && !(q.1 + 1 == i && q.2.category == 2)) = lv') (hi : (f : Nat) = i) (hn : i < M.2.2.1) (q : Nat) (hq : pc + 1 = q) (d : decode M.2.1 pc = .ok (.astore_n f, 1)) (k : k_GO M E em q lv' st σ X) : k_GO M E em pc lv (.ref x :: st) σ X := by
  intro r σ' hX p l e s m args below meth c F H locs ls hP hS hl
  subst hq
  exact lv_astore_n F.1 F.2.1 d hi hl hn hl' (fun ls hl => k r σ' hX p l e s m args below meth c F H locs ls hP hS hl)
theorem r_astore {i : Nat} {x : Nat} (lv' : List (Nat × Value)) (hl' : (i, Value.ref x) :: lv.filter (fun q => !(q.1 == i) && !(q.1 + 1 == i && q.2.category == 2)) = lv') (hn : i < M.2.2.1) (q : Nat) (hq : pc + 2 = q) (d : decode M.2.1 pc = .ok (.astore i, 2)) (k : k_GO M E em q lv' st σ X) : k_GO M E em pc lv (.ref x :: st) σ X := by
  intro r σ' hX p l e s m args below meth c F H locs ls hP hS hl
  subst hq
  exact lv_astore F.1 F.2.1 d hl hn hl' (fun ls hl => k r σ' hX p l e s m args below meth c F H locs ls hP hS hl)
theorem r_iinc {i : Nat} {n : Int} {x : Int32} (v : Int32) (hv : Int32.ofInt n = v) (j : Nat) (hj : lv[j]? = some (i, .int x)) (lv' : List (Nat × Value)) (hl' : (i, Value.int (x + v)) :: lv.filter (fun q => !(q.1 == i) && !(q.1 + 1 == i && q.2.category == 2)) = lv') (hn : i < M.2.2.1) (q : Nat) (hq : pc + 3 = q) (d : decode M.2.1 pc = .ok (.iinc i n, 3)) (k : k_GO M E em q lv' st σ X) : k_GO M E em pc lv st σ X := by
  intro r σ' hX p l e s m args below meth c F H locs ls hP hS hl
  subst hq
  exact lv_iinc F.1 F.2.1 d hl hj (by rw [hv]) hn hl' (fun ls hl => k r σ' hX p l e s m args below meth c F H locs ls hP hS hl)
theorem r_iadd {x y : Int32} (q : Nat) (hq : pc + 1 = q) (d : decode M.2.1 pc = .ok (.iadd, 1)) (k : k_GO M E em q lv (.int (x + y) :: st) σ X) : k_GO M E em pc lv (.int y :: .int x :: st) σ X := by
  intro r σ' hX p l e s m args below meth c F H locs ls hP hS hl
  subst hq
  exact lv_iadd F.1 F.2.1 d (k r σ' hX p l e s m args below meth c F H locs ls hP hS hl)
theorem r_isub {x y : Int32} (q : Nat) (hq : pc + 1 = q) (d : decode M.2.1 pc = .ok (.isub, 1)) (k : k_GO M E em q lv (.int (x - y) :: st) σ X) : k_GO M E em pc lv (.int y :: .int x :: st) σ X := by
  intro r σ' hX p l e s m args below meth c F H locs ls hP hS hl
  subst hq
  exact lv_isub F.1 F.2.1 d (k r σ' hX p l e s m args below meth c F H locs ls hP hS hl)
theorem r_imul {x y : Int32} (q : Nat) (hq : pc + 1 = q) (d : decode M.2.1 pc = .ok (.imul, 1)) (k : k_GO M E em q lv (.int (x * y) :: st) σ X) : k_GO M E em pc lv (.int y :: .int x :: st) σ X := by
  intro r σ' hX p l e s m args below meth c F H locs ls hP hS hl
  subst hq
  exact lv_imul F.1 F.2.1 d (k r σ' hX p l e s m args below meth c F H locs ls hP hS hl)
theorem r_iand {x y : Int32} (q : Nat) (hq : pc + 1 = q) (d : decode M.2.1 pc = .ok (.iand, 1)) (k : k_GO M E em q lv (.int (x &&& y) :: st) σ X) : k_GO M E em pc lv (.int y :: .int x :: st) σ X := by
  intro r σ' hX p l e s m args below meth c F H locs ls hP hS hl
  subst hq
  exact lv_iand F.1 F.2.1 d (k r σ' hX p l e s m args below meth c F H locs ls hP hS hl)
theorem r_ior {x y : Int32} (q : Nat) (hq : pc + 1 = q) (d : decode M.2.1 pc = .ok (.ior, 1)) (k : k_GO M E em q lv (.int (x ||| y) :: st) σ X) : k_GO M E em pc lv (.int y :: .int x :: st) σ X := by
  intro r σ' hX p l e s m args below meth c F H locs ls hP hS hl
  subst hq
  exact lv_ior F.1 F.2.1 d (k r σ' hX p l e s m args below meth c F H locs ls hP hS hl)
theorem r_ixor {x y : Int32} (q : Nat) (hq : pc + 1 = q) (d : decode M.2.1 pc = .ok (.ixor, 1)) (k : k_GO M E em q lv (.int (x ^^^ y) :: st) σ X) : k_GO M E em pc lv (.int y :: .int x :: st) σ X := by
  intro r σ' hX p l e s m args below meth c F H locs ls hP hS hl
  subst hq
  exact lv_ixor F.1 F.2.1 d (k r σ' hX p l e s m args below meth c F H locs ls hP hS hl)
theorem r_ishl {x y : Int32} (q : Nat) (hq : pc + 1 = q) (d : decode M.2.1 pc = .ok (.ishl, 1)) (k : k_GO M E em q lv (.int (k_shl x y) :: st) σ X) : k_GO M E em pc lv (.int y :: .int x :: st) σ X := by
  intro r σ' hX p l e s m args below meth c F H locs ls hP hS hl
  subst hq
  exact lv_ishl F.1 F.2.1 d (k r σ' hX p l e s m args below meth c F H locs ls hP hS hl)
theorem r_ishr {x y : Int32} (q : Nat) (hq : pc + 1 = q) (d : decode M.2.1 pc = .ok (.ishr, 1)) (k : k_GO M E em q lv (.int (k_shr x y) :: st) σ X) : k_GO M E em pc lv (.int y :: .int x :: st) σ X := by
  intro r σ' hX p l e s m args below meth c F H locs ls hP hS hl
  subst hq
  exact lv_ishr F.1 F.2.1 d (k r σ' hX p l e s m args below meth c F H locs ls hP hS hl)
theorem r_iushr {x y : Int32} (q : Nat) (hq : pc + 1 = q) (d : decode M.2.1 pc = .ok (.iushr, 1)) (k : k_GO M E em q lv (.int (k_ushr x y) :: st) σ X) : k_GO M E em pc lv (.int y :: .int x :: st) σ X := by
  intro r σ' hX p l e s m args below meth c F H locs ls hP hS hl
  subst hq
  exact lv_iushr F.1 F.2.1 d rfl (k r σ' hX p l e s m args below meth c F H locs ls hP hS hl)
theorem r_ineg {x : Int32} (q : Nat) (hq : pc + 1 = q) (d : decode M.2.1 pc = .ok (.ineg, 1)) (k : k_GO M E em q lv (.int (-x) :: st) σ X) : k_GO M E em pc lv (.int x :: st) σ X := by
  intro r σ' hX p l e s m args below meth c F H locs ls hP hS hl
  subst hq
  exact lv_ineg F.1 F.2.1 d (k r σ' hX p l e s m args below meth c F H locs ls hP hS hl)
theorem r_ladd {x y : Int64} (q : Nat) (hq : pc + 1 = q) (d : decode M.2.1 pc = .ok (.ladd, 1)) (k : k_GO M E em q lv (.long (x + y) :: st) σ X) : k_GO M E em pc lv (.long y :: .long x :: st) σ X := by
  intro r σ' hX p l e s m args below meth c F H locs ls hP hS hl
  subst hq
  exact lv_ladd F.1 F.2.1 d (k r σ' hX p l e s m args below meth c F H locs ls hP hS hl)
theorem r_lmul {x y : Int64} (q : Nat) (hq : pc + 1 = q) (d : decode M.2.1 pc = .ok (.lmul, 1)) (k : k_GO M E em q lv (.long (x * y) :: st) σ X) : k_GO M E em pc lv (.long y :: .long x :: st) σ X := by
  intro r σ' hX p l e s m args below meth c F H locs ls hP hS hl
  subst hq
  exact lv_lmul F.1 F.2.1 d (k r σ' hX p l e s m args below meth c F H locs ls hP hS hl)
theorem r_i2l {x : Int32} (q : Nat) (hq : pc + 1 = q) (d : decode M.2.1 pc = .ok (.i2l, 1)) (k : k_GO M E em q lv (.long x.toInt64 :: st) σ X) : k_GO M E em pc lv (.int x :: st) σ X := by
  intro r σ' hX p l e s m args below meth c F H locs ls hP hS hl
  subst hq
  exact lv_i2l F.1 F.2.1 d rfl (k r σ' hX p l e s m args below meth c F H locs ls hP hS hl)
theorem r_i2b {x : Int32} (q : Nat) (hq : pc + 1 = q) (d : decode M.2.1 pc = .ok (.i2b, 1)) (k : k_GO M E em q lv (.int x.toInt8.toInt32 :: st) σ X) : k_GO M E em pc lv (.int x :: st) σ X := by
  intro r σ' hX p l e s m args below meth c F H locs ls hP hS hl
  subst hq
  exact lv_i2b F.1 F.2.1 d rfl (k r σ' hX p l e s m args below meth c F H locs ls hP hS hl)
theorem r_i2s {x : Int32} (q : Nat) (hq : pc + 1 = q) (d : decode M.2.1 pc = .ok (.i2s, 1)) (k : k_GO M E em q lv (.int x.toInt16.toInt32 :: st) σ X) : k_GO M E em pc lv (.int x :: st) σ X := by
  intro r σ' hX p l e s m args below meth c F H locs ls hP hS hl
  subst hq
  exact lv_i2s F.1 F.2.1 d rfl (k r σ' hX p l e s m args below meth c F H locs ls hP hS hl)
theorem r_lcmp {x y : Int64} (q : Nat) (hq : pc + 1 = q) (d : decode M.2.1 pc = .ok (.lcmp, 1)) (k : k_GO M E em q lv (.int (lg_cmp x y) :: st) σ X) : k_GO M E em pc lv (.long y :: .long x :: st) σ X := by
  intro r σ' hX p l e s m args below meth c F H locs ls hP hS hl
  subst hq
  exact W.lcmp F.1 F.2.1 d (k r σ' hX p l e s m args below meth c F H locs ls hP hS hl)
theorem r_dup {v : Value} (q : Nat) (hq : pc + 1 = q) (d : decode M.2.1 pc = .ok (.dup, 1)) (hv : v.category = 1) (k : k_GO M E em q lv (v :: v :: st) σ X) : k_GO M E em pc lv (v :: st) σ X := by
  intro r σ' hX p l e s m args below meth c F H locs ls hP hS hl
  subst hq
  exact lv_dup F.1 F.2.1 d hv (k r σ' hX p l e s m args below meth c F H locs ls hP hS hl)
theorem r_pop {v : Value} (q : Nat) (hq : pc + 1 = q) (d : decode M.2.1 pc = .ok (.pop, 1)) (hv : v.category = 1) (k : k_GO M E em q lv (st) σ X) : k_GO M E em pc lv (v :: st) σ X := by
  intro r σ' hX p l e s m args below meth c F H locs ls hP hS hl
  subst hq
  exact lv_pop F.1 F.2.1 d hv (k r σ' hX p l e s m args below meth c F H locs ls hP hS hl)
theorem r_dup2 {v u : Value} (q : Nat) (hq : pc + 1 = q) (d : decode M.2.1 pc = .ok (.dup2, 1)) (hv : v.category = 1) (hu : u.category = 1) (k : k_GO M E em q lv (v :: u :: v :: u :: st) σ X) : k_GO M E em pc lv (v :: u :: st) σ X := by
  intro r σ' hX p l e s m args below meth c F H locs ls hP hS hl
  subst hq
  exact lv_dup2_11 F.1 F.2.1 d hv hu (k r σ' hX p l e s m args below meth c F H locs ls hP hS hl)
theorem r_idiv {x y : Int32} (hn : ¬ y = 0) (q : Nat) (hq : pc + 1 = q) (d : decode M.2.1 pc = .ok (.idiv, 1)) (k : k_GO M E em q lv (.int (x / y) :: st) σ X) : k_GO M E em pc lv (.int y :: .int x :: st) σ X := by
  intro r σ' hX p l e s m args below meth c F H locs ls hP hS hl
  subst hq
  exact lv_idiv F.1 F.2.1 d hn (k r σ' hX p l e s m args below meth c F H locs ls hP hS hl)
theorem r_irem {x y : Int32} (hn : ¬ y = 0) (q : Nat) (hq : pc + 1 = q) (d : decode M.2.1 pc = .ok (.irem, 1)) (k : k_GO M E em q lv (.int (k_rem x y) :: st) σ X) : k_GO M E em pc lv (.int y :: .int x :: st) σ X := by
  intro r σ' hX p l e s m args below meth c F H locs ls hP hS hl
  subst hq
  exact lv_irem F.1 F.2.1 d hn (k r σ' hX p l e s m args below meth c F H locs ls hP hS hl)
theorem r_ldiv {x y : Int64} (hn : ¬ y = 0) (q : Nat) (hq : pc + 1 = q) (d : decode M.2.1 pc = .ok (.ldiv, 1)) (k : k_GO M E em q lv (.long (x / y) :: st) σ X) : k_GO M E em pc lv (.long y :: .long x :: st) σ X := by
  intro r σ' hX p l e s m args below meth c F H locs ls hP hS hl
  subst hq
  exact lv_ldiv F.1 F.2.1 d hn (k r σ' hX p l e s m args below meth c F H locs ls hP hS hl)
theorem r_lrem {x y : Int64} (hn : ¬ y = 0) (q : Nat) (hq : pc + 1 = q) (d : decode M.2.1 pc = .ok (.lrem, 1)) (k : k_GO M E em q lv (.long (k_lrem x y) :: st) σ X) : k_GO M E em pc lv (.long y :: .long x :: st) σ X := by
  intro r σ' hX p l e s m args below meth c F H locs ls hP hS hl
  subst hq
  exact lv_lrem F.1 F.2.1 d hn (k r σ' hX p l e s m args below meth c F H locs ls hP hS hl)
theorem r_goto {off : Int} (t : Nat) (ht : (pc : Int) + off = (t : Int)) (d : decode M.2.1 pc = .ok (.goto off, 3)) (k : k_GO M E em t lv st σ X) : k_GO M E em pc lv st σ X := by
  intro r σ' hX p l e s m args below meth c F H locs ls hP hS hl
  exact lv_goto F.1 F.2.1 d ht (k r σ' hX p l e s m args below meth c F H locs ls hP hS hl)
theorem r_icmp_eq {x y : Int32} {off : Int} (t q : Nat) (hq : pc + 3 = q) (ht : (pc : Int) + off = (t : Int)) (d : decode M.2.1 pc = .ok (.if_icmp .eq off, 3)) (kt : x = y → k_GO M E em t lv st σ A) (kf : ¬ x = y → k_GO M E em q lv st σ B) : k_GO M E em pc lv (.int y :: .int x :: st) σ (if x = y then A else B) := by
  intro r σ' hX p l e s m args below meth c F H locs ls hP hS hl
  subst hq
  refine lv_icmp_eq F.1 F.2.1 d ht (fun h => ?_) (fun h => ?_)
  · rw [if_pos h] at hX
    exact kt h r σ' hX p l e s m args below meth c F H locs ls hP hS hl
  · rw [if_neg h] at hX
    exact kf h r σ' hX p l e s m args below meth c F H locs ls hP hS hl
theorem r_icmp_ne {x y : Int32} {off : Int} (t q : Nat) (hq : pc + 3 = q) (ht : (pc : Int) + off = (t : Int)) (d : decode M.2.1 pc = .ok (.if_icmp .ne off, 3)) (kt : x = y → k_GO M E em q lv st σ A) (kf : ¬ x = y → k_GO M E em t lv st σ B) : k_GO M E em pc lv (.int y :: .int x :: st) σ (if x = y then A else B) := by
  intro r σ' hX p l e s m args below meth c F H locs ls hP hS hl
  subst hq
  refine lv_icmp_ne F.1 F.2.1 d ht (fun h => ?_) (fun h => ?_)
  · rw [if_neg h] at hX
    exact kf h r σ' hX p l e s m args below meth c F H locs ls hP hS hl
  · rw [if_pos h] at hX
    exact kt h r σ' hX p l e s m args below meth c F H locs ls hP hS hl
theorem r_icmp_lt {x y : Int32} {off : Int} (t q : Nat) (hq : pc + 3 = q) (ht : (pc : Int) + off = (t : Int)) (d : decode M.2.1 pc = .ok (.if_icmp .lt off, 3)) (kt : x < y → k_GO M E em t lv st σ A) (kf : ¬ x < y → k_GO M E em q lv st σ B) : k_GO M E em pc lv (.int y :: .int x :: st) σ (if x < y then A else B) := by
  intro r σ' hX p l e s m args below meth c F H locs ls hP hS hl
  subst hq
  refine lv_icmp_lt F.1 F.2.1 d ht (fun h => ?_) (fun h => ?_)
  · rw [if_pos h] at hX
    exact kt h r σ' hX p l e s m args below meth c F H locs ls hP hS hl
  · rw [if_neg h] at hX
    exact kf h r σ' hX p l e s m args below meth c F H locs ls hP hS hl
theorem r_icmp_ge {x y : Int32} {off : Int} (t q : Nat) (hq : pc + 3 = q) (ht : (pc : Int) + off = (t : Int)) (d : decode M.2.1 pc = .ok (.if_icmp .ge off, 3)) (kt : y ≤ x → k_GO M E em t lv st σ A) (kf : ¬ y ≤ x → k_GO M E em q lv st σ B) : k_GO M E em pc lv (.int y :: .int x :: st) σ (if y ≤ x then A else B) := by
  intro r σ' hX p l e s m args below meth c F H locs ls hP hS hl
  subst hq
  refine lv_icmp_ge F.1 F.2.1 d ht (fun h => ?_) (fun h => ?_)
  · rw [if_pos h] at hX
    exact kt h r σ' hX p l e s m args below meth c F H locs ls hP hS hl
  · rw [if_neg h] at hX
    exact kf h r σ' hX p l e s m args below meth c F H locs ls hP hS hl
theorem r_icmp_gt {x y : Int32} {off : Int} (t q : Nat) (hq : pc + 3 = q) (ht : (pc : Int) + off = (t : Int)) (d : decode M.2.1 pc = .ok (.if_icmp .gt off, 3)) (kt : y < x → k_GO M E em t lv st σ A) (kf : ¬ y < x → k_GO M E em q lv st σ B) : k_GO M E em pc lv (.int y :: .int x :: st) σ (if y < x then A else B) := by
  intro r σ' hX p l e s m args below meth c F H locs ls hP hS hl
  subst hq
  refine lv_icmp_gt F.1 F.2.1 d ht (fun h => ?_) (fun h => ?_)
  · rw [if_pos h] at hX
    exact kt h r σ' hX p l e s m args below meth c F H locs ls hP hS hl
  · rw [if_neg h] at hX
    exact kf h r σ' hX p l e s m args below meth c F H locs ls hP hS hl
theorem r_icmp_le {x y : Int32} {off : Int} (t q : Nat) (hq : pc + 3 = q) (ht : (pc : Int) + off = (t : Int)) (d : decode M.2.1 pc = .ok (.if_icmp .le off, 3)) (kt : x ≤ y → k_GO M E em t lv st σ A) (kf : ¬ x ≤ y → k_GO M E em q lv st σ B) : k_GO M E em pc lv (.int y :: .int x :: st) σ (if x ≤ y then A else B) := by
  intro r σ' hX p l e s m args below meth c F H locs ls hP hS hl
  subst hq
  refine lv_icmp_le F.1 F.2.1 d ht (fun h => ?_) (fun h => ?_)
  · rw [if_pos h] at hX
    exact kt h r σ' hX p l e s m args below meth c F H locs ls hP hS hl
  · rw [if_neg h] at hX
    exact kf h r σ' hX p l e s m args below meth c F H locs ls hP hS hl
theorem r_if_eq {x : Int32} {off : Int} (t q : Nat) (hq : pc + 3 = q) (ht : (pc : Int) + off = (t : Int)) (d : decode M.2.1 pc = .ok (.ifCond .eq off, 3)) (kt : x = 0 → k_GO M E em t lv st σ A) (kf : ¬ x = 0 → k_GO M E em q lv st σ B) : k_GO M E em pc lv (.int x :: st) σ (if x = 0 then A else B) := by
  intro r σ' hX p l e s m args below meth c F H locs ls hP hS hl
  subst hq
  refine lv_if_eq F.1 F.2.1 d ht (fun h => ?_) (fun h => ?_)
  · rw [if_pos h] at hX
    exact kt h r σ' hX p l e s m args below meth c F H locs ls hP hS hl
  · rw [if_neg h] at hX
    exact kf h r σ' hX p l e s m args below meth c F H locs ls hP hS hl
theorem r_if_ne {x : Int32} {off : Int} (t q : Nat) (hq : pc + 3 = q) (ht : (pc : Int) + off = (t : Int)) (d : decode M.2.1 pc = .ok (.ifCond .ne off, 3)) (kt : x = 0 → k_GO M E em q lv st σ A) (kf : ¬ x = 0 → k_GO M E em t lv st σ B) : k_GO M E em pc lv (.int x :: st) σ (if x = 0 then A else B) := by
  intro r σ' hX p l e s m args below meth c F H locs ls hP hS hl
  subst hq
  refine lv_if_ne F.1 F.2.1 d ht (fun h => ?_) (fun h => ?_)
  · rw [if_neg h] at hX
    exact kf h r σ' hX p l e s m args below meth c F H locs ls hP hS hl
  · rw [if_pos h] at hX
    exact kt h r σ' hX p l e s m args below meth c F H locs ls hP hS hl
theorem r_if_lt {x : Int32} {off : Int} (t q : Nat) (hq : pc + 3 = q) (ht : (pc : Int) + off = (t : Int)) (d : decode M.2.1 pc = .ok (.ifCond .lt off, 3)) (kt : x < 0 → k_GO M E em t lv st σ A) (kf : ¬ x < 0 → k_GO M E em q lv st σ B) : k_GO M E em pc lv (.int x :: st) σ (if x < 0 then A else B) := by
  intro r σ' hX p l e s m args below meth c F H locs ls hP hS hl
  subst hq
  refine lv_if_lt F.1 F.2.1 d ht (fun h => ?_) (fun h => ?_)
  · rw [if_pos h] at hX
    exact kt h r σ' hX p l e s m args below meth c F H locs ls hP hS hl
  · rw [if_neg h] at hX
    exact kf h r σ' hX p l e s m args below meth c F H locs ls hP hS hl
theorem r_if_ge {x : Int32} {off : Int} (t q : Nat) (hq : pc + 3 = q) (ht : (pc : Int) + off = (t : Int)) (d : decode M.2.1 pc = .ok (.ifCond .ge off, 3)) (kt : 0 ≤ x → k_GO M E em t lv st σ A) (kf : ¬ 0 ≤ x → k_GO M E em q lv st σ B) : k_GO M E em pc lv (.int x :: st) σ (if 0 ≤ x then A else B) := by
  intro r σ' hX p l e s m args below meth c F H locs ls hP hS hl
  subst hq
  refine lv_if_ge F.1 F.2.1 d ht (fun h => ?_) (fun h => ?_)
  · rw [if_pos h] at hX
    exact kt h r σ' hX p l e s m args below meth c F H locs ls hP hS hl
  · rw [if_neg h] at hX
    exact kf h r σ' hX p l e s m args below meth c F H locs ls hP hS hl
theorem r_if_gt {x : Int32} {off : Int} (t q : Nat) (hq : pc + 3 = q) (ht : (pc : Int) + off = (t : Int)) (d : decode M.2.1 pc = .ok (.ifCond .gt off, 3)) (kt : 0 < x → k_GO M E em t lv st σ A) (kf : ¬ 0 < x → k_GO M E em q lv st σ B) : k_GO M E em pc lv (.int x :: st) σ (if 0 < x then A else B) := by
  intro r σ' hX p l e s m args below meth c F H locs ls hP hS hl
  subst hq
  refine lv_if_gt F.1 F.2.1 d ht (fun h => ?_) (fun h => ?_)
  · rw [if_pos h] at hX
    exact kt h r σ' hX p l e s m args below meth c F H locs ls hP hS hl
  · rw [if_neg h] at hX
    exact kf h r σ' hX p l e s m args below meth c F H locs ls hP hS hl
theorem r_if_le {x : Int32} {off : Int} (t q : Nat) (hq : pc + 3 = q) (ht : (pc : Int) + off = (t : Int)) (d : decode M.2.1 pc = .ok (.ifCond .le off, 3)) (kt : x ≤ 0 → k_GO M E em t lv st σ A) (kf : ¬ x ≤ 0 → k_GO M E em q lv st σ B) : k_GO M E em pc lv (.int x :: st) σ (if x ≤ 0 then A else B) := by
  intro r σ' hX p l e s m args below meth c F H locs ls hP hS hl
  subst hq
  refine lv_if_le F.1 F.2.1 d ht (fun h => ?_) (fun h => ?_)
  · rw [if_pos h] at hX
    exact kt h r σ' hX p l e s m args below meth c F H locs ls hP hS hl
  · rw [if_neg h] at hX
    exact kf h r σ' hX p l e s m args below meth c F H locs ls hP hS hl
theorem r_tin {x : Int32} {dflt lo hi : Int} {offs : Array Int} {len : Nat} (v : Int32) (hx : x = v) (off : Int) (t : Nat) (h1 : ¬ v.toInt < lo) (h2 : ¬ hi < v.toInt) (ho : offs[(v.toInt - lo).toNat]? = some off) (ht : (pc : Int) + off = (t : Int)) (d : decode M.2.1 pc = .ok (.tableswitch dflt lo hi offs, len)) (k : k_GO M E em t lv st σ X) : k_GO M E em pc lv (.int x :: st) σ X := by
  intro r σ' hX p l e s m args below meth c F H locs ls hP hS hl
  subst hx
  exact lv_tableIn F.1 F.2.1 d h1 h2 ho ht (k r σ' hX p l e s m args below meth c F H locs ls hP hS hl)
theorem r_tout {x : Int32} {dflt lo hi : Int} {offs : Array Int} {len : Nat} (t : Nat) (h : x.toInt < lo ∨ hi < x.toInt) (ht : (pc : Int) + dflt = (t : Int)) (d : decode M.2.1 pc = .ok (.tableswitch dflt lo hi offs, len)) (k : k_GO M E em t lv st σ X) : k_GO M E em pc lv (.int x :: st) σ X := by
  intro r σ' hX p l e s m args below meth c F H locs ls hP hS hl
  exact lv_tableOut F.1 F.2.1 d h ht (k r σ' hX p l e s m args below meth c F H locs ls hP hS hl)
theorem r_geti {o ci j idx : Nat} {fs : List (Option Nat)} (L : k_FL M.1.cls idx ci j) (hs : k_SH o = .inr (ci, fs)) (hf : fs[j]? = some none) (q : Nat) (hq : pc + 3 = q) (d : decode M.2.1 pc = .ok (.getfield idx, 3)) (k : k_GO M E em q lv (.int (σ o j) :: st) σ X) : k_GO M E em pc lv (k_rf E o :: st) σ X := by
  intro r σ' hX p l e s m args below meth c F H locs ls hP hS hl
  subst hq
  obtain ⟨C, T, N, h1, h2, h3, h4⟩ := L
  have ho : o < k_NC := k_lt_r hs (by have := (List.getElem?_eq_some_iff.mp h1).1; simp [vwCl] at this; omega)
  have he := k_lay_at (E := E) (σ := σ) ho
  rw [k_cell, hs] at he
  exact va_get (ci := ci) F.1 F.2.1 (fun w hw => k_wt F hw) h3 F.2.2.2.2.1 F.2.2.2.2.2.2.1 hP o he h1 j h2 (k_wt F h4) (fun _ h9 => h9) (v := .int (σ o j)) (by rw [k_fl_at, hf]; simp) d (k r σ' hX p l e s m args below meth c F H locs ls hP hS hl)
theorem r_getr {o ci j idx z : Nat} {fs : List (Option Nat)} (L : k_FL M.1.cls idx ci j) (hs : k_SH o = .inr (ci, fs)) (hf : fs[j]? = some (some z)) (q : Nat) (hq : pc + 3 = q) (d : decode M.2.1 pc = .ok (.getfield idx, 3)) (k : k_GO M E em q lv (k_rf E z :: st) σ X) : k_GO M E em pc lv (k_rf E o :: st) σ X := by
  intro r σ' hX p l e s m args below meth c F H locs ls hP hS hl
  subst hq
  obtain ⟨C, T, N, h1, h2, h3, h4⟩ := L
  have ho : o < k_NC := k_lt_r hs (by have := (List.getElem?_eq_some_iff.mp h1).1; simp [vwCl] at this; omega)
  have he := k_lay_at (E := E) (σ := σ) ho
  rw [k_cell, hs] at he
  exact va_get (ci := ci) F.1 F.2.1 (fun w hw => k_wt F hw) h3 F.2.2.2.2.1 F.2.2.2.2.2.2.1 hP o he h1 j h2 (k_wt F h4) (fun _ h9 => h9) (v := k_rf E z) (by rw [k_fl_at, hf]; simp) d (k r σ' hX p l e s m args below meth c F H locs ls hP hS hl)
theorem r_puti {o ci j idx : Nat} {v : Int32} {fs : List (Option Nat)} (L : k_FP M.1.cls idx ci j) (hs : k_SH o = .inr (ci, fs)) (hf : fs[j]? = some none) (q : Nat) (hq : pc + 3 = q) (d : decode M.2.1 pc = .ok (.putfield idx, 3)) (k : k_GO M E em q lv st (k_mset σ o j v) X) : k_GO M E em pc lv (.int v :: k_rf E o :: st) σ X := by
  intro r σ' hX p l e s m args below meth c F H locs ls hP hS hl
  subst hq
  obtain ⟨C, T, N, ty0, h1, h2, h3, h4, h5, h6, h7, h8⟩ := L
  have ho : o < k_NC := k_lt_r hs (by have := (List.getElem?_eq_some_iff.mp h1).1; simp [vwCl] at this; omega)
  have he := k_lay_at (E := E) (σ := σ) ho
  have e2 : k_cell E (k_mset σ o j v) o = .inr (ci, (k_fl E.2.1 (σ o) 0 fs).set j (.int v)) := by
    rw [k_cell, hs, k_mset, k_row_self, k_fl_set hf]
  have e3 := k_lay_set (E := E) (σ := σ) (k := o) (upd (σ o) j v)
  rw [show k_mrow σ o (upd (σ o) j v) = k_mset σ o j v from rfl, e2] at e3
  rw [k_cell, hs] at he
  refine va_put (ci := ci) F.1 F.2.1 (fun w hw => k_wt F hw) h3 ty0 h5 h6 F.2.2.2.2.1 F.2.2.2.2.2.2.1 hP (k_D F.2.2.2.2.2.2.2.1 σ s.heap.size) hS o he h1 j h2 (k_wt F h4) (fun _ h9 => h9) h7 (v := .int v) h8 rfl rfl (by rw [k_fl_len]; exact (List.getElem?_eq_some_iff.mp hf).1) d (fun H1 locs1 hP1 _ hS1 => ?_)
  rw [e3] at hP1
  exact k r σ' hX p l e s m args below meth c F H1 locs1 ls hP1 hS1 hl
theorem r_iald {o n : Nat} {i : Int32} (hs : k_SH o = .inl (.int, n, none)) (q : Nat) (hq : pc + 1 = q) (d : decode M.2.1 pc = .ok (.iaload, 1)) (k : k_GO M E em q lv (.int (σ o (k_n i)) :: st) σ A) : k_GO M E em pc lv (.int i :: k_rf E o :: st) σ (if k_in i n then A else none) := by
  refine r_grd (fun hin => ?_)
  intro r σ' hX p l e s m args below meth c F H locs ls hP hS hl
  subst hq
  have he := k_lay_at (E := E) (σ := σ) (k_lt_l hs)
  rw [k_cell, hs] at he
  exact va_iald F.1 F.2.1 F.2.2.2.2.2.2.1 hP o 0 he rfl (k_in_iff.mp hin) d (k r σ' hX p l e s m args below meth c F H locs ls hP hS hl)
theorem r_bald {o n : Nat} {i : Int32} (hs : k_SH o = .inl (.byte, n, none)) (q : Nat) (hq : pc + 1 = q) (d : decode M.2.1 pc = .ok (.baload, 1)) (k : k_GO M E em q lv (.int (σ o (k_n i)) :: st) σ A) : k_GO M E em pc lv (.int i :: k_rf E o :: st) σ (if k_in i n then A else none) := by
  refine r_grd (fun hin => ?_)
  intro r σ' hX p l e s m args below meth c F H locs ls hP hS hl
  subst hq
  have he := k_lay_at (E := E) (σ := σ) (k_lt_l hs)
  rw [k_cell, hs] at he
  exact va_bald F.1 F.2.1 F.2.2.2.2.2.2.1 hP o 1 he rfl (k_in_iff.mp hin) d (k r σ' hX p l e s m args below meth c F H locs ls hP hS hl)
theorem r_zald {o n : Nat} {i : Int32} (hs : k_SH o = .inl (.boolean, n, none)) (q : Nat) (hq : pc + 1 = q) (d : decode M.2.1 pc = .ok (.baload, 1)) (k : k_GO M E em q lv (.int (σ o (k_n i)) :: st) σ A) : k_GO M E em pc lv (.int i :: k_rf E o :: st) σ (if k_in i n then A else none) := by
  refine r_grd (fun hin => ?_)
  intro r σ' hX p l e s m args below meth c F H locs ls hP hS hl
  subst hq
  have he := k_lay_at (E := E) (σ := σ) (k_lt_l hs)
  rw [k_cell, hs] at he
  exact va_zald F.1 F.2.1 F.2.2.2.2.2.2.1 hP o 2 he rfl (k_in_iff.mp hin) d (k r σ' hX p l e s m args below meth c F H locs ls hP hS hl)
theorem r_iast {o n : Nat} {i x : Int32} (hs : k_SH o = .inl (.int, n, none)) (q : Nat) (hq : pc + 1 = q) (d : decode M.2.1 pc = .ok (.iastore, 1)) (k : k_GO M E em q lv st (k_mset σ o (k_n i) x) A) : k_GO M E em pc lv (.int x :: .int i :: k_rf E o :: st) σ (if k_in i n then A else none) := by
  refine r_grd (fun hin => ?_)
  intro r σ' hX p l e s m args below meth c F H locs ls hP hS hl
  subst hq
  have he := k_lay_at (E := E) (σ := σ) (k_lt_l hs)
  have e2 : k_cell E (k_mset σ o (k_n i) x) o = .inl (E.1 .int, n, .inl (upd (σ o) (k_n i) x)) := by
    rw [k_cell, hs, k_mset, k_row_self]
  have e3 := k_lay_set (E := E) (σ := σ) (k := o) (upd (σ o) (k_n i) x)
  rw [show k_mrow σ o (upd (σ o) (k_n i) x) = k_mset σ o (k_n i) x from rfl, e2] at e3
  rw [k_cell, hs] at he
  refine va_iast F.1 F.2.1 F.2.2.2.2.2.2.1 hP (k_D F.2.2.2.2.2.2.2.1 σ s.heap.size) hS o 0 he rfl (k_in_iff.mp hin) d (fun H1 locs1 hP1 _ hS1 => ?_)
  rw [e3] at hP1
  exact k r σ' hX p l e s m args below meth c F H1 locs1 ls hP1 hS1 hl
theorem r_bast {o n : Nat} {i x : Int32} (hs : k_SH o = .inl (.byte, n, none)) (q : Nat) (hq : pc + 1 = q) (d : decode M.2.1 pc = .ok (.bastore, 1)) (k : k_GO M E em q lv st (k_mset σ o (k_n i) (vp_nar .byte x)) A) : k_GO M E em pc lv (.int x :: .int i :: k_rf E o :: st) σ (if k_in i n then A else none) := by
  refine r_grd (fun hin => ?_)
  intro r σ' hX p l e s m args below meth c F H locs ls hP hS hl
  subst hq
  have he := k_lay_at (E := E) (σ := σ) (k_lt_l hs)
  have e2 : k_cell E (k_mset σ o (k_n i) (vp_nar .byte x)) o = .inl (E.1 .byte, n, .inl (upd (σ o) (k_n i) (vp_nar .byte x))) := by
    rw [k_cell, hs, k_mset, k_row_self]
  have e3 := k_lay_set (E := E) (σ := σ) (k := o) (upd (σ o) (k_n i) (vp_nar .byte x))
  rw [show k_mrow σ o (upd (σ o) (k_n i) (vp_nar .byte x)) = k_mset σ o (k_n i) (vp_nar .byte x) from rfl, e2] at e3
  rw [k_cell, hs] at he
  refine va_bast F.1 F.2.1 F.2.2.2.2.2.2.1 hP (k_D F.2.2.2.2.2.2.2.1 σ s.heap.size) hS o 1 he rfl (k_in_iff.mp hin) d (fun H1 locs1 hP1 _ hS1 => ?_)
  rw [e3] at hP1
  exact k r σ' hX p l e s m args below meth c F H1 locs1 ls hP1 hS1 hl
theorem r_zast {o n : Nat} {i x : Int32} (hs : k_SH o = .inl (.boolean, n, none)) (q : Nat) (hq : pc + 1 = q) (d : decode M.2.1 pc = .ok (.bastore, 1)) (k : k_GO M E em q lv st (k_mset σ o (k_n i) (vp_nar .boolean x)) A) : k_GO M E em pc lv (.int x :: .int i :: k_rf E o :: st) σ (if k_in i n then A else none) := by
  refine r_grd (fun hin => ?_)
  intro r σ' hX p l e s m args below meth c F H locs ls hP hS hl
  subst hq
  have he := k_lay_at (E := E) (σ := σ) (k_lt_l hs)
  have e2 : k_cell E (k_mset σ o (k_n i) (vp_nar .boolean x)) o = .inl (E.1 .boolean, n, .inl (upd (σ o) (k_n i) (vp_nar .boolean x))) := by
    rw [k_cell, hs, k_mset, k_row_self]
  have e3 := k_lay_set (E := E) (σ := σ) (k := o) (upd (σ o) (k_n i) (vp_nar .boolean x))
  rw [show k_mrow σ o (upd (σ o) (k_n i) (vp_nar .boolean x)) = k_mset σ o (k_n i) (vp_nar .boolean x) from rfl, e2] at e3
  rw [k_cell, hs] at he
  refine va_zast F.1 F.2.1 F.2.2.2.2.2.2.1 hP (k_D F.2.2.2.2.2.2.2.1 σ s.heap.size) hS o 2 he rfl (k_in_iff.mp hin) d (fun H1 locs1 hP1 _ hS1 => ?_)
  rw [e3] at hP1
  exact k r σ' hX p l e s m args below meth c F H1 locs1 ls hP1 hS1 hl
theorem r_aald {o n : Nat} {g : Nat → Nat} {i : Int32} (hs : k_SH o = .inl (.object "HandMarket$Sheet", n, some g)) (q : Nat) (hq : pc + 1 = q) (d : decode M.2.1 pc = .ok (.aaload, 1)) (k : k_GO M E em q lv (k_rf E (g (k_n i)) :: st) σ A) : k_GO M E em pc lv (.int i :: k_rf E o :: st) σ (if k_in i n then A else none) := by
  refine r_grd (fun hin => ?_)
  intro r σ' hX p l e s m args below meth c F H locs ls hP hS hl
  subst hq
  have he := k_lay_at (E := E) (σ := σ) (k_lt_l hs)
  rw [k_cell, hs] at he
  exact va_aldq F.1 F.2.1 F.2.2.2.2.2.2.1 hP o 3 he rfl (k_in_iff.mp hin) d (k r σ' hX p l e s m args below meth c F H locs ls hP hS hl)
theorem r_alen {o n : Nat} (hs : k_SH o = .inl (.int, n, none)) (q : Nat) (hq : pc + 1 = q) (d : decode M.2.1 pc = .ok (.arraylength, 1)) (k : k_GO M E em q lv (.int (nI n) :: st) σ X) : k_GO M E em pc lv (k_rf E o :: st) σ X := by
  intro r σ' hX p l e s m args below meth c F H locs ls hP hS hl
  subst hq
  have he := k_lay_at (E := E) (σ := σ) (k_lt_l hs)
  rw [k_cell, hs] at he
  exact va_alen F.1 F.2.1 F.2.2.2.2.2.2.1 hP o 0 he rfl rfl d (k r σ' hX p l e s m args below meth c F H locs ls hP hS hl)
def k_cpok (sp dp n : Int32) (n0 n1 : Nat) : Bool := !(decide (sp < 0)) && !(decide (dp < 0)) && !(decide (n < 0)) && decide (k_n sp + k_n n ≤ n0) && decide (k_n dp + k_n n ≤ n1)
theorem r_copy {o0 o1 n0 n1 idx : Nat} {sp dp n : Int32} (h0 : k_SH o0 = .inl (.int, n0, none)) (h1 : k_SH o1 = .inl (.int, n1, none)) (hL : Cond.methodLink M.1.cls idx arraycopyName ∈ k_tbl) (hd : 1 ≤ M.2.2.2.2 ∧ (st.map fun v => v.category).sum + (nativeFrameWords "java/lang/System" "arraycopy" 5 + 11) ≤ 36 * M.2.2.2.2) (q : Nat) (hq : pc + 3 = q) (d : decode M.2.1 pc = .ok (.invokestatic idx, 3)) (k : k_GO M E em q lv st (k_mrow σ o1 (va_cpy (σ o0) (σ o1) (k_n sp) (k_n dp) (k_n n))) A) : k_GO M E em pc lv (.int n :: .int dp :: k_rf E o1 :: .int sp :: k_rf E o0 :: st) σ (if k_cpok sp dp n n0 n1 then A else none) := by
  refine r_grd (fun hin => ?_)
  intro r σ' hX p l e s m args below meth c F H locs ls hP hS hl
  subst hq
  simp only [k_cpok, Bool.and_eq_true, Bool.not_eq_true', decide_eq_false_iff_not, decide_eq_true_eq] at hin
  obtain ⟨⟨⟨⟨g1, g2⟩, g3⟩, g4⟩, g5⟩ := hin
  have he0 := k_lay_at (E := E) (σ := σ) (k_lt_l h0)
  have he1 := k_lay_at (E := E) (σ := σ) (k_lt_l h1)
  have e2 : k_cell E (k_mrow σ o1 (va_cpy (σ o0) (σ o1) (k_n sp) (k_n dp) (k_n n))) o1 = .inl (E.1 .int, n1, .inl (va_cpy (σ o0) (σ o1) (k_n sp) (k_n dp) (k_n n))) := by
    rw [k_cell, h1, k_row_self]
  have e3 := k_lay_set (E := E) (σ := σ) (k := o1) (va_cpy (σ o0) (σ o1) (k_n sp) (k_n dp) (k_n n))
  rw [e2] at e3
  rw [k_cell, h0] at he0
  rw [k_cell, h1] at he1
  refine va_copyi F.1 F.2.1 (F.2.2.2.1.trans hl.1.symm) F.2.2.2.2.1 (k_wt F hL) (k_wt F (by decide +kernel)) (k_wt F (by decide +kernel)) (k_wt F (by decide +kernel)) F.2.2.2.2.2.2.1 hP (k_D F.2.2.2.2.2.2.2.1 σ s.heap.size) hS o0 o1 0 0 he0 he1 rfl rfl rfl g1 g2 g3 g4 g5 (fun _ _ => rfl) hd.1 hd.2 d (fun H1 locs1 hP1 _ hS1 => ?_)
  rw [e3] at hP1
  exact k r σ' hX p l e s m args below meth c F H1 locs1 ls hP1 hS1 hl
theorem r_iret {v : Int32} (hr : M.2.2.2.1 = some .int) (d : decode M.2.1 pc = .ok (.ireturn, 1)) : k_GO M E k_vi pc lv [.int v] σ (some (v, σ)) := by
  intro r σ' hX p l e s m args below meth c F H locs ls hP hS hl
  cases hX
  exact W.iret F.1 F.2.1 (F.2.2.1.trans hr) (fun t ht _ => ⟨rfl, by rw [ht]; exact hP, hS.F ht⟩) hS.2.2 d F.2.2.2.2.2.2.2.2.2
theorem r_zret {v : Int32} (hr : M.2.2.2.1 = some .boolean) (hv : v = 0 ∨ v = 1) (d : decode M.2.1 pc = .ok (.ireturn, 1)) : k_GO M E k_vi pc lv [.int v] σ (some (v, σ)) := by
  intro r σ' hX p l e s m args below meth c F H locs ls hP hS hl
  cases hX
  exact W.zret F.1 F.2.1 (F.2.2.1.trans hr) (by rcases hv with h | h <;> subst h <;> rfl) (fun t ht _ => ⟨rfl, by rw [ht]; exact hP, hS.F ht⟩) hS.2.2 d F.2.2.2.2.2.2.2.2.2
theorem r_lret {v : Int64} (hr : M.2.2.2.1 = some .long) (d : decode M.2.1 pc = .ok (.lreturn, 1)) : k_GO M E k_vl pc lv [.long v] σ (some (v, σ)) := by
  intro r σ' hX p l e s m args below meth c F H locs ls hP hS hl
  cases hX
  exact W.lret F.1 F.2.1 (F.2.2.1.trans hr) (fun t ht _ => ⟨rfl, by rw [ht]; exact hP, hS.F ht⟩) hS.2.2 d F.2.2.2.2.2.2.2.2.2
theorem r_vret (hr : M.2.2.2.1 = none) (d : decode M.2.1 pc = .ok (.return_, 1)) : k_GO M E k_vv pc lv [] σ (some ((), σ)) := by
  intro r σ' hX p l e s m args below meth c F H locs ls hP hS hl
  cases hX
  exact W.vret F.1 F.2.1 (F.2.2.1.trans hr) (fun t ht _ => ⟨rfl, by rw [ht]; exact hP, hS.F ht⟩) hS.2.2 d F.2.2.2.2.2.2.2.2.2
theorem r_aret {z : Nat} {C : String} (hr : M.2.2.2.1 = some (.object C)) (d : decode M.2.1 pc = .ok (.areturn, 1)) : k_GO M E (k_vr E) pc lv [k_rf E z] σ (some (z, σ)) := by
  intro r σ' hX p l e s m args below meth c F H locs ls hP hS hl
  cases hX
  exact W.aret F.1 F.2.1 (F.2.2.1.trans hr) (Or.inl ⟨C, rfl⟩) (Or.inr ⟨_, rfl⟩) (fun t ht _ => ⟨rfl, by rw [ht]; exact hP, hS.F ht⟩) hS.2.2 d F.2.2.2.2.2.2.2.2.2
theorem k_AA_mono {a b : Nat} (h : a ≤ b) : ∀ q, k_AA E b q → k_AA E a q := fun q hq => hq.elim Or.inl (fun z => Or.inr (Nat.le_trans h z))
theorem k_after {p : Program} {l : Launch} {e : Env} {R : Room} {s : State} {m : MethodId} {args : Array Value} {below : List Frame} {meth : Method} {c : Code} {H : Heap} {locs : List Loc} {Q : State → Prop} {ls : Array Slot} {st0 rest : List Value} {v : Option Value} {σ1 : k_Mem} {a : Array Value} (hr : va_Run p l e R s m args below meth c H locs 0 0 0 0 (F0 m pc ls st0) rest (k_QG E H.size v σ1 a) (k_AA E H.size)) (hS : va_S (k_AA E s.heap.size) s.heap H locs)
    (kk : ∀ (H1 : Heap) (locs1 : List Loc), va_P E.2.2.1 vwCl (k_lay E σ1) H1 → va_S (k_AA E s.heap.size) s.heap H1 locs1 → W p l e R s m args below meth c H1 locs1 0 0 Q (F0 m (pc + 3) ls (v.toList ++ rest))) : W p l e R s m args below meth c H locs 0 0 Q (F0 m pc ls st0) := by
  intro T hT X
  obtain ⟨v', st₀, t, T', L, h0, X', hL, e1, e2, ⟨hv, hP1, hz, hk⟩, st⟩ := hr T hT X
  cases hv
  rw [h0] at hz hk
  obtain ⟨t2, a1, b1⟩ := kk T'.heap (locs ++ L) (by rw [e1]; exact hP1) ⟨Nat.le_trans hS.1 (by rw [e1]; exact hz), fun q h1 h2 => by rw [e1, hk q (Nat.lt_of_lt_of_le h1 hS.1) (fun z => h2 (k_AA_mono hS.1 q z))]; exact hS.2.1 q h1 h2, fun q hq => by
      rcases List.mem_append.mp hq with h | h
      · exact hS.2.2 q h
      · exact k_AA_mono hS.1 _ (hL q h)⟩ T' rfl X'
  exact ⟨t2, st t2 a1, b1⟩
theorem k_goodIn {N : k_MI} {n : Nat} (h : k_CW N n) : GoodIn (k_ws M) (k_ws N) := by
  intro w hw
  have hm : w ∈ k_tbl := by
    rcases List.mem_cons.mp hw with e | e
    · rw [e]; exact h.1
    · exact e
  exact ⟨List.mem_cons_of_mem _ hm, good_of_word (List.all_eq_true.mp k_good w hm)⟩
theorem k_gw {w : Cond} (h : w ∈ k_tbl) : w ∈ k_ws M ∧ ((w.onTables && w.keeps) = true ∨ ∃ ty, w = .arrayClass ty) := ⟨List.mem_cons_of_mem _ h, good_of_word (List.all_eq_true.mp k_good w h)⟩
theorem k_blind {as : List Value} {sz : Nat} : FrameBlind (va_Pc as (fun U => U.heap.size = sz ∧ va_P E.2.2.1 vwCl (k_lay E σ) U.heap ∧ va_K E.2.2.1 vwCl (k_tys E) U ∧ k_inj E ∧ k_XS E (k_AA E sz) U U.heap)) := by
  intro a U g mk q
  obtain ⟨q0, q1, qP, qK, qI, qX⟩ := q
  exact ⟨q0, q1, qP, va_K.moved (u := U) (U := U.calling g mk a) (Vm.Alike.refl U.vm) qK, qI, k_XS.same (s := U) (U := U.calling g mk a) rfl qX⟩
theorem k_preS {p : Program} {s : State} {m : MethodId} {args : Array Value} {meth : Method} {c : Code} (F : k_Fx M E p s m args meth c) {H : Heap} {locs : List Loc} (hP : va_P E.2.2.1 vwCl (k_lay E σ) H) (hS : va_S (k_AA E s.heap.size) s.heap H locs) (as : List Value) : PreS s H (va_Pc as (fun U => U.heap.size = H.size ∧ va_P E.2.2.1 vwCl (k_lay E σ) U.heap ∧ va_K E.2.2.1 vwCl (k_tys E) U ∧ k_inj E ∧ k_XS E (k_AA E H.size) U U.heap)) as := by
  refine ⟨k_blind, fun U hU hW => ⟨rfl, by rw [hU], by rw [hU]; exact hP, va_K.moved hW.alike F.2.2.2.2.2.2.1, F.2.2.2.2.2.2.2.1, ?_⟩⟩
  rw [hU]
  exact ((F.2.2.2.2.2.2.2.2.1.kept hS.2.1).narrow (k_AA_mono hS.1)).warm hW
theorem r_call {ρ' : Type} {N : k_MI} {em' : ρ' → Option Value} {Y : Option (ρ' × k_Mem)} {K : ρ' → k_Mem → Option (ρ × k_Mem)} {o ci idx : Nat} {fs : List (Option Nat)} {T : u_T} {n : Nat} (as rest : List Value) (hM : k_MC N E em' (k_rf E o :: as) σ Y) (hst : st = as.reverse ++ k_rf E o :: rest) (hs : k_SH o = .inr (ci, fs)) (hc : vwCl[ci]? = some (N.1.cls, T, n)) (L : Cond.methodLink M.1.cls idx N.1 ∈ k_tbl) (C : k_CW N as.length) (V : k_VW N) (hrk : k_rk M N = true) (hr : (rest.map fun v => v.category).sum ≤ 8) (q : Nat) (hq : pc + 3 = q) (d : decode M.2.1 pc = .ok (.invokevirtual idx, 3)) (k : ∀ (r : ρ') (σ1 : k_Mem), k_GO M E em q lv ((em' r).toList ++ rest) σ1 (K r σ1)) : k_GO M E em pc lv st σ (Y.bind (fun z => K z.1 z.2)) := by
  intro r σ' hX p l e s m args below meth c F H locs ls hP hS hl
  subst hq
  subst hst
  obtain ⟨⟨r1, σ1⟩, hY, hX⟩ := Option.bind_eq_some_iff.mp hX
  simp only [k_rk, Bool.and_eq_true, decide_eq_true_eq] at hrk
  have ho : o < k_NC := k_lt_r hs (by have := (List.getElem?_eq_some_iff.mp hc).1; simp [vwCl] at this; omega)
  have he := k_lay_at (E := E) (σ := σ) ho
  rw [k_cell, hs] at he
  have hG : GoodIn (k_ws M) (wsV M.1.cls idx N.1.cls N.1 (k_ws N)) := by
    intro w hw
    unfold wsV at hw
    rcases List.mem_append.mp hw with h | h
    · simp only [List.mem_cons, List.not_mem_nil, or_false] at h
      rcases h with h | h | h | h <;> subst h
      · exact k_gw L
      · exact k_gw V.1
      · exact k_gw V.2
      · exact k_gw C.2.1
    · exact k_goodIn C w h
  have hpre := k_preS F hP hS (k_rf E o :: as)
  exact k_after (va_runV (As := as) (rest := rest) (g := F0 m pc ls (as.reverse ++ k_rf E o :: rest)) ⟨F.1, F.2.1, F.2.2.2.1, F.2.2.2.2.1, F.2.2.2.2.2.1⟩ (hM r1 σ1 hY l H.size) (cwV as.length F.2.2.2.2.2.1 hG rfl rfl rfl ⟨rfl, C.2.2⟩ hrk) ⟨hpre.1, va_recv F.2.2.2.2.2.2.1 hP hc he, hpre.2⟩ rfl rfl hl.1 rfl (lv_room hr) d ⟨Nat.le_refl _, Nat.le_refl _⟩) hS (fun H1 locs1 hP1 hS1 => k r1 σ1 r σ' hX p l e s m args below meth c F H1 locs1 ls hP1 hS1 hl)
theorem r_calls {ρ' : Type} {N : k_MI} {em' : ρ' → Option Value} {Y : Option (ρ' × k_Mem)} {K : ρ' → k_Mem → Option (ρ × k_Mem)} {idx : Nat} (as rest : List Value) (hM : k_MC N E em' as σ Y) (hst : st = as.reverse ++ rest) (L : Cond.methodLink M.1.cls idx N.1 ∈ k_tbl) (C : k_CW N as.length) (V : Cond.static N.1 ∈ k_tbl) (hrk : k_rk M N = true) (hr : (rest.map fun v => v.category).sum ≤ 8) (q : Nat) (hq : pc + 3 = q) (d : decode M.2.1 pc = .ok (.invokestatic idx, 3)) (k : ∀ (r : ρ') (σ1 : k_Mem), k_GO M E em q lv ((em' r).toList ++ rest) σ1 (K r σ1)) : k_GO M E em pc lv st σ (Y.bind (fun z => K z.1 z.2)) := by
  intro r σ' hX p l e s m args below meth c F H locs ls hP hS hl
  subst hq
  subst hst
  obtain ⟨⟨r1, σ1⟩, hY, hX⟩ := Option.bind_eq_some_iff.mp hX
  simp only [k_rk, Bool.and_eq_true, decide_eq_true_eq] at hrk
  have hG : GoodIn (k_ws M) (va_wsS M.1.cls idx N.1 (k_ws N)) := by
    intro w hw
    unfold va_wsS at hw
    rcases List.mem_append.mp hw with h | h
    · simp only [List.mem_cons, List.not_mem_nil, or_false] at h
      rcases h with h | h | h <;> subst h
      · exact k_gw L
      · exact k_gw V
      · exact k_gw C.2.1
    · exact k_goodIn C w h
  exact k_after (va_runS (As := as) (rest := rest) (g := F0 m pc ls (as.reverse ++ rest)) ⟨F.1, F.2.1, F.2.2.2.1, F.2.2.2.2.1, F.2.2.2.2.2.1⟩ (hM r1 σ1 hY l H.size) (va_cwS as.length F.2.2.2.2.2.1 hG rfl rfl rfl C.2.2 hrk) (k_preS F hP hS as) rfl rfl hl.1 rfl (lv_room hr) d ⟨Nat.le_refl _, Nat.le_refl _⟩) hS (fun H1 locs1 hP1 hS1 => k r1 σ1 r σ' hX p l e s m args below meth c F H1 locs1 ls hP1 hS1 hl)
end RULES
end
