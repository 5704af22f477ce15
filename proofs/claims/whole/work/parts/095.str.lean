/-! TEXTS: how the machine's String answers length and charAt -/
def k_sb (i j : Nat) : Int32 := (k_sbyt.getD i []).getD j 0
theorem k_sb_c : ∀ i, i < 10 → ∀ j, j < 8 → ((k_sb i j &&& 255).toUInt32 % 65536).toInt32 = k_sb i j := by decide +kernel
theorem k_sb_q : ∀ i, i < 10 → ∀ j, j < 8 → ∃ q, q < 128 ∧ k_sb i j = nI q := by
  intro i hi j hj
  have h : ∀ i, i < 10 → ∀ j, j < 8 → (List.range 128).any (fun q => k_sb i j == nI q) = true := by decide +kernel
  obtain ⟨q, h1, h2⟩ := List.any_eq_true.mp (h i hi j hj)
  exact ⟨q, List.mem_range.mp h1, by simpa using h2⟩
theorem k_sb_n {i j : Nat} (hi : i < 10) (hj : j < 8) : narrow .char (.int (k_sb i j)) = .int (k_sb i j) := by
  obtain ⟨q, h1, h2⟩ := k_sb_q i hi j hj
  rw [h2]
  exact (pk_charN (by omega)).1
theorem k_sl8 : ∀ i, i < 10 → k_slen.getD i 0 ≤ 8 := by decide +kernel
section STR
variable {ρ : Type} {M : k_MI} {E : k_EV} {em : ρ → Option Value} {pc : Nat} {lv : List (Nat × Value)} {st : List Value} {σ : k_Mem} {X A : Option (ρ × k_Mem)}
theorem r_stD {ρ' : Type} {N : k_MI} {em' : ρ' → Option Value} {v : ρ'} {idx : Nat} {as rest : List Value} (hM : k_MC N E em' as σ (some (v, σ))) (hst : st = as.reverse ++ rest) (L : Cond.methodLink M.1.cls idx N.1 ∈ k_tbl) (C : k_CW N as.length) (V : Cond.static N.1 ∈ k_tbl) (hrk : k_rk M N = true) (hr : (rest.map fun v => v.category).sum ≤ 8) (q : Nat) (hq : pc + 3 = q) (d : decode M.2.1 pc = .ok (.invokestatic idx, 3)) (k : k_GO M E em q lv ((em' v).toList ++ rest) σ X) : k_GO M E em pc lv st σ X := by
  intro r σ' hX p l e R s m args below meth c cells slots Q F hR hQ H locs ls hP hS hl
  subst hq
  subst hst
  simp only [k_rk, Bool.and_eq_true, decide_eq_true_eq] at hrk
  have hG : GoodIn k_tbl (va_wsS M.1.cls idx N.1 (k_ws N)) := by
    intro w hw
    unfold va_wsS at hw
    rcases List.mem_append.mp hw with h | h
    · simp only [List.mem_cons, List.not_mem_nil, or_false] at h
      rcases h with h | h | h <;> subst h
      · exact k_gw L
      · exact k_gw V
      · exact k_gw C.2.1
    · exact k_goodIn C w h
  exact k_after (va_runS (As := as) (rest := rest) (g := F0 m pc ls (as.reverse ++ rest)) ⟨F.1, F.2.1, F.2.2.2.1, F.2.2.2.2.1, F.2.2.2.2.2.1⟩ (hM v σ rfl l H.size) (va_cwS as.length F.2.2.2.2.2.1 hG rfl rfl rfl C.2.2 (by rw [hR.1, hR.2.1]; exact hrk)) (k_preS F hP hS as) rfl rfl hl.1 rfl (lv_room hr) d ⟨hR.2.2.1, hR.2.2.2⟩) hS (fun H1 locs1 hP1 hS1 => k r σ' hX p l e R s m args below meth c cells slots Q F hR hQ H1 locs1 ls hP1 hS1 hl)
theorem r_sD {ρ' : Type} {N : k_MI} {em' : ρ' → Option Value} {v : ρ'} {idx i : Nat} {as rest : List Value} (hi : i < 10) (hM : k_MC N E em' (k_rs E i :: as) σ (some (v, σ))) (hst : st = as.reverse ++ k_rs E i :: rest) (hc : N.1.cls = "java/lang/String") (L : Cond.methodLink M.1.cls idx N.1 ∈ k_tbl) (C : k_CW N as.length) (V : k_VW N) (hrk : k_rk M N = true) (hr : (rest.map fun v => v.category).sum ≤ 8) (q : Nat) (hq : pc + 3 = q) (d : decode M.2.1 pc = .ok (.invokevirtual idx, 3)) (k : k_GO M E em q lv ((em' v).toList ++ rest) σ X) : k_GO M E em pc lv st σ X := by
  intro r σ' hX p l e R s m args below meth c cells slots Q F hR hQ H locs ls hP hS hl
  subst hq
  subst hst
  simp only [k_rk, Bool.and_eq_true, decide_eq_true_eq] at hrk
  have hG : GoodIn k_tbl (wsV M.1.cls idx N.1.cls N.1 (k_ws N)) := by
    intro w hw
    unfold wsV at hw
    rcases List.mem_append.mp hw with h | h
    · simp only [List.mem_cons, List.not_mem_nil, or_false] at h
      rcases h with h | h | h | h <;> subst h
      · exact k_gw L
      · exact k_gw V.1
      · exact k_gw V.2
      · exact k_gw C.2.1
    · exact k_goodIn C w h
  have hpre := k_preS F hP hS (k_rs E i :: as)
  exact k_after (va_runV (As := as) (rest := rest) (g := F0 m pc ls (as.reverse ++ k_rs E i :: rest)) ⟨F.1, F.2.1, F.2.2.2.1, F.2.2.2.2.1, F.2.2.2.2.2.1⟩ (hM v σ rfl l H.size) (cwV as.length F.2.2.2.2.2.1 hG rfl rfl rfl ⟨rfl, C.2.2⟩ (by rw [hR.1, hR.2.1]; exact hrk)) ⟨hpre.1, by rw [hc]; exact vk_recv F.2.2.2.2.2.2.2.2.1.1 hi hS, hpre.2⟩ rfl rfl hl.1 rfl (lv_room hr) d ⟨hR.2.2.1, hR.2.2.2⟩) hS (fun H1 locs1 hP1 hS1 => k r σ' hX p l e R s m args below meth c cells slots Q F hR hQ H1 locs1 ls hP1 hS1 hl)
theorem r_sgv {i : Nat} (hi : i < 10) (hc : M.1.cls = RJ0) (q : Nat) (hq : pc + 3 = q) (d : decode M.2.1 pc = .ok (.getfield 9, 3)) (k : k_GO M E em q lv (.ref (E.2.2.2.2.1 i) :: st) σ X) : k_GO M E em pc lv (k_rs E i :: st) σ X := by
  intro r σ' hX p l e R s m args below meth c cells slots Q F hR hQ H locs ls hP hS hl
  subst hq
  exact vk_getf F.1 F.2.1 (F.2.2.2.2.2.2.2.2.1.1.1 i hi).2.2.1 hS F.2.2.2.2.1 (k_wt F (by rw [hc]; exact sl_J0_9)) (fun _ h => h) d (k r σ' hX p l e R s m args below meth c cells slots Q F hR hQ H locs ls hP hS hl)
theorem r_sgc {i : Nat} (hi : i < 10) (hc : M.1.cls = RJ0) (q : Nat) (hq : pc + 3 = q) (d : decode M.2.1 pc = .ok (.getfield 15, 3)) (k : k_GO M E em q lv (.int 0 :: st) σ X) : k_GO M E em pc lv (k_rs E i :: st) σ X := by
  intro r σ' hX p l e R s m args below meth c cells slots Q F hR hQ H locs ls hP hS hl
  subst hq
  exact vk_getf F.1 F.2.1 (F.2.2.2.2.2.2.2.2.1.1.1 i hi).2.1 hS F.2.2.2.2.1 (k_wt F (by rw [hc]; exact sl_J0_15)) (fun _ h => h) d (k r σ' hX p l e R s m args below meth c cells slots Q F hR hQ H locs ls hP hS hl)
theorem r_sgs (hc : M.1.cls = RJ0) (q : Nat) (hq : pc + 3 = q) (d : decode M.2.1 pc = .ok (.getstatic 38, 3)) (k : k_GO M E em q lv (.int 1 :: st) σ X) : k_GO M E em pc lv st σ X := by
  intro r σ' hX p l e R s m args below meth c cells slots Q F hR hQ H locs ls hP hS hl
  subst hq
  exact va_gets F.1 F.2.1 F.2.2.2.2.2.2.2.2.1.2.1 hS F.2.2.2.2.1 (k_wt F (by rw [hc]; exact sl_J0_38)) (fun _ h => h) d (k r σ' hX p l e R s m args below meth c cells slots Q F hR hQ H locs ls hP hS hl)
theorem r_sgf (hc : M.1.cls = RJ0) (q : Nat) (hq : pc + 3 = q) (d : decode M.2.1 pc = .ok (.getstatic 1053, 3)) (k : ∀ v : Value, (v = .null ∨ ∃ t, v = .ref t) → k_GO M E em q lv (v :: st) σ X) : k_GO M E em pc lv st σ X := by
  intro r σ' hX p l e R s m args below meth c cells slots Q F hR hQ H locs ls hP hS hl
  subst hq
  rcases F.2.2.2.2.2.2.2.2.1.2.2.2 with hz | ⟨t, hz⟩
  · exact va_gets F.1 F.2.1 hz hS F.2.2.2.2.1 (k_wt F (by rw [hc]; exact sl_J0_1053)) (fun _ h => h) d (k _ (Or.inl rfl) r σ' hX p l e R s m args below meth c cells slots Q F hR hQ H locs ls hP hS hl)
  · exact va_gets F.1 F.2.1 hz hS F.2.2.2.2.1 (k_wt F (by rw [hc]; exact sl_J0_1053)) (fun _ h => h) d (k _ (Or.inr ⟨t, rfl⟩) r σ' hX p l e R s m args below meth c cells slots Q F hR hQ H locs ls hP hS hl)
theorem r_stl {i : Nat} (hi : i < 10) (q : Nat) (hq : pc + 1 = q) (d : decode M.2.1 pc = .ok (.arraylength, 1)) (k : k_GO M E em q lv (.int (nI (k_slen.getD i 0)) :: st) σ X) : k_GO M E em pc lv (.ref (E.2.2.2.2.1 i) :: st) σ X := by
  intro r σ' hX p l e R s m args below meth c cells slots Q F hR hQ H locs ls hP hS hl
  subst hq
  exact va_tlen F.1 F.2.1 (F.2.2.2.2.2.2.2.2.1.1.1 i hi).2.2.2 hS rfl d (k r σ' hX p l e R s m args below meth c cells slots Q F hR hQ H locs ls hP hS hl)
theorem r_stb {i : Nat} {x : Int32} (hi : i < 10) (hin : k_in x (k_slen.getD i 0) = true) (q : Nat) (hq : pc + 1 = q) (d : decode M.2.1 pc = .ok (.baload, 1)) (k : k_GO M E em q lv (.int (k_sb i (k_n x)) :: st) σ X) : k_GO M E em pc lv (.int x :: .ref (E.2.2.2.2.1 i) :: st) σ X := by
  intro r σ' hX p l e R s m args below meth c cells slots Q F hR hQ H locs ls hP hS hl
  subst hq
  exact va_tb F.1 F.2.1 (F.2.2.2.2.2.2.2.2.1.1.1 i hi).2.2.2 hS (k_in_iff.mp hin) rfl d (k r σ' hX p l e R s m args below meth c cells slots Q F hR hQ H locs ls hP hS hl)
theorem r_f_lt {x : Int32} {off : Int} (h : ¬ x < 0) (t q : Nat) (hq : pc + 3 = q) (ht : (pc : Int) + off = (t : Int)) (d : decode M.2.1 pc = .ok (.ifCond .lt off, 3)) (k : k_GO M E em q lv st σ X) : k_GO M E em pc lv (.int x :: st) σ X := by
  have e : X = if x < 0 then none else X := (if_neg h).symm
  rw [e]
  exact r_if_lt t q hq ht d (fun c => absurd c h) (fun _ => k)
theorem r_t_icmplt {x y : Int32} {off : Int} (h : x < y) (t q : Nat) (hq : pc + 3 = q) (ht : (pc : Int) + off = (t : Int)) (d : decode M.2.1 pc = .ok (.if_icmp .lt off, 3)) (k : k_GO M E em t lv st σ X) : k_GO M E em pc lv (.int y :: .int x :: st) σ X := by
  have e : X = if x < y then X else none := (if_pos h).symm
  rw [e]
  exact r_icmp_lt t q hq ht d (fun _ => k) (fun c => absurd h c)
theorem r_f_eq {x : Int32} {off : Int} (h : ¬ x = 0) (t q : Nat) (hq : pc + 3 = q) (ht : (pc : Int) + off = (t : Int)) (d : decode M.2.1 pc = .ok (.ifCond .eq off, 3)) (k : k_GO M E em q lv st σ X) : k_GO M E em pc lv (.int x :: st) σ X := by
  have e : X = if x = 0 then none else X := (if_neg h).symm
  rw [e]
  exact r_if_eq t q hq ht d (fun c => absurd c h) (fun _ => k)
theorem r_f_ne {x : Int32} {off : Int} (h : x = 0) (t q : Nat) (hq : pc + 3 = q) (ht : (pc : Int) + off = (t : Int)) (d : decode M.2.1 pc = .ok (.ifCond .ne off, 3)) (k : k_GO M E em q lv st σ X) : k_GO M E em pc lv (.int x :: st) σ X := by
  have e : X = if x = 0 then X else none := (if_pos h).symm
  rw [e]
  exact r_if_ne t q hq ht d (fun _ => k) (fun c => absurd h c)
end STR
theorem k_inb {x : Int32} {n : Nat} (h : k_in x n = true) (hn : n < 2 ^ 31) : ¬ x < 0 ∧ x < nI n ∧ k_n x < n := by
  obtain ⟨j, h1, rfl⟩ := vp_in_of (k_in_iff.mp h) hn
  exact ⟨nI_pos (by omega), nI_lt h1 hn, by rw [k_n, nI_clamp (by omega)]; exact h1⟩
theorem c_J3_checkIndex (E : k_EV) (x n : Int32) (v : Value) (hv : v = .null ∨ ∃ t, v = .ref t) (h1 : ¬ x < 0) (h2 : x < n) (σ : k_Mem) : k_MC m_J3_checkIndex_8e157 E k_vi [.int x, .int n, v] σ (some (x, σ)) := by
  have key : k_GO m_J3_checkIndex_8e157 E k_vi 0 [(0, .int x), (1, .int n), (2, v)] [] σ (some (x, σ)) := by
    refine r_iload_n 0 rfl rfl 1 rfl dJ3_checkIndex_8e157_0 ?_
    refine r_f_lt h1 9 4 rfl (by decide) dJ3_checkIndex_8e157_1 ?_
    refine r_iload_n 0 rfl rfl 5 rfl dJ3_checkIndex_8e157_4 ?_
    refine r_iload_n 1 rfl rfl 6 rfl dJ3_checkIndex_8e157_5 ?_
    refine r_t_icmplt h2 16 9 rfl (by decide) dJ3_checkIndex_8e157_6 ?_
    refine r_iload_n 0 rfl rfl 17 rfl dJ3_checkIndex_8e157_16 ?_
    exact r_iret rfl dJ3_checkIndex_8e157_17
  rcases hv with rfl | ⟨t, rfl⟩
  · exact k_MC_of ⟨by decide, by decide⟩ (Nat.le_of_ble_eq_true rfl) key
  · exact k_MC_of ⟨by decide, by decide⟩ (Nat.le_of_ble_eq_true rfl) key
theorem c_J0_checkIndex (E : k_EV) (x n : Int32) (h1 : ¬ x < 0) (h2 : x < n) (σ : k_Mem) : k_MC m_J0_checkIndex_df160 E k_vv [.int x, .int n] σ (some ((), σ)) := by
  refine k_MC_of ⟨by decide, by decide⟩ (Nat.le_of_ble_eq_true rfl) ?_
  show k_GO _ _ _ 0 [(0, .int x), (1, .int n)] [] σ _
  refine r_iload_n 0 rfl rfl 1 rfl dJ0_checkIndex_df160_0 ?_
  refine r_iload_n 1 rfl rfl 2 rfl dJ0_checkIndex_df160_1 ?_
  refine r_sgf rfl 5 rfl dJ0_checkIndex_df160_2 (fun v hv => ?_)
  refine r_stD (c_J3_checkIndex E x n v hv h1 h2 σ) (rest := []) rfl ml_J0_1059 cw_J3_checkIndex_8e157 sw_J3_checkIndex_8e157 (by decide) (Nat.le_of_ble_eq_true rfl) 8 rfl dJ0_checkIndex_df160_5 ?_
  show k_GO _ _ _ 8 _ [.int x] σ _
  refine r_pop 9 rfl dJ0_checkIndex_df160_8 rfl ?_
  exact r_vret rfl dJ0_checkIndex_df160_9
theorem c_J1_charAt (E : k_EV) (i : Nat) (hi : i < 10) (x : Int32) (hin : k_in x (k_slen.getD i 0) = true) (σ : k_Mem) : k_MC m_J1_charAt_3b067 E k_vi [.ref (E.2.2.2.2.1 i), .int x] σ (some (k_sb i (k_n x), σ)) := by
  have h8 := k_sl8 i hi
  obtain ⟨h1, h2, h3⟩ := k_inb hin (by omega)
  refine k_MC_of ⟨by decide, by decide⟩ (Nat.le_of_ble_eq_true rfl) ?_
  show k_GO _ _ _ 0 [(0, .ref (E.2.2.2.2.1 i)), (1, .int x)] [] σ _
  refine r_iload_n 1 rfl rfl 1 rfl dJ1_charAt_3b067_0 ?_
  refine r_aload_n 0 rfl rfl 2 rfl dJ1_charAt_3b067_1 ?_
  refine r_stl hi 3 rfl dJ1_charAt_3b067_2 ?_
  refine r_stD (c_J0_checkIndex E x _ h1 h2 σ) (rest := []) rfl ml_J1_9 cw_J0_checkIndex_df160 sw_J0_checkIndex_df160 (by decide) (Nat.le_of_ble_eq_true rfl) 6 rfl dJ1_charAt_3b067_3 ?_
  show k_GO _ _ _ 6 _ [] σ _
  refine r_aload_n 0 rfl rfl 7 rfl dJ1_charAt_3b067_6 ?_
  refine r_iload_n 1 rfl rfl 8 rfl dJ1_charAt_3b067_7 ?_
  refine r_stb hi hin 9 rfl dJ1_charAt_3b067_8 ?_
  refine r_sipush 255 (by decide) 12 rfl dJ1_charAt_3b067_9 ?_
  refine r_iand 13 rfl dJ1_charAt_3b067_12 ?_
  refine r_i2c 14 rfl dJ1_charAt_3b067_13 ?_
  rw [k_sb_c i hi _ (by omega)]
  exact r_cret rfl (k_sb_n hi (by omega)) dJ1_charAt_3b067_14
theorem c_J0_coder (E : k_EV) (i : Nat) (hi : i < 10) (σ : k_Mem) : k_MC m_J0_coder_7d493 E k_vi [k_rs E i] σ (some (0, σ)) := by
  refine k_MC_of ⟨by decide, by decide⟩ (Nat.le_of_ble_eq_true rfl) ?_
  show k_GO _ _ _ 0 [(0, k_rs E i)] [] σ _
  refine r_sgs rfl 3 rfl dJ0_coder_7d493_0 ?_
  refine r_f_eq (by decide) 13 6 rfl (by decide) dJ0_coder_7d493_3 ?_
  refine r_aload_n 0 rfl rfl 7 rfl dJ0_coder_7d493_6 ?_
  refine r_sgc hi rfl 10 rfl dJ0_coder_7d493_7 ?_
  refine r_goto 14 (by decide) dJ0_coder_7d493_10 ?_
  exact r_cret rfl rfl dJ0_coder_7d493_14
theorem c_J0_isLatin1 (E : k_EV) (i : Nat) (hi : i < 10) (σ : k_Mem) : k_MC m_J0_isLatin1_aae02 E k_vi [k_rs E i] σ (some (1, σ)) := by
  refine k_MC_of ⟨by decide, by decide⟩ (Nat.le_of_ble_eq_true rfl) ?_
  show k_GO _ _ _ 0 [(0, k_rs E i)] [] σ _
  refine r_sgs rfl 3 rfl dJ0_isLatin1_aae02_0 ?_
  refine r_f_eq (by decide) 17 6 rfl (by decide) dJ0_isLatin1_aae02_3 ?_
  refine r_aload_n 0 rfl rfl 7 rfl dJ0_isLatin1_aae02_6 ?_
  refine r_sgc hi rfl 10 rfl dJ0_isLatin1_aae02_7 ?_
  refine r_f_ne rfl 17 13 rfl (by decide) dJ0_isLatin1_aae02_10 ?_
  refine r_iconst 1 (by decide) 14 rfl dJ0_isLatin1_aae02_13 ?_
  refine r_goto 18 (by decide) dJ0_isLatin1_aae02_14 ?_
  exact r_zret rfl (Or.inr rfl) dJ0_isLatin1_aae02_18
theorem c_J0_length (E : k_EV) (i : Nat) (hi : i < 10) (σ : k_Mem) : k_MC m_J0_length_8abf5 E k_vi [k_rs E i] σ (some (nI (k_slen.getD i 0), σ)) := by
  refine k_MC_of ⟨by decide, by decide⟩ (Nat.le_of_ble_eq_true rfl) ?_
  show k_GO _ _ _ 0 [(0, k_rs E i)] [] σ _
  refine r_aload_n 0 rfl rfl 1 rfl dJ0_length_8abf5_0 ?_
  refine r_sgv hi rfl 4 rfl dJ0_length_8abf5_1 ?_
  refine r_stl hi 5 rfl dJ0_length_8abf5_4 ?_
  refine r_aload_n 0 rfl rfl 6 rfl dJ0_length_8abf5_5 ?_
  refine r_sD hi (c_J0_coder E i hi σ) (rest := [.int (nI (k_slen.getD i 0))]) rfl rfl ml_J0_335 cw_J0_coder_7d493 vw_J0_coder_7d493 (by decide) (Nat.le_of_ble_eq_true rfl) 9 rfl dJ0_length_8abf5_6 ?_
  show k_GO _ _ _ 9 _ [.int 0, .int (nI (k_slen.getD i 0))] σ _
  refine r_ishr 10 rfl dJ0_length_8abf5_9 ?_
  have e : ∀ i, i < 10 → k_shr (nI (k_slen.getD i 0)) 0 = nI (k_slen.getD i 0) := by decide +kernel
  rw [e i hi]
  exact r_iret rfl dJ0_length_8abf5_10
theorem c_J0_charAt (E : k_EV) (i : Nat) (hi : i < 10) (x : Int32) (hin : k_in x (k_slen.getD i 0) = true) (σ : k_Mem) : k_MC m_J0_charAt_5068e E k_vi [k_rs E i, .int x] σ (some (k_sb i (k_n x), σ)) := by
  have h8 := k_sl8 i hi
  obtain ⟨h1, h2, h3⟩ := k_inb hin (by omega)
  refine k_MC_of ⟨by decide, by decide⟩ (Nat.le_of_ble_eq_true rfl) ?_
  show k_GO _ _ _ 0 [(0, k_rs E i), (1, .int x)] [] σ _
  refine r_aload_n 0 rfl rfl 1 rfl dJ0_charAt_5068e_0 ?_
  refine r_sD hi (c_J0_isLatin1 E i hi σ) (rest := []) rfl rfl ml_J0_492 cw_J0_isLatin1_aae02 vw_J0_isLatin1_aae02 (by decide) (Nat.le_of_ble_eq_true rfl) 4 rfl dJ0_charAt_5068e_1 ?_
  show k_GO _ _ _ 4 _ [.int 1] σ _
  refine r_f_eq (by decide) 16 7 rfl (by decide) dJ0_charAt_5068e_4 ?_
  refine r_aload_n 0 rfl rfl 8 rfl dJ0_charAt_5068e_7 ?_
  refine r_sgv hi rfl 11 rfl dJ0_charAt_5068e_8 ?_
  refine r_iload_n 1 rfl rfl 12 rfl dJ0_charAt_5068e_11 ?_
  refine r_stD (c_J1_charAt E i hi x hin σ) (rest := []) rfl ml_J0_495 cw_J1_charAt_3b067 sw_J1_charAt_3b067 (by decide) (Nat.le_of_ble_eq_true rfl) 15 rfl dJ0_charAt_5068e_12 ?_
  show k_GO _ _ _ 15 _ [.int (k_sb i (k_n x))] σ _
  exact r_cret rfl (k_sb_n hi (by omega)) dJ0_charAt_5068e_15
section STR2
variable {ρ : Type} {E : k_EV} {em : ρ → Option Value} {pc : Nat} {lv : List (Nat × Value)} {st : List Value} {σ : k_Mem} {X A : Option (ρ × k_Mem)}
theorem r_slen {i : Nat} (hi : i < 10) (hr : (st.map fun v => v.category).sum ≤ 8) (q : Nat) (hq : pc + 3 = q) (d : decode m_X4_spells.2.1 pc = .ok (.invokevirtual 38, 3)) (k : k_GO m_X4_spells E em q lv (.int (nI (k_slen.getD i 0)) :: st) σ X) : k_GO m_X4_spells E em pc lv (k_rs E i :: st) σ X :=
  r_sD hi (c_J0_length E i hi σ) (rest := st) rfl rfl ml_X4_38 cw_J0_length_8abf5 vw_J0_length_8abf5 (by decide) hr q hq d k
theorem r_schar {i : Nat} {x : Int32} (hi : i < 10) (hr : (st.map fun v => v.category).sum ≤ 8) (q : Nat) (hq : pc + 3 = q) (d : decode m_X4_spells.2.1 pc = .ok (.invokevirtual 44, 3)) (k : k_GO m_X4_spells E em q lv (.int ((k_sbyt.getD i []).getD (k_n x) 0) :: st) σ A) : k_GO m_X4_spells E em pc lv (.int x :: k_rs E i :: st) σ (if k_in x (k_slen.getD i 0) then A else none) :=
  r_grd (fun hin => r_sD hi (c_J0_charAt E i hi x hin σ) (rest := st) rfl rfl ml_X4_44 cw_J0_charAt_5068e vw_J0_charAt_5068e (by decide) hr q hq d k)
end STR2
