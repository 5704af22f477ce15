/-! PURE: a line that tells of rain, a line that tells of a pen -/
section
variable {cb : Nat → Nat} {n p : Nat} {τ : k_TW} {T : Nat}
theorem q_nI1 {a : Nat} (ha : a < 128) : ¬ nI a = -1 := by rw [q_m1 (by omega)]; exact id
theorem q_ifr (σ : k_Mem) : (if (0 : Int32) = 0 ∨ (0 : Int32) = 1 then some ((0 : Int32), σ) else none) = some (0, σ) := if_pos (Or.inl rfl)
theorem q_rC_b {code place q : Nat} {σ1 : k_Mem} (hc : code ≠ 0) (h : σ1 3 2 = nI code ∧ σ1 3 3 = nI place) : q_rC code place q τ T 0 σ1 := by unfold q_rC; rw [if_neg hc]; exact ⟨rfl, h⟩
theorem q_rM_b {code place q : Nat} {σ1 : k_Mem} (hc : code ≠ 0) (h : σ1 67 12 = nI code ∧ σ1 67 13 = nI place) : q_rM cb n code place q τ T σ1 := by unfold q_rM; rw [if_neg hc]; exact h
theorem q_PH8 (h : q_PI τ T) {c : Nat} (hc : q_H τ c = true) : c < 8 := by
  rw [q_Hb] at hc
  have := h.2.1
  omega
theorem q_H_run (v c : Nat) : q_H (q_up τ 7 2 v) c = q_H τ c := q_H_eq (q_up_a (by omega)) (q_up_a (by omega)) c
theorem q_PI_run (h : q_PI τ T) {a : Nat} (ha : a < 8) : q_PI (q_up τ 7 2 (τ 7 2 ||| 2 ^ a)) T := by
  obtain ⟨h1, h2, h3, h4, h5, h6, h7, h8, h9⟩ := h
  refine ⟨by rw [q_up_a (by omega)]; exact h1, by rw [q_up_a (by omega)]; exact h2, by rw [q_up_s]; exact q_orl h3 ha, by rw [q_up_a (by omega)]; exact h4, h5, fun c hc => ?_, fun c hc => ?_, fun c hc => ?_, fun c hc => ?_⟩
  · rw [q_H_run] at hc
    rw [q_up_t (by omega), q_up_t (by omega), q_up_t (by omega), q_up_t (by omega)]; exact h6 c hc
  · rw [q_up_t (by omega)]; exact h7 c hc
  · have e : ∀ x, q_up τ 7 2 (τ 7 2 ||| 2 ^ a) 5 x = τ 5 x := fun x => q_up_t (by omega)
    rw [e, e]; exact h8 c hc
  · have e : ∀ x, q_up τ 7 2 (τ 7 2 ||| 2 ^ a) 6 x = τ 6 x := fun x => q_up_t (by omega)
    rw [e]
    refine ⟨(h9 c hc).1, fun b hb => ?_⟩
    rw [e]; exact (h9 c hc).2 b hb
theorem q_DC_run {σ : k_Mem} (h : q_DC τ T σ) (a : Nat) : q_DC (q_up τ 7 2 (τ 7 2 ||| 2 ^ a)) T (k_mset σ 38 9 (nI (τ 7 2 ||| 2 ^ a))) := by
  obtain ⟨h1, h2, h3, h4, h5, h6, h7⟩ := h
  refine ⟨by rw [q_ms, if_neg (by omega), q_up_a (by omega)]; exact h1, by rw [q_ms, if_neg (by omega), q_up_a (by omega)]; exact h2, by rw [q_ms, if_pos ⟨rfl, rfl⟩, q_up_s], by rw [q_ms, if_neg (by omega), q_up_a (by omega)]; exact h4, fun c hc => ?_, fun c hc => ?_, by rw [q_ms_ne _ _ (by decide)]; exact h7⟩
  · rw [q_H_run] at hc
    rw [q_up_t (by omega), q_up_t (by omega), q_up_t (by omega), q_up_t (by omega), q_ms_ne _ _ (by decide), q_ms_ne _ _ (by decide), q_ms_ne _ _ (by decide), q_ms_ne _ _ (by decide)]; exact h5 c hc
  · rw [q_up_t (by omega), q_up_t (by omega), q_up_t (by omega), q_ms_ne _ _ (by decide), q_ms_ne _ _ (by decide), q_ms_ne _ _ (by decide)]; exact h6 c hc
theorem q_DM_run (hP : q_PI τ T) {σ σ1 : k_Mem} (h : q_DM τ T σ) {a N : Nat} (ha : a < 8) (hN1 : N < 256) (hN2 : σ 67 8 = nI N) (hN3 : ∀ c, c < 8 → (N.testBit c = true ↔ q_NM τ T c)) (e69 : σ1 69 = σ 69) (e67 : ∀ j, 4 ≤ j → j < 8 → σ1 67 j = σ 67 j) (e8 : σ1 67 8 = nI (N ||| 2 ^ a)) : q_DM (q_up τ 7 2 (τ 7 2 ||| 2 ^ a)) T (k_mset σ1 69 44 (nI (τ 7 2 ||| 2 ^ a))) := by
  obtain ⟨h1, h2, h3, ⟨W, w1, w2, w3⟩, -, h6, h7, h8, h9, h10⟩ := h
  have s : ∀ j, (k_mset σ1 69 44 (nI (τ 7 2 ||| 2 ^ a))) 67 j = σ1 67 j := fun j => by rw [q_ms_ne _ _ (by decide)]
  have s69 : ∀ j, j ≠ 44 → (k_mset σ1 69 44 (nI (τ 7 2 ||| 2 ^ a))) 69 j = σ 69 j := fun j hj => by rw [q_ms, if_neg (fun g => hj g.2), e69]
  refine ⟨by rw [s, e67 4 (by omega) (by omega), q_up_a (by omega)]; exact h1, by rw [s, e67 5 (by omega) (by omega), q_up_a (by omega)]; exact h2, by rw [s, e67 6 (by omega) (by omega)]; exact h3, ⟨W, w1, by rw [s, e67 7 (by omega) (by omega)]; exact w2, fun c hc => by rw [q_up_t (by omega)]; exact w3 c hc⟩, ⟨N ||| 2 ^ a, q_orl hN1 ha, by rw [s]; exact e8, fun c hc => ?_⟩, fun c hc => ?_, fun c hc => ?_, fun c hc => ?_, by rw [q_ms, if_pos ⟨rfl, rfl⟩, q_up_s], by rw [s69 49 (by omega), q_up_a (by omega)]; exact h10⟩
  · rw [q_ort, hN3 c hc]
    unfold q_NM
    have e : ∀ x, q_up τ 7 2 (τ 7 2 ||| 2 ^ a) 6 x = τ 6 x := fun x => q_up_t (by omega)
    have e4 : ∀ x, q_up τ 7 2 (τ 7 2 ||| 2 ^ a) 4 x = τ 4 x := fun x => q_up_t (by omega)
    simp only [e, e4]
    rw [q_up_s, q_ort, q_up_t (by omega)]
    constructor
    · rintro ((h | h | h) | h)
      · exact Or.inl h
      · exact Or.inr (Or.inl (Or.inl h))
      · exact Or.inr (Or.inr h)
      · exact Or.inr (Or.inl (Or.inr h))
    · rintro (h | (h | h) | h)
      · exact Or.inl (Or.inl h)
      · exact Or.inl (Or.inr (Or.inl h))
      · exact Or.inr h
      · exact Or.inl (Or.inr (Or.inr h))
  · rw [q_H_run] at hc
    have c8 : c < 8 := q_PH8 hP hc
    rw [q_up_t (by omega), q_up_t (by omega), q_up_t (by omega), q_up_t (by omega), s69 _ (by omega), s69 _ (by omega), s69 _ (by omega), s69 _ (by omega)]; exact h6 c hc
  · rw [s69 _ (by omega), q_up_t (by omega)]; exact h7 c hc
  · rw [s69 _ (by omega), s69 _ (by omega), q_up_t (by omega), q_up_t (by omega)]; exact h8 c hc
theorem v_isRun38 {σ : k_Mem} (hD : q_DC τ T σ) (hu : τ 7 2 < 256) {a : Nat} (ha : a < 8) : f_X5_isRun 38 (nI a) σ = some (q_b ((τ 7 2).testBit a), σ) := by
  unfold f_X5_isRun
  rw [hD.2.2.1]
  simp only [q_bit1 (show τ 7 2 < 2 ^ 31 by omega) (show a < 32 by omega)]
  cases (τ 7 2).testBit a <;> rfl
theorem v_setRun38 {σ : k_Mem} (hD : q_DC τ T σ) (hu : τ 7 2 < 256) {a : Nat} (ha : a < 8) : f_X5_setRun 38 (nI a) 1 σ = some ((), k_mset σ 38 9 (nI (τ 7 2 ||| 2 ^ a))) := by
  unfold f_X5_setRun
  rw [hD.2.2.1, v_withBit hu ha, q_bd]
  rfl
theorem q_line_run (hn : n ≤ 160) (hp : p ≤ n) (hP : q_PI τ T) : q_JL cb n p τ T (fun σ => f_X1_runLine σ) (fun σ => q_rs 5 σ) := by
  obtain ⟨b1, b2, b3, b4, b5⟩ := q_lEn (cb := cb) hp
  obtain ⟨c1, c2, c3, c4, c5⟩ := q_lEn (cb := cb) b2
  have hu := hP.2.2.1
  by_cases hc : q_ncd cb n p 0 7 (τ 7 2) = 0
  · obtain ⟨hnc, htb⟩ := q_ncd0 hc
    obtain ⟨hT2, -, hV⟩ := q_nc0 hnc
    have hlt := b5 (by omega) (by omega)
    refine ⟨q_tc cb n (q_lE cb n p), q_lS cb n (q_lE cb n p), q_lE cb n (q_lE cb n p), q_up τ 7 2 (τ 7 2 ||| 2 ^ q_lV cb n p), T, by unfold q_tc; split <;> (try split) <;> omega, fun _ => ⟨by omega, c2, q_PI_run hP (by omega)⟩, fun σ hT h4 hD h32 => ?_, fun σ hM hA hD h71 h72 => ?_⟩
    · obtain ⟨σ1, e1, e2, e3, e4, e5, e6, e7⟩ := v_number hn hT hp h4 (lo := 0) (hi := 7) (by omega) (by omega)
      have hD1 : q_DC τ T σ1 := q_DC_sm hD (fun k k1 k2 => e2 k (by omega) (by omega)) (e4 5 (by omega) (by omega))
      dsimp only
      unfold f_X1_runLine
      rw [show f_X1_number 0 7 σ = _ from e1, q_bd, if_pos hnc, if_neg (q_nI1 (by omega)), v_isRun38 hD1 hu (by omega), q_bd, htb, if_pos (show q_b false = 0 from rfl), v_setRun38 hD1 hu (by omega), q_bd]
      obtain ⟨r, σ2, f1, f2, f3⟩ := v_tail hn b2 (σ := k_mset σ1 38 9 (nI (τ 7 2 ||| 2 ^ q_lV cb n p))) (q_TP_f hT (by rw [q_ms_ne _ _ (by decide)]; exact e3) (by rw [q_ms_ne _ _ (by decide)]; exact e2 2 (by omega) (by omega))) (by rw [q_ms_ne _ _ (by decide)]; exact e5.2.2.1 (by omega) (by omega)) (q_DC_run hD1 _) (by rw [q_ms_ne _ _ (by decide), e6 hnc]; exact h32)
      exact ⟨r, σ2, f1, q_fC_tr (q_fC_tr ⟨fun k a b _ => e2 k a b, e3, e4 4 (by omega) (by omega)⟩ (q_fC_set (by omega))) f2, f3⟩
    · dsimp only
      rw [q_rs_g hA (by omega)]
      obtain ⟨N, n1, n2, n3⟩ := hD.2.2.2.2.1
      obtain ⟨σ1, e1, e2, e3, e4, ⟨M, m1, m2, m3⟩, e5, e6⟩ := w_handHere hn hM hp hA (lo := 0) (hi := 7) (t := τ 7 2) (by omega) (by omega) (by omega) hu n1 n2
      unfold f_X7_readMore
      rw [if_pos (by decide), if_neg (by decide), if_pos rfl, if_pos (by decide), if_pos (by decide), show k_n 44 = 44 by decide, hD.2.2.2.2.2.2.2.2.1, show f_X7_handHere 0 7 (nI (τ 7 2)) σ = _ from e1, q_bd, if_pos (by decide), q_bd, if_pos hc, q_orb _ hu _ (by omega)]
      obtain ⟨σ2, f1, f2, f3⟩ := w_tail hn b2 (σ := k_mset σ1 69 44 (nI (τ 7 2 ||| 2 ^ q_lV cb n p))) (q_MP_f hM (q_fM_tr e2 (q_fM_set (Or.inl rfl)))) (q_LA_sm (e5 hc) (fun j _ _ => by rw [q_ms_ne _ _ (by decide)])) (q_DM_run hP hD (by omega) n1 n2 n3 e3 e4 (by rw [m2, m3 hc]))
      exact ⟨σ2, f1, q_fM_tr (q_fM_tr e2 (q_fM_set (Or.inl rfl))) f2, f3⟩
  · have h4' := q_ncd4 (cb := cb) (n := n) (p := p) (lo := 0) (hi := 7) (t := τ 7 2)
    refine ⟨q_ncd cb n p 0 7 (τ 7 2), q_lS cb n p, 0, τ, T, by omega, fun h => absurd h hc, fun σ hT h4 hD h32 => ?_, fun σ hM hA hD h71 h72 => ?_⟩
    · obtain ⟨σ1, e1, e2, e3, e4, e5, e6, e7⟩ := v_number hn hT hp h4 (lo := 0) (hi := 7) (by omega) (by omega)
      have hD1 : q_DC τ T σ1 := q_DC_sm hD (fun k k1 k2 => e2 k (by omega) (by omega)) (e4 5 (by omega) (by omega))
      have f0 : q_fC σ σ1 := ⟨fun k a b _ => e2 k a b, e3, e4 4 (by omega) (by omega)⟩
      dsimp only
      unfold f_X1_runLine
      rw [show f_X1_number 0 7 σ = _ from e1, q_bd]
      by_cases hnc : q_nc cb n p 0 7 = 0
      · have hV := (q_nc0 hnc).2.2
        have htb : (τ 7 2).testBit (q_lV cb n p) = true := by
          cases h : (τ 7 2).testBit (q_lV cb n p)
          · exact absurd (by unfold q_ncd; rw [if_pos hnc, h]; rfl) hc
          · rfl
        have hc4 : q_ncd cb n p 0 7 (τ 7 2) = 4 := by unfold q_ncd; rw [if_pos hnc, htb]; rfl
        rw [if_pos hnc, if_neg (q_nI1 (by omega)), v_isRun38 hD1 hu (by omega), q_bd, htb, if_neg (show ¬ q_b true = 0 by decide), v_refuse, q_bd, q_ifr, e5.2.1, hc4]
        exact ⟨_, _, rfl, q_fC_tr f0 (q_fC_tr (q_fC_set (Or.inr ⟨rfl, by omega⟩)) (q_fC_set (Or.inr ⟨rfl, by omega⟩))), q_rC_b (by omega) ⟨by rw [q_ms, if_neg (by omega), q_ms, if_pos ⟨rfl, rfl⟩]; rfl, by rw [q_ms, if_pos ⟨rfl, rfl⟩]⟩⟩
      · have hcc : q_ncd cb n p 0 7 (τ 7 2) = q_nc cb n p 0 7 := by unfold q_ncd; rw [if_neg hnc]
        rw [if_neg hnc, if_pos rfl, hcc]
        exact ⟨_, _, rfl, f0, q_rC_b hnc (e7 hnc)⟩
    · dsimp only
      by_cases h4 : q_lT cb n p = 4
      · obtain ⟨g1, g2, g3⟩ := q_rs_b hA h4 5
        have hc1 : q_ncd cb n p 0 7 (τ 7 2) = 1 := by
          have : q_nc cb n p 0 7 = 1 := by unfold q_nc; rw [if_pos h4]
          unfold q_ncd; rw [this, if_neg (by omega)]
        rw [hc1]
        exact ⟨σ, g1, q_fM_rf, q_rM_b (by omega) ⟨g2, g3⟩⟩
      · rw [q_rs_g hA h4]
        obtain ⟨N, n1, n2, n3⟩ := hD.2.2.2.2.1
        obtain ⟨σ1, e1, e2, e3, e4, ⟨M, m1, m2, m3⟩, e5, e6⟩ := w_handHere hn hM hp hA (lo := 0) (hi := 7) (t := τ 7 2) (by omega) (by omega) (by omega) hu n1 n2
        unfold f_X7_readMore
        rw [if_pos (by decide), if_neg (by decide), if_pos rfl, if_pos (by decide), if_pos (by decide), show k_n 44 = 44 by decide, hD.2.2.2.2.2.2.2.2.1, show f_X7_handHere 0 7 (nI (τ 7 2)) σ = _ from e1, q_bd, if_pos (by decide), q_bd]
        obtain ⟨k1, k2⟩ := e6 hc
        rw [w_tail_b (c := q_ncd cb n p 0 7 (τ 7 2)) (by omega) (by omega) (by rw [q_ms_ne _ _ (by decide)]; exact k1)]
        exact ⟨_, rfl, q_fM_tr e2 (q_fM_set (Or.inl rfl)), q_rM_b hc ⟨by rw [q_ms_ne _ _ (by decide)]; exact k1, by rw [q_ms_ne _ _ (by decide)]; exact k2⟩⟩
end
