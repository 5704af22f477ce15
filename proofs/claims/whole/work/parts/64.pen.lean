/-! PURE: a line that tells of a pen -/
section
variable {cb : Nat → Nat} {n p : Nat} {τ : k_TW} {T : Nat}
theorem q_PI_pen (h : q_PI τ T) {a b : Nat} (ha : a < 8) (hb : b < 8) : q_PI (q_up τ 4 a b) (T ||| 2 ^ a) := by
  obtain ⟨h1, h2, h3, h4, h5, h6, h7, h8, h9⟩ := h
  refine ⟨by rw [q_up_t (by omega)]; exact h1, by rw [q_up_t (by omega)]; exact h2, by rw [q_up_t (by omega)]; exact h3, by rw [q_up_t (by omega)]; exact h4, q_orl h5 ha, fun c hc => ?_, fun c hc => ?_, fun c hc => ?_, fun c hc => ?_⟩
  · rw [q_H_up (by omega)] at hc
    rw [q_up_t (by omega), q_up_t (by omega), q_up_t (by omega), q_up_t (by omega)]; exact h6 c hc
  · by_cases hca : c = a
    · subst hca
      rw [q_up_s]
      refine ⟨hb, fun g => ?_⟩
      have : (T ||| 2 ^ c).testBit c = true := q_ort.mpr (Or.inr rfl)
      rw [g] at this; cases this
    · rw [q_up_a hca]
      refine ⟨(h7 c hc).1, fun g => (h7 c hc).2 ?_⟩
      cases ht : T.testBit c
      · rfl
      · have : (T ||| 2 ^ a).testBit c = true := q_ort.mpr (Or.inl ht)
        rw [g] at this; cases this
  · have e : ∀ x, q_up τ 4 a b 5 x = τ 5 x := fun x => q_up_t (by omega)
    rw [e, e]; exact h8 c hc
  · have e : ∀ x, q_up τ 4 a b 6 x = τ 6 x := fun x => q_up_t (by omega)
    rw [e]
    refine ⟨(h9 c hc).1, fun d hd => ?_⟩
    rw [e]; exact (h9 c hc).2 d hd
theorem q_DC_pen {σ : k_Mem} (h : q_DC τ T σ) {a b : Nat} : q_DC (q_up τ 4 a b) (T ||| 2 ^ a) (k_mset (k_mset σ 3 5 (nI (T ||| 2 ^ a))) 43 a (nI b)) := by
  obtain ⟨h1, h2, h3, h4, h5, h6, h7⟩ := h
  have s : ∀ k, k ≠ 3 → k ≠ 43 → (k_mset (k_mset σ 3 5 (nI (T ||| 2 ^ a))) 43 a (nI b)) k = σ k := fun k k1 k2 => by rw [q_ms_ne _ _ k2, q_ms_ne _ _ k1]
  unfold q_DC
  rw [s 38 (by omega) (by omega), s 39 (by omega) (by omega), s 40 (by omega) (by omega), s 41 (by omega) (by omega), s 42 (by omega) (by omega), s 44 (by omega) (by omega), s 45 (by omega) (by omega), q_up_t (by omega), q_up_t (by omega), q_up_t (by omega), q_up_t (by omega)]
  refine ⟨h1, h2, h3, h4, fun c hc => ?_, fun c hc => ?_, by rw [q_ms_ne _ _ (by decide), q_ms, if_pos ⟨rfl, rfl⟩]⟩
  · rw [q_H_up (by omega)] at hc
    rw [q_up_t (by omega), q_up_t (by omega), q_up_t (by omega), q_up_t (by omega)]; exact h5 c hc
  · obtain ⟨g1, g2, g3⟩ := h6 c hc
    refine ⟨?_, by rw [q_up_t (by omega)]; exact g2, by rw [q_up_t (by omega)]; exact g3⟩
    by_cases hca : c = a
    · subst hca; rw [q_ms, if_pos ⟨rfl, rfl⟩, q_up_s]
    · rw [q_ms, if_neg (fun g => hca g.2), q_ms_ne _ _ (by decide), q_up_a hca]; exact g1
theorem q_DM_pen (hP : q_PI τ T) {σ σ1 : k_Mem} (h : q_DM τ T σ) {a b N : Nat} (ha : a < 8) (hb : b < 8) (hta : T.testBit a = false) (hN1 : N < 256) (hN3 : ∀ c, c < 8 → (N.testBit c = true ↔ q_NM τ T c)) (e69 : σ1 69 = σ 69) (e67 : ∀ j, 4 ≤ j → j < 8 → j ≠ 6 → σ1 67 j = σ 67 j) (e6 : σ1 67 6 = nI (T ||| 2 ^ a)) (e8 : σ1 67 8 = nI (N ||| 2 ^ a ||| 2 ^ b)) : q_DM (q_up τ 4 a b) (T ||| 2 ^ a) (k_mset σ1 69 (32 + a) (nI b - nI a)) := by
  obtain ⟨h1, h2, h3, ⟨W, w1, w2, w3⟩, -, h6, h7, h8, h9, h10⟩ := h
  have s : ∀ j, (k_mset σ1 69 (32 + a) (nI b - nI a)) 67 j = σ1 67 j := fun j => by rw [q_ms_ne _ _ (by decide)]
  have s69 : ∀ j, j ≠ 32 + a → (k_mset σ1 69 (32 + a) (nI b - nI a)) 69 j = σ 69 j := fun j hj => by rw [q_ms, if_neg (fun g => hj g.2), e69]
  refine ⟨by rw [s, e67 4 (by omega) (by omega) (by omega), q_up_t (by omega)]; exact h1, by rw [s, e67 5 (by omega) (by omega) (by omega), q_up_t (by omega)]; exact h2, by rw [s]; exact e6, ⟨W, w1, by rw [s, e67 7 (by omega) (by omega) (by omega)]; exact w2, fun c hc => by rw [q_up_t (by omega)]; exact w3 c hc⟩, ⟨N ||| 2 ^ a ||| 2 ^ b, q_orl (q_orl hN1 ha) hb, by rw [s]; exact e8, fun c hc => ?_⟩, fun c hc => ?_, fun c hc => ?_, fun c hc => ?_, by rw [s69 44 (by omega), q_up_t (by omega)]; exact h9, by rw [s69 49 (by omega), q_up_t (by omega)]; exact h10⟩
  · rw [q_ort, q_ort, hN3 c hc]
    unfold q_NM
    have e : ∀ x, q_up τ 4 a b 6 x = τ 6 x := fun x => q_up_t (by omega)
    simp only [e]
    rw [q_up_t (by omega), q_up_t (by omega), q_ort]
    constructor
    · rintro (((h | h | h | h | ⟨x, x1, x2, x3⟩) | h) | h)
      · exact Or.inl (Or.inl h)
      · exact Or.inr (Or.inl h)
      · exact Or.inr (Or.inr (Or.inl h))
      · exact Or.inr (Or.inr (Or.inr (Or.inl h)))
      · have hxa : x ≠ a := fun e => by subst e; rw [hta] at x2; cases x2
        exact Or.inr (Or.inr (Or.inr (Or.inr ⟨x, x1, q_ort.mpr (Or.inl x2), by rw [q_up_a hxa]; exact x3⟩)))
      · exact Or.inl (Or.inr h)
      · exact Or.inr (Or.inr (Or.inr (Or.inr ⟨a, ha, q_ort.mpr (Or.inr rfl), by rw [q_up_s]; exact h.symm⟩)))
    · rintro ((h | h) | h | h | h | ⟨x, x1, x2, x3⟩)
      · exact Or.inl (Or.inl (Or.inl h))
      · exact Or.inl (Or.inr h)
      · exact Or.inl (Or.inl (Or.inr (Or.inl h)))
      · exact Or.inl (Or.inl (Or.inr (Or.inr (Or.inl h))))
      · exact Or.inl (Or.inl (Or.inr (Or.inr (Or.inr (Or.inl h)))))
      · by_cases hxa : x = a
        · subst hxa; rw [q_up_s] at x3; exact Or.inr x3.symm
        · rw [q_up_a hxa] at x3
          exact Or.inl (Or.inl (Or.inr (Or.inr (Or.inr (Or.inr ⟨x, x1, (q_ort.mp x2).resolve_right hxa, x3⟩)))))
  · rw [q_H_up (by omega)] at hc
    have c8 : c < 8 := q_PH8 hP hc
    rw [q_up_t (by omega), q_up_t (by omega), q_up_t (by omega), q_up_t (by omega), s69 _ (by omega), s69 _ (by omega), s69 _ (by omega), s69 _ (by omega)]; exact h6 c hc
  · by_cases hca : c = a
    · subst hca; rw [q_ms, if_pos ⟨rfl, rfl⟩, q_up_s]
    · rw [s69 _ (by omega), q_up_a hca]; exact h7 c hc
  · rw [s69 _ (by omega), s69 _ (by omega), q_up_t (by omega), q_up_t (by omega)]; exact h8 c hc
/-- a number that fails first, in the class: its told bit stands in t -/
theorem v_numbad (hn : n ≤ 160) (hp : p ≤ n) {σ : k_Mem} (hT : q_TP cb n σ) (h4 : σ 1 4 = nI p) {lo hi t : Nat} (hlo : lo < 128) (hhi : hi < 8) (hc : q_ncd cb n p lo hi t ≠ 0) : ∃ σ1, q_fC σ σ1 ∧ (∀ k, k ≠ 1 → k ≠ 3 → σ1 k = σ k) ∧ σ1 3 5 = σ 3 5 ∧ ((f_X1_number (nI lo) (nI hi) σ = some (-1, σ1) ∧ σ1 3 2 = nI (q_ncd cb n p lo hi t) ∧ σ1 3 3 = nI (q_lS cb n p)) ∨ (f_X1_number (nI lo) (nI hi) σ = some (nI (q_lV cb n p), σ1) ∧ lo ≤ q_lV cb n p ∧ q_lV cb n p ≤ hi ∧ t.testBit (q_lV cb n p) = true ∧ q_ncd cb n p lo hi t = 4 ∧ σ1 1 3 = nI (q_lS cb n p))) := by
  obtain ⟨σ1, e1, e2, e3, e4, e5, e6, e7⟩ := v_number hn hT hp h4 (lo := lo) (hi := hi) (by omega) (by omega)
  refine ⟨σ1, ⟨fun k a b _ => e2 k a b, e3, e4 4 (by omega) (by omega)⟩, e2, e4 5 (by omega) (by omega), ?_⟩
  by_cases hnc : q_nc cb n p lo hi = 0
  · have htb : t.testBit (q_lV cb n p) = true := by
      cases h : t.testBit (q_lV cb n p)
      · exact absurd (by unfold q_ncd; rw [if_pos hnc, h]; rfl) hc
      · rfl
    rw [if_pos hnc] at e1
    exact Or.inr ⟨e1, (q_nc0 hnc).2.1, (q_nc0 hnc).2.2, htb, by unfold q_ncd; rw [if_pos hnc, htb]; rfl, e5.2.1⟩
  · have hcc : q_ncd cb n p lo hi t = q_nc cb n p lo hi := by unfold q_ncd; rw [if_neg hnc]
    rw [if_neg hnc] at e1
    rw [hcc]
    exact Or.inl ⟨e1, e7 hnc⟩
theorem v_numok (hn : n ≤ 160) (hp : p ≤ n) {σ : k_Mem} (hT : q_TP cb n σ) (h4 : σ 1 4 = nI p) {lo hi t : Nat} (hlo : lo < 128) (hhi : hi < 128) (hc : q_ncd cb n p lo hi t = 0) : ∃ σ1, q_fC σ σ1 ∧ (∀ k, k ≠ 1 → k ≠ 3 → σ1 k = σ k) ∧ σ1 3 = σ 3 ∧ f_X1_number (nI lo) (nI hi) σ = some (nI (q_lV cb n p), σ1) ∧ q_TP cb n σ1 ∧ σ1 1 4 = nI (q_lE cb n p) ∧ σ1 1 3 = nI (q_lS cb n p) := by
  obtain ⟨σ1, e1, e2, e3, e4, e5, e6, e7⟩ := v_number hn hT hp h4 (lo := lo) (hi := hi) hlo hhi
  obtain ⟨hnc, -⟩ := q_ncd0 hc
  have hT2 := (q_nc0 hnc).1
  rw [if_pos hnc] at e1
  exact ⟨σ1, ⟨fun k a b _ => e2 k a b, e3, e4 4 (by omega) (by omega)⟩, e2, e6 hnc, e1, q_TP_f hT e3 (e2 2 (by omega) (by omega)), e5.2.2.1 (by omega) (by omega), e5.2.1⟩
theorem q_ref2 {σ : k_Mem} (x : Int32) : k_bd (f_X1_refuse x σ) (fun r4 σ4 => if r4 = 0 ∨ r4 = 1 then some (r4, σ4) else none) = some (0, k_mset (k_mset σ 3 2 x) 3 3 (σ 1 3)) := by
  rw [v_refuse, q_bd, q_ifr]
theorem q_rC_4 {σ : k_Mem} {s q : Nat} (h : σ 1 3 = nI s) : q_fC σ (k_mset (k_mset σ 3 2 4) 3 3 (σ 1 3)) ∧ q_rC 4 s q τ T 0 (k_mset (k_mset σ 3 2 4) 3 3 (σ 1 3)) := by
  refine ⟨q_fC_tr (q_fC_set (Or.inr ⟨rfl, by omega⟩)) (q_fC_set (Or.inr ⟨rfl, by omega⟩)), q_rC_b (by omega) ⟨by rw [q_ms, if_neg (by omega), q_ms, if_pos ⟨rfl, rfl⟩]; rfl, by rw [q_ms, if_pos ⟨rfl, rfl⟩, h]⟩⟩
theorem q_ncdT (h : q_lT cb n p = 4) (lo hi t : Nat) : q_ncd cb n p lo hi t = 1 := by
  have : q_nc cb n p lo hi = 1 := by unfold q_nc; rw [if_pos h]
  unfold q_ncd; rw [this, if_neg (by omega)]
theorem q_line_pen (hn : n ≤ 160) (hp : p ≤ n) (hP : q_PI τ T) : q_JL cb n p τ T (fun σ => f_X1_penLine σ) (fun σ => q_rs 4 σ) := by
  obtain ⟨b1, b2, b3, b4, b5⟩ := q_lEn (cb := cb) hp
  obtain ⟨c1, c2, c3, c4, c5⟩ := q_lEn (cb := cb) b2
  obtain ⟨d1, d2, d3, d4, d5⟩ := q_lEn (cb := cb) c2
  have hu := hP.2.2.2.2.1
  by_cases hc : q_ncd cb n p 0 7 T = 0
  · obtain ⟨hnc, htb⟩ := q_ncd0 hc
    obtain ⟨hT2, -, hV⟩ := q_nc0 hnc
    have hlt := b5 (by omega) (by omega)
    have cls1 : ∀ σ, q_TP cb n σ → σ 1 4 = nI p → q_DC τ T σ → ∃ σ1, q_fC σ σ1 ∧ (∀ k, k ≠ 1 → k ≠ 3 → σ1 k = σ k) ∧ σ1 3 = σ 3 ∧ q_TP cb n σ1 ∧ σ1 1 4 = nI (q_lE cb n p) ∧ f_X1_penLine σ = k_bd (f_X1_number 0 7 σ1) (fun r6 σ6 => if r6 = (-1) then some (0, σ6) else k_bd (f_X1_follows 3 (k_mset (k_mset σ6 3 5 ((σ6 3 5) ||| (k_shl 1 (nI (q_lV cb n p))))) 43 (q_lV cb n p) r6)) (fun r8 σ8 => if r8 = 0 ∨ r8 = 1 then some (r8, σ8) else none)) := by
      intro σ hT h4 hD
      obtain ⟨σ1, e1, e2, e3, e4, e5, e6, e7⟩ := v_numok hn hp hT h4 (lo := 0) (hi := 7) (t := T) (by omega) (by omega) hc
      refine ⟨σ1, e1, e2, e3, e5, e6, ?_⟩
      unfold f_X1_penLine
      rw [show f_X1_number 0 7 σ = _ from e4, q_bd, if_neg (q_nI1 (by omega)), e3, hD.2.2.2.2.2.2, if_neg (show ¬ ((k_shr (nI T) (nI (q_lV cb n p))) &&& 1) = 1 by rw [q_bit1 (by omega) (by omega), htb]; decide), q_inT (show q_lV cb n p < 8 by omega) (by omega)]
      simp only [q_n (show q_lV cb n p < 2 ^ 31 by omega), eq_self, if_true]
    have ref1 : ∀ σ, q_MP cb n σ → q_LA cb n p σ → q_DM τ T σ → ∀ N, N < 256 → σ 67 8 = nI N → ∃ σ3, q_fM σ σ3 ∧ σ3 69 = σ 69 ∧ (∀ j, 4 ≤ j → j < 8 → j ≠ 6 → σ3 67 j = σ 67 j) ∧ σ3 67 6 = nI (T ||| 2 ^ q_lV cb n p) ∧ σ3 67 8 = nI (N ||| 2 ^ q_lV cb n p) ∧ q_LA cb n (q_lE cb n p) σ3 ∧ q_rs 4 σ = k_bd (k_bd (f_X7_handHere (nI 0) (nI 7) (nI 0) σ3) (fun r4 σ4 => some ((), (k_mset σ4 69 (32 + q_lV cb n p) (r4 - nI (q_lV cb n p)))))) (fun _ σ7 => q_tl σ7) := by
      intro σ hM hA hD N n1 n2
      rw [q_rs_g hA (by omega)]
      obtain ⟨σ1, e1, e2, e3, e4, ⟨M, m1, m2, m3⟩, e5, e6⟩ := w_handHere hn hM hp hA (lo := 0) (hi := 7) (t := T) (by omega) (by omega) (by omega) hu n1 n2
      refine ⟨k_mset σ1 67 6 (nI (T ||| 2 ^ q_lV cb n p)), q_fM_tr e2 (q_fM_set (Or.inr ⟨rfl, by omega⟩)), by rw [q_ms_ne _ _ (by decide)]; exact e3, fun j j1 j2 j3 => by rw [q_ms, if_neg (fun g => j3 g.2)]; exact e4 j j1 j2, by rw [q_ms, if_pos ⟨rfl, rfl⟩], by rw [q_ms, if_neg (by omega), m2, m3 hc], q_LA_sm (e5 hc) (fun j j1 j2 => by rw [q_ms, if_neg (by omega)]), ?_⟩
      unfold f_X7_readMore
      rw [if_pos (by decide), if_pos rfl, hD.2.2.1, show f_X7_handHere 0 7 (nI T) σ = _ from e1, q_bd, if_pos hc, e4 6 (by omega) (by omega), hD.2.2.1, q_orb _ hu _ (by omega), show (32 : Int32) = nI 32 from rfl, q_add, q_inT (show 32 + q_lV cb n p < 50 by omega) (by omega)]
      simp only [q_n (show 32 + q_lV cb n p < 2 ^ 31 by omega), eq_self, if_true]
      rfl
    by_cases hd : q_ncd cb n (q_lE cb n p) 0 7 0 = 0
    · obtain ⟨hnd, -⟩ := q_ncd0 hd
      obtain ⟨hT3, -, hV3⟩ := q_nc0 hnd
      have hlt2 := c5 (by omega) (by omega)
      refine ⟨q_tc cb n (q_lE cb n (q_lE cb n p)), q_lS cb n (q_lE cb n (q_lE cb n p)), q_lE cb n (q_lE cb n (q_lE cb n p)), q_up τ 4 (q_lV cb n p) (q_lV cb n (q_lE cb n p)), T ||| 2 ^ q_lV cb n p, by unfold q_tc; split <;> (try split) <;> omega, fun _ => ⟨by omega, d2, q_PI_pen hP (by omega) (by omega)⟩, fun σ hT h4 hD h32 => ?_, fun σ hM hA hD h71 h72 => ?_⟩
      · obtain ⟨σ1, e1, e2, e3, e4, e5, e6⟩ := cls1 σ hT h4 hD
        obtain ⟨σ2, f1, f2, f3, f4, f5, f6, -⟩ := v_numok hn b2 e4 e5 (lo := 0) (hi := 7) (t := 0) (by omega) (by omega) hd
        have hD2 : q_DC τ T σ2 := q_DC_sm hD (fun k k1 k2 => by rw [f2 k (by omega) (by omega), e2 k (by omega) (by omega)]) (by rw [f3, e3])
        dsimp only
        rw [e6, show f_X1_number 0 7 σ1 = _ from f4, q_bd, if_neg (q_nI1 (by omega)), hD2.2.2.2.2.2.2, q_orb _ hu _ (by omega)]
        generalize hσ3 : k_mset (k_mset σ2 3 5 (nI (T ||| 2 ^ q_lV cb n p))) 43 (q_lV cb n p) (nI (q_lV cb n (q_lE cb n p))) = σ3
        have g3 : q_fC σ2 σ3 := by rw [← hσ3]; exact q_fC_tr (q_fC_set (Or.inr ⟨rfl, by omega⟩)) (q_fC_set (Or.inl (by omega)))
        have g1 : σ3 1 = σ2 1 := by rw [← hσ3, q_ms_ne _ _ (by decide), q_ms_ne _ _ (by decide)]
        obtain ⟨r, σ4, t1, t2, t3⟩ := v_tail hn c2 (σ := σ3) (q_TP_f f5 (by rw [g1]) (g3.1 2 (by omega) (by omega) (by omega))) (by rw [g1]; exact f6) (by rw [← hσ3]; exact q_DC_pen hD2) (by rw [← hσ3, q_ms_ne _ _ (by decide), q_ms, if_neg (by omega), f3, e3]; exact h32)
        exact ⟨r, σ4, t1, q_fC_tr (q_fC_tr e1 f1) (q_fC_tr g3 t2), t3⟩
      · obtain ⟨N, n1, n2, n3⟩ := hD.2.2.2.2.1
        obtain ⟨σ3, e1, e2, e3, e4, e5, e6, e7⟩ := ref1 σ hM hA hD N n1 n2
        obtain ⟨σ4, f1, f2, f3, f4, ⟨M, m1, m2, m3⟩, f5, f6⟩ := w_handHere hn (q_MP_f hM e1) b2 e6 (lo := 0) (hi := 7) (t := 0) (by omega) (by omega) (by omega) (by omega) (q_orl n1 (show q_lV cb n p < 8 by omega)) e5
        dsimp only
        rw [e7, f1, q_bd, q_bd, if_pos hd]
        obtain ⟨σ5, t1, t2, t3⟩ := w_tail hn c2 (σ := k_mset σ4 69 (32 + q_lV cb n p) (nI (q_lV cb n (q_lE cb n p)) - nI (q_lV cb n p))) (q_MP_f hM (q_fM_tr e1 (q_fM_tr f2 (q_fM_set (Or.inl rfl))))) (q_LA_sm (f5 hd) (fun j _ _ => by rw [q_ms_ne _ _ (by decide)])) (q_DM_pen hP hD (by omega) (by omega) htb n1 n3 (by rw [f3, e2]) (fun j j1 j2 j3 => by rw [f4 j j1 j2, e3 j j1 j2 j3]) (by rw [f4 6 (by omega) (by omega), e4]) (by rw [m2, m3 hd]))
        exact ⟨σ5, t1, q_fM_tr (q_fM_tr e1 (q_fM_tr f2 (q_fM_set (Or.inl rfl)))) t2, t3⟩
    · have h4' := q_ncd4 (cb := cb) (n := n) (p := q_lE cb n p) (lo := 0) (hi := 7) (t := 0)
      refine ⟨q_ncd cb n (q_lE cb n p) 0 7 0, q_lS cb n (q_lE cb n p), 0, τ, T, by omega, fun h => absurd h hd, fun σ hT h4 hD h32 => ?_, fun σ hM hA hD h71 h72 => ?_⟩
      · obtain ⟨σ1, e1, e2, e3, e4, e5, e6⟩ := cls1 σ hT h4 hD
        obtain ⟨σ2, f1, f2, f3, f4⟩ := v_numbad hn b2 e4 e5 (lo := 0) (hi := 7) (t := 0) (by omega) (by omega) hd
        dsimp only
        rcases f4 with ⟨g1, g2⟩ | ⟨-, -, -, g, -⟩
        · rw [e6, show f_X1_number 0 7 σ1 = _ from g1, q_bd, if_pos rfl]
          exact ⟨_, _, rfl, q_fC_tr e1 f1, q_rC_b hd g2⟩
        · rw [Nat.zero_testBit] at g; cases g
      · obtain ⟨N, n1, n2, n3⟩ := hD.2.2.2.2.1
        obtain ⟨σ3, e1, e2, e3, e4, e5, e6, e7⟩ := ref1 σ hM hA hD N n1 n2
        obtain ⟨σ4, f1, f2, f3, f4, ⟨M, m1, m2, m3⟩, f5, f6⟩ := w_handHere hn (q_MP_f hM e1) b2 e6 (lo := 0) (hi := 7) (t := 0) (by omega) (by omega) (by omega) (by omega) (q_orl n1 (show q_lV cb n p < 8 by omega)) e5
        obtain ⟨k1, k2⟩ := f6 hd
        dsimp only
        rw [e7, f1, q_bd, q_bd, w_tail_b (c := q_ncd cb n (q_lE cb n p) 0 7 0) (by omega) (by omega) (by rw [q_ms_ne _ _ (by decide)]; exact k1)]
        exact ⟨_, rfl, q_fM_tr e1 (q_fM_tr f2 (q_fM_set (Or.inl rfl))), q_rM_b hd ⟨by rw [q_ms_ne _ _ (by decide)]; exact k1, by rw [q_ms_ne _ _ (by decide)]; exact k2⟩⟩
  · have h4' := q_ncd4 (cb := cb) (n := n) (p := p) (lo := 0) (hi := 7) (t := T)
    refine ⟨q_ncd cb n p 0 7 T, q_lS cb n p, 0, τ, T, by omega, fun h => absurd h hc, fun σ hT h4 hD h32 => ?_, fun σ hM hA hD h71 h72 => ?_⟩
    · obtain ⟨σ1, f1, f2, f3, f4⟩ := v_numbad hn hp hT h4 (lo := 0) (hi := 7) (t := T) (by omega) (by omega) hc
      dsimp only
      unfold f_X1_penLine
      rcases f4 with ⟨g1, g2⟩ | ⟨g1, -, gV, g2, g3, g4⟩
      · rw [show f_X1_number 0 7 σ = _ from g1, q_bd, if_pos rfl]
        exact ⟨_, _, rfl, f1, q_rC_b hc g2⟩
      · rw [show f_X1_number 0 7 σ = _ from g1, q_bd, if_neg (q_nI1 (by omega)), f3, hD.2.2.2.2.2.2, if_pos (show ((k_shr (nI T) (nI (q_lV cb n p))) &&& 1) = 1 by rw [q_bit1 (by omega) (by omega)]; exact g2), q_ref2, g3]
        exact ⟨_, _, rfl, q_fC_tr f1 (q_rC_4 (τ := τ) (T := T) (q := 0) g4).1, (q_rC_4 g4).2⟩
    · dsimp only
      by_cases h4 : q_lT cb n p = 4
      · obtain ⟨g1, g2, g3⟩ := q_rs_b hA h4 4
        rw [q_ncdT h4]
        exact ⟨σ, g1, q_fM_rf, q_rM_b (by omega) ⟨g2, g3⟩⟩
      · rw [q_rs_g hA h4]
        obtain ⟨N, n1, n2, n3⟩ := hD.2.2.2.2.1
        obtain ⟨σ1, e1, e2, e3, e4, ⟨M, m1, m2, m3⟩, e5, e6⟩ := w_handHere hn hM hp hA (lo := 0) (hi := 7) (t := T) (by omega) (by omega) (by omega) hu n1 n2
        obtain ⟨k1, k2⟩ := e6 hc
        unfold f_X7_readMore
        rw [if_pos (by decide), if_pos rfl, hD.2.2.1, show f_X7_handHere 0 7 (nI T) σ = _ from e1, q_bd, if_neg hc, w_handHere_b (c := q_ncd cb n p 0 7 T) (by omega) (by omega) (by rw [q_ms, if_neg (by omega)]; exact k1), q_bd, if_pos (show k_in (32 + nI 0) 50 = true by decide), q_bd]
        generalize hF : k_mset (k_mset (k_mset σ1 67 6 _) 67 8 _) 69 _ _ = σF
        have hf : q_fM σ1 σF := by rw [← hF]; exact q_fM_tr (q_fM_tr (q_fM_set (Or.inr ⟨rfl, by omega⟩)) (q_fM_set (Or.inr ⟨rfl, by omega⟩))) (q_fM_set (Or.inl rfl))
        have h12 : σF 67 12 = σ1 67 12 ∧ σF 67 13 = σ1 67 13 := by
          rw [← hF]
          exact ⟨by rw [q_ms_ne _ _ (by decide), q_ms, if_neg (by omega), q_ms, if_neg (by omega)], by rw [q_ms_ne _ _ (by decide), q_ms, if_neg (by omega), q_ms, if_neg (by omega)]⟩
        rw [w_tail_b (c := q_ncd cb n p 0 7 T) (by omega) (by omega) (by rw [h12.1]; exact k1)]
        exact ⟨_, rfl, q_fM_tr e2 hf, q_rM_b hc ⟨by rw [h12.1]; exact k1, by rw [h12.2]; exact k2⟩⟩
end
