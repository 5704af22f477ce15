/-! PURE: a line that tells of a wedding -/
section
variable {cb : Nat → Nat} {n p : Nat} {τ : k_TW} {T : Nat}
def q_uw (τ : k_TW) (a b : Nat) : k_TW := q_up (q_up τ 5 a (b + 1)) 5 b (a + 1)
theorem q_uw_t {a b t c : Nat} (h : t ≠ 5) : q_uw τ a b t c = τ t c := by unfold q_uw; rw [q_up_t h, q_up_t h]
theorem q_uw_5 (a b c : Nat) : q_uw τ a b 5 c = if c = b then a + 1 else if c = a then b + 1 else τ 5 c := by
  unfold q_uw
  by_cases hb : c = b
  · subst hb; rw [q_up_s, if_pos rfl]
  · rw [q_up_a hb, if_neg hb]
    by_cases ha : c = a
    · subst ha; rw [q_up_s, if_pos rfl]
    · rw [q_up_a ha, if_neg ha]
theorem q_uw_H {a b : Nat} (c : Nat) : q_H (q_uw τ a b) c = q_H τ c := q_H_eq (q_uw_t (by omega)) (q_uw_t (by omega)) c
theorem q_PI_wed (h : q_PI τ T) {a b : Nat} (ha : a < 4) (hb : 4 ≤ b) (hb8 : b < 8) (ha0 : τ 5 a = 0) (hb0 : τ 5 b = 0) : q_PI (q_uw τ a b) T := by
  obtain ⟨h1, h2, h3, h4, h5, h6, h7, h8, h9⟩ := h
  refine ⟨by rw [q_uw_t (by omega)]; exact h1, by rw [q_uw_t (by omega)]; exact h2, by rw [q_uw_t (by omega)]; exact h3, by rw [q_uw_t (by omega)]; exact h4, h5, fun c hc => ?_, fun c hc => ?_, fun c hc => ?_, fun c hc => ?_⟩
  · rw [q_uw_H] at hc
    rw [q_uw_t (by omega), q_uw_t (by omega), q_uw_t (by omega), q_uw_t (by omega)]; exact h6 c hc
  · rw [q_uw_t (by omega)]; exact h7 c hc
  · rw [q_uw_5, q_uw_5]
    by_cases hcb : c = b
    · subst hcb
      rw [if_pos rfl]
      refine ⟨by omega, fun _ => ⟨by omega, ?_⟩⟩
      rw [show a + 1 - 1 = a by omega, if_neg (by omega), if_pos rfl]
    · rw [if_neg hcb]
      by_cases hca : c = a
      · subst hca
        rw [if_pos rfl]
        refine ⟨by omega, fun _ => ⟨by omega, ?_⟩⟩
        rw [show b + 1 - 1 = b by omega, if_pos rfl]
      · rw [if_neg hca]
        refine ⟨(h8 c hc).1, fun g => ?_⟩
        obtain ⟨k1, k2⟩ := (h8 c hc).2 g
        refine ⟨k1, ?_⟩
        rw [if_neg (fun e => by rw [e] at k2; omega), if_neg (fun e => by rw [e] at k2; omega)]
        exact k2
  · have e : ∀ x, q_uw τ a b 6 x = τ 6 x := fun x => q_uw_t (by omega)
    rw [e]
    refine ⟨(h9 c hc).1, fun d hd => ?_⟩
    rw [e]; exact (h9 c hc).2 d hd
theorem q_DC_wed {σ : k_Mem} (h : q_DC τ T σ) {a b : Nat} : q_DC (q_uw τ a b) T (k_mset (k_mset σ 44 a (nI b)) 44 b (nI a)) := by
  obtain ⟨h1, h2, h3, h4, h5, h6, h7⟩ := h
  have s : ∀ k, k ≠ 44 → (k_mset (k_mset σ 44 a (nI b)) 44 b (nI a)) k = σ k := fun k k1 => by rw [q_ms_ne _ _ k1, q_ms_ne _ _ k1]
  unfold q_DC
  rw [s 38 (by omega), s 39 (by omega), s 40 (by omega), s 41 (by omega), s 42 (by omega), s 43 (by omega), s 45 (by omega), s 3 (by omega), q_uw_t (by omega), q_uw_t (by omega), q_uw_t (by omega), q_uw_t (by omega)]
  refine ⟨h1, h2, h3, h4, fun c hc => ?_, fun c hc => ?_, h7⟩
  · rw [q_uw_H] at hc
    rw [q_uw_t (by omega), q_uw_t (by omega), q_uw_t (by omega), q_uw_t (by omega)]; exact h5 c hc
  · obtain ⟨g1, g2, g3⟩ := h6 c hc
    refine ⟨by rw [q_uw_t (by omega)]; exact g1, ?_, by rw [q_uw_t (by omega)]; exact g3⟩
    have m1 : ∀ x : Nat, nI x = nI (x + 1) - 1 := fun x => by rw [show (1 : Int32) = nI 1 from rfl, q_sub (by omega)]; rfl
    rw [q_uw_5]
    by_cases hcb : c = b
    · subst hcb; rw [q_ms, if_pos ⟨rfl, rfl⟩, if_pos rfl]; exact m1 _
    · rw [q_ms, if_neg (fun g => hcb g.2), if_neg hcb]
      by_cases hca : c = a
      · subst hca; rw [q_ms, if_pos ⟨rfl, rfl⟩, if_pos rfl]; exact m1 _
      · rw [q_ms, if_neg (fun g => hca g.2), if_neg hca]; exact g2
theorem q_DM_wed (hP : q_PI τ T) {σ σ1 : k_Mem} (h : q_DM τ T σ) {a b N W : Nat} (ha : a < 4) (hb : 4 ≤ b) (hb8 : b < 8) (hN1 : N < 256) (hN3 : ∀ c, c < 8 → (N.testBit c = true ↔ q_NM τ T c)) (hW1 : W < 256) (hW3 : ∀ c, c < 8 → (W.testBit c = true ↔ τ 5 c ≠ 0)) (e69 : σ1 69 = σ 69) (e67 : ∀ j, 4 ≤ j → j < 7 → σ1 67 j = σ 67 j) (e7 : σ1 67 7 = nI (W ||| 2 ^ a ||| 2 ^ b)) (e8 : σ1 67 8 = nI (N ||| 2 ^ a ||| 2 ^ b)) : q_DM (q_uw τ a b) T (k_mset σ1 69 (45 + a) (nI b)) := by
  obtain ⟨h1, h2, h3, -, -, h6, h7, h8, h9, h10⟩ := h
  have s : ∀ j, (k_mset σ1 69 (45 + a) (nI b)) 67 j = σ1 67 j := fun j => by rw [q_ms_ne _ _ (by decide)]
  have s69 : ∀ j, j ≠ 45 + a → (k_mset σ1 69 (45 + a) (nI b)) 69 j = σ 69 j := fun j hj => by rw [q_ms, if_neg (fun g => hj g.2), e69]
  have n5 : ∀ c, q_uw τ a b 5 c ≠ 0 ↔ τ 5 c ≠ 0 ∨ c = a ∨ c = b := fun c => by
    rw [q_uw_5]
    by_cases hcb : c = b
    · rw [if_pos hcb]; exact ⟨fun _ => Or.inr (Or.inr hcb), fun _ => by omega⟩
    · rw [if_neg hcb]
      by_cases hca : c = a
      · rw [if_pos hca]; exact ⟨fun _ => Or.inr (Or.inl hca), fun _ => by omega⟩
      · rw [if_neg hca]; exact ⟨Or.inl, fun h => h.elim id (fun h => h.elim (fun g => absurd g hca) (fun g => absurd g hcb))⟩
  refine ⟨by rw [s, e67 4 (by omega) (by omega), q_uw_t (by omega)]; exact h1, by rw [s, e67 5 (by omega) (by omega), q_uw_t (by omega)]; exact h2, by rw [s, e67 6 (by omega) (by omega)]; exact h3, ⟨W ||| 2 ^ a ||| 2 ^ b, q_orl (q_orl hW1 (by omega)) hb8, by rw [s]; exact e7, fun c hc => ?_⟩, ⟨N ||| 2 ^ a ||| 2 ^ b, q_orl (q_orl hN1 (by omega)) hb8, by rw [s]; exact e8, fun c hc => ?_⟩, fun c hc => ?_, fun c hc => ?_, fun c hc => ?_, by rw [s69 44 (by omega), q_uw_t (by omega)]; exact h9, by rw [s69 49 (by omega), q_uw_t (by omega)]; exact h10⟩
  · rw [q_ort, q_ort, n5, hW3 c hc, or_assoc]
  · rw [q_ort, q_ort, hN3 c hc]
    unfold q_NM
    have e : ∀ x, q_uw τ a b 4 x = τ 4 x := fun x => q_uw_t (by omega)
    have e6 : ∀ x, q_uw τ a b 6 x = τ 6 x := fun x => q_uw_t (by omega)
    simp only [e, e6]
    rw [q_uw_t (by omega), n5]
    constructor
    · rintro (((h | h | h | h) | h) | h)
      · exact Or.inl h
      · exact Or.inr (Or.inl h)
      · exact Or.inr (Or.inr (Or.inl (Or.inl h)))
      · exact Or.inr (Or.inr (Or.inr h))
      · exact Or.inr (Or.inr (Or.inl (Or.inr (Or.inl h))))
      · exact Or.inr (Or.inr (Or.inl (Or.inr (Or.inr h))))
    · rintro (h | h | (h | h | h) | h)
      · exact Or.inl (Or.inl (Or.inl h))
      · exact Or.inl (Or.inl (Or.inr (Or.inl h)))
      · exact Or.inl (Or.inl (Or.inr (Or.inr (Or.inl h))))
      · exact Or.inl (Or.inr h)
      · exact Or.inr h
      · exact Or.inl (Or.inl (Or.inr (Or.inr (Or.inr h))))
  · rw [q_uw_H] at hc
    have c8 : c < 8 := q_PH8 hP hc
    rw [q_uw_t (by omega), q_uw_t (by omega), q_uw_t (by omega), q_uw_t (by omega), s69 _ (by omega), s69 _ (by omega), s69 _ (by omega), s69 _ (by omega)]; exact h6 c hc
  · rw [s69 _ (by omega), q_uw_t (by omega)]; exact h7 c hc
  · rw [s69 (40 + c) (by omega), q_uw_t (show 6 ≠ 5 by omega), q_uw_5, if_neg (show ¬ c = b by omega)]
    refine ⟨(h8 c hc).1, ?_⟩
    by_cases hca : c = a
    · subst hca; rw [q_ms, if_pos ⟨rfl, rfl⟩, if_pos rfl]; rfl
    · rw [s69 _ (by omega), if_neg hca]; exact (h8 c hc).2
theorem q_m9 : ∀ x, x < 9 → ((nI x - 1 = -1) ↔ x = 0) := by decide +kernel
theorem v_isWed38 {σ : k_Mem} (hP : q_PI τ T) (hD : q_DC τ T σ) {a : Nat} (ha : a < 8) : f_X5_isWed 38 (nI a) σ = some (q_b (decide (τ 5 a ≠ 0)), σ) := by
  have h5 := (hP.2.2.2.2.2.2.2.1 a ha).1
  unfold f_X5_isWed
  rw [q_inT ha (by omega), if_pos rfl, q_n (by omega), show σ (38 + 6) a = nI (τ 5 a) - 1 from (hD.2.2.2.2.2.1 a ha).2.1]
  by_cases h : τ 5 a = 0
  · rw [if_pos ((q_m9 _ (by omega)).mpr h), decide_eq_false (by simp [h])]; rfl
  · rw [if_neg (fun g => h ((q_m9 _ (by omega)).mp g)), decide_eq_true h]; rfl
theorem q_WB {W : Nat} (h1 : W < 256) (h3 : ∀ c, c < 8 → (W.testBit c = true ↔ τ 5 c ≠ 0)) : W = q_wb τ := by
  apply Nat.eq_of_testBit_eq
  intro c
  unfold q_wb
  rw [q_bb_tb]
  by_cases hc : c < 8
  · have := h3 c hc
    have e : (q_so τ c).isSome = decide (τ 5 c ≠ 0) := by
      unfold q_so
      by_cases h : τ 5 c = 0
      · rw [if_pos h, decide_eq_false (by simp [h])]; rfl
      · rw [if_neg h, decide_eq_true h]; rfl
    rw [e, decide_eq_true hc, Bool.true_and]
    cases hW : W.testBit c
    · rw [decide_eq_false (fun g => by have := this.mpr g; rw [hW] at this; cases this)]
    · rw [decide_eq_true (this.mp hW)]
  · rw [decide_eq_false hc, Bool.false_and]
    cases hW : W.testBit c
    · rfl
    · exact absurd (q_t8 h1 hW) hc
theorem q_line_wed (hn : n ≤ 160) (hp : p ≤ n) (hP : q_PI τ T) : q_JL cb n p τ T (fun σ => f_X1_wedLine σ) (fun σ => q_rs 7 σ) := by
  obtain ⟨b1, b2, b3, b4, b5⟩ := q_lEn (cb := cb) hp
  obtain ⟨c1, c2, c3, c4, c5⟩ := q_lEn (cb := cb) b2
  obtain ⟨d1, d2, d3, d4, d5⟩ := q_lEn (cb := cb) c2
  have hu : q_wb τ < 256 := q_bb_l8 _ (by omega)
  have hub : ∀ c, c < 8 → ((q_wb τ).testBit c = decide (τ 5 c ≠ 0)) := fun c hc => by
    unfold q_wb
    rw [q_bb_tb, decide_eq_true hc, Bool.true_and]
    unfold q_so
    by_cases h : τ 5 c = 0
    · rw [if_pos h, decide_eq_false (by simp [h])]; rfl
    · rw [if_neg h, decide_eq_true h]; rfl
  have getW : ∀ σ, q_DM τ T σ → σ 67 7 = nI (q_wb τ) := fun σ hD => by
    obtain ⟨W, w1, w2, w3⟩ := hD.2.2.2.1
    rw [w2, q_WB w1 w3]
  by_cases hc : q_ncd cb n p 0 3 (q_wb τ) = 0
  · obtain ⟨hnc, htb⟩ := q_ncd0 hc
    obtain ⟨hT2, -, hV⟩ := q_nc0 hnc
    have hlt := b5 (by omega) (by omega)
    have ha0 := htb
    rw [hub _ (by omega)] at ha0
    have ha0' : τ 5 (q_lV cb n p) = 0 := by simpa using ha0
    have cls1 : ∀ σ, q_TP cb n σ → σ 1 4 = nI p → q_DC τ T σ → ∃ σ1, q_fC σ σ1 ∧ (∀ k, k ≠ 1 → k ≠ 3 → σ1 k = σ k) ∧ σ1 3 = σ 3 ∧ q_TP cb n σ1 ∧ σ1 1 4 = nI (q_lE cb n p) ∧ f_X1_wedLine σ = k_bd (f_X1_number 4 7 σ1) (fun r5 σ5 => if r5 = (-1) then some (0, σ5) else k_bd (f_X5_isWed 38 r5 σ5) (fun r7 σ7 => if r7 = 0 then k_bd (f_X5_join 38 (nI (q_lV cb n p)) r5 σ7) (fun _ σ9 => k_bd (f_X1_follows 3 σ9) (fun r10 σ10 => if r10 = 0 ∨ r10 = 1 then some (r10, σ10) else none)) else k_bd (f_X1_refuse 4 σ7) (fun r12 σ12 => if r12 = 0 ∨ r12 = 1 then some (r12, σ12) else none))) := by
      intro σ hT h4 hD
      obtain ⟨σ1, e1, e2, e3, e4, e5, e6, e7⟩ := v_numok hn hp hT h4 (lo := 0) (hi := 3) (t := q_wb τ) (by omega) (by omega) hc
      have hD2 : q_DC τ T σ1 := q_DC_sm hD (fun k k1 k2 => e2 k (by omega) (by omega)) (by rw [e3])
      refine ⟨σ1, e1, e2, e3, e5, e6, ?_⟩
      unfold f_X1_wedLine
      rw [show f_X1_number 0 3 σ = _ from e4, q_bd, if_neg (q_nI1 (by omega)), v_isWed38 hP hD2 (by omega), q_bd, ha0, if_pos (show q_b false = 0 from rfl)]
    have ref1 : ∀ σ, q_MP cb n σ → q_LA cb n p σ → q_DM τ T σ → ∀ N, N < 256 → σ 67 8 = nI N → ∃ σ3, q_fM σ σ3 ∧ σ3 69 = σ 69 ∧ (∀ j, 4 ≤ j → j < 8 → σ3 67 j = σ 67 j) ∧ σ3 67 8 = nI (N ||| 2 ^ q_lV cb n p) ∧ q_LA cb n (q_lE cb n p) σ3 ∧ q_rs 7 σ = k_bd (k_bd (f_X7_handHere (nI 4) (nI 7) (nI (q_wb τ)) σ3) (fun r11 σ11 => some ((), (k_mset (k_mset σ11 67 7 ((σ11 67 7) ||| ((k_shl 1 (nI (q_lV cb n p))) ||| (k_shl 1 r11)))) 69 (45 + q_lV cb n p) r11)))) (fun _ σ7 => q_tl σ7) := by
      intro σ hM hA hD N n1 n2
      rw [q_rs_g hA (by omega)]
      obtain ⟨σ1, e1, e2, e3, e4, ⟨M, m1, m2, m3⟩, e5, e6⟩ := w_handHere hn hM hp hA (lo := 0) (hi := 3) (t := q_wb τ) (by omega) (by omega) (by omega) hu n1 n2
      refine ⟨σ1, e2, e3, e4, by rw [m2, m3 hc], e5 hc, ?_⟩
      unfold f_X7_readMore
      rw [if_pos (by decide), if_neg (by decide), if_neg (by decide), if_neg (by decide), getW σ hD, show f_X7_handHere 0 3 (nI (q_wb τ)) σ = _ from e1, q_bd, if_pos hc, e4 7 (by omega) (by omega), getW σ hD, show (45 : Int32) = nI 45 from rfl, q_add, q_inT (show 45 + q_lV cb n p < 50 by omega) (by omega), q_n (by omega)]
      simp only [eq_self, if_true]
      rfl
    by_cases hd : q_ncd cb n (q_lE cb n p) 4 7 (q_wb τ) = 0
    · obtain ⟨hnd, htb2⟩ := q_ncd0 hd
      obtain ⟨hT3, hV4, hV3⟩ := q_nc0 hnd
      have hlt2 := c5 (by omega) (by omega)
      have hb0 := htb2
      rw [hub _ (by omega)] at hb0
      have hb0' : τ 5 (q_lV cb n (q_lE cb n p)) = 0 := by simpa using hb0
      refine ⟨q_tc cb n (q_lE cb n (q_lE cb n p)), q_lS cb n (q_lE cb n (q_lE cb n p)), q_lE cb n (q_lE cb n (q_lE cb n p)), q_uw τ (q_lV cb n p) (q_lV cb n (q_lE cb n p)), T, by unfold q_tc; split <;> (try split) <;> omega, fun _ => ⟨by omega, d2, q_PI_wed hP (by omega) (by omega) (by omega) ha0' hb0'⟩, fun σ hT h4 hD h32 => ?_, fun σ hM hA hD h71 h72 => ?_⟩
      · obtain ⟨σ1, e1, e2, e3, e4, e5, e6⟩ := cls1 σ hT h4 hD
        obtain ⟨σ2, f1, f2, f3, f4, f5, f6, -⟩ := v_numok hn b2 e4 e5 (lo := 4) (hi := 7) (t := q_wb τ) (by omega) (by omega) hd
        have hD2 : q_DC τ T σ2 := q_DC_sm hD (fun k k1 k2 => by rw [f2 k (by omega) (by omega), e2 k (by omega) (by omega)]) (by rw [f3, e3])
        dsimp only
        rw [e6, show f_X1_number 4 7 σ1 = _ from f4, q_bd, if_neg (q_nI1 (by omega)), v_isWed38 hP hD2 (by omega), q_bd, hb0, if_pos (show q_b false = 0 from rfl)]
        unfold f_X5_join
        rw [q_inT (show q_lV cb n p < 8 by omega) (by omega), q_inT (show q_lV cb n (q_lE cb n p) < 8 by omega) (by omega), if_pos rfl, if_pos rfl, q_n (by omega), q_n (by omega), q_bd, show (38 : Nat) + 6 = 44 from rfl]
        have hDC := q_DC_wed hD2 (a := q_lV cb n p) (b := q_lV cb n (q_lE cb n p))
        generalize hσ3 : k_mset (k_mset σ2 44 (q_lV cb n p) (nI (q_lV cb n (q_lE cb n p)))) 44 (q_lV cb n (q_lE cb n p)) (nI (q_lV cb n p)) = σ3 at hDC
        have g3 : q_fC σ2 σ3 := by rw [← hσ3]; exact q_fC_tr (q_fC_set (Or.inl (by omega))) (q_fC_set (Or.inl (by omega)))
        have g1 : ∀ k, k ≠ 44 → σ3 k = σ2 k := fun k hk => by rw [← hσ3, q_ms_ne _ _ hk, q_ms_ne _ _ hk]
        obtain ⟨r, σ4, t1, t2, t3⟩ := v_tail hn c2 (σ := σ3) (q_TP_f f5 (by rw [g1 1 (by omega)]) (g1 2 (by omega))) (by rw [g1 1 (by omega)]; exact f6) hDC (by rw [g1 3 (by omega), f3, e3]; exact h32)
        exact ⟨r, σ4, t1, q_fC_tr (q_fC_tr e1 f1) (q_fC_tr g3 t2), t3⟩
      · obtain ⟨N, n1, n2, n3⟩ := hD.2.2.2.2.1
        obtain ⟨σ3, e1, e2, e3, e5, e6, e7⟩ := ref1 σ hM hA hD N n1 n2
        obtain ⟨σ4, f1, f2, f3, f4, ⟨M, m1, m2, m3⟩, f5, f6⟩ := w_handHere hn (q_MP_f hM e1) b2 e6 (lo := 4) (hi := 7) (t := q_wb τ) (by omega) (by omega) (by omega) hu (q_orl n1 (show q_lV cb n p < 8 by omega)) e5
        dsimp only
        rw [e7, f1, q_bd, q_bd, if_pos hd, f4 7 (by omega) (by omega), e3 7 (by omega) (by omega), getW σ hD, ← Int32.or_assoc, q_orb _ hu _ (by omega), q_orb _ (q_orl hu (by omega)) _ (by omega)]
        generalize hσ5 : k_mset σ4 67 7 (nI (q_wb τ ||| 2 ^ q_lV cb n p ||| 2 ^ q_lV cb n (q_lE cb n p))) = σ5
        have g5 : q_fM σ4 σ5 := by rw [← hσ5]; exact q_fM_set (Or.inr ⟨rfl, by omega⟩)
        have g6 : ∀ j, j ≠ 7 → σ5 67 j = σ4 67 j := fun j hj => by rw [← hσ5, q_ms, if_neg (fun g => hj g.2)]
        have g69 : σ5 69 = σ4 69 := by rw [← hσ5, q_ms_ne _ _ (by decide)]
        obtain ⟨σ6, t1, t2, t3⟩ := w_tail hn c2 (σ := k_mset σ5 69 (45 + q_lV cb n p) (nI (q_lV cb n (q_lE cb n p)))) (q_MP_f hM (q_fM_tr e1 (q_fM_tr f2 (q_fM_tr g5 (q_fM_set (Or.inl rfl)))))) (q_LA_sm (f5 hd) (fun j j1 _ => by rw [q_ms_ne _ _ (by decide), g6 j (by omega)])) (q_DM_wed hP hD (by omega) (by omega) (by omega) n1 n3 hu (fun c hc => by rw [hub c hc]; simp) (by rw [g69, f3, e2]) (fun j j1 j2 => by rw [g6 j (by omega), f4 j j1 (by omega), e3 j j1 (by omega)]) (by rw [← hσ5, q_ms, if_pos ⟨rfl, rfl⟩]) (by rw [g6 8 (by omega), m2, m3 hd]))
        exact ⟨σ6, t1, q_fM_tr (q_fM_tr e1 (q_fM_tr f2 (q_fM_tr g5 (q_fM_set (Or.inl rfl))))) t2, t3⟩
    · have h4' := q_ncd4 (cb := cb) (n := n) (p := q_lE cb n p) (lo := 4) (hi := 7) (t := q_wb τ)
      refine ⟨q_ncd cb n (q_lE cb n p) 4 7 (q_wb τ), q_lS cb n (q_lE cb n p), 0, τ, T, by omega, fun h => absurd h hd, fun σ hT h4 hD h32 => ?_, fun σ hM hA hD h71 h72 => ?_⟩
      · obtain ⟨σ1, e1, e2, e3, e4, e5, e6⟩ := cls1 σ hT h4 hD
        obtain ⟨σ2, f1, f2, f3, f4⟩ := v_numbad hn b2 e4 e5 (lo := 4) (hi := 7) (t := q_wb τ) (by omega) (by omega) hd
        dsimp only
        rw [e6]
        rcases f4 with ⟨g1, g2⟩ | ⟨g1, -, gV, g2, g3, g4⟩
        · rw [show f_X1_number 4 7 σ1 = _ from g1, q_bd, if_pos rfl]
          exact ⟨_, _, rfl, q_fC_tr e1 f1, q_rC_b hd g2⟩
        · have hD2 : q_DC τ T σ2 := q_DC_sm hD (fun k k1 k2 => by rw [f2 k (by omega) (by omega), e2 k (by omega) (by omega)]) (by rw [f3, e3])
          rw [hub _ (by omega)] at g2
          rw [show f_X1_number 4 7 σ1 = _ from g1, q_bd, if_neg (q_nI1 (by omega)), v_isWed38 hP hD2 (by omega), q_bd, g2, if_neg (show ¬ q_b true = 0 by decide), q_ref2, g3]
          exact ⟨_, _, rfl, q_fC_tr (q_fC_tr e1 f1) (q_rC_4 (τ := τ) (T := T) (q := 0) g4).1, (q_rC_4 g4).2⟩
      · obtain ⟨N, n1, n2, n3⟩ := hD.2.2.2.2.1
        obtain ⟨σ3, e1, e2, e3, e5, e6, e7⟩ := ref1 σ hM hA hD N n1 n2
        obtain ⟨σ4, f1, f2, f3, f4, ⟨M, m1, m2, m3⟩, f5, f6⟩ := w_handHere hn (q_MP_f hM e1) b2 e6 (lo := 4) (hi := 7) (t := q_wb τ) (by omega) (by omega) (by omega) hu (q_orl n1 (show q_lV cb n p < 8 by omega)) e5
        obtain ⟨k1, k2⟩ := f6 hd
        dsimp only
        rw [e7, f1, q_bd, q_bd]
        generalize hF : k_mset (k_mset σ4 67 7 _) 69 _ _ = σF
        have hf : q_fM σ4 σF := by rw [← hF]; exact q_fM_tr (q_fM_set (Or.inr ⟨rfl, by omega⟩)) (q_fM_set (Or.inl rfl))
        have h12 : σF 67 12 = σ4 67 12 ∧ σF 67 13 = σ4 67 13 := by
          rw [← hF]
          exact ⟨by rw [q_ms_ne _ _ (by decide), q_ms, if_neg (by omega)], by rw [q_ms_ne _ _ (by decide), q_ms, if_neg (by omega)]⟩
        rw [w_tail_b (c := q_ncd cb n (q_lE cb n p) 4 7 (q_wb τ)) (by omega) (by omega) (by rw [h12.1]; exact k1)]
        exact ⟨_, rfl, q_fM_tr e1 (q_fM_tr f2 hf), q_rM_b hd ⟨by rw [h12.1]; exact k1, by rw [h12.2]; exact k2⟩⟩
  · have h4' := q_ncd4 (cb := cb) (n := n) (p := p) (lo := 0) (hi := 3) (t := q_wb τ)
    refine ⟨q_ncd cb n p 0 3 (q_wb τ), q_lS cb n p, 0, τ, T, by omega, fun h => absurd h hc, fun σ hT h4 hD h32 => ?_, fun σ hM hA hD h71 h72 => ?_⟩
    · obtain ⟨σ1, f1, f2, f3, f4⟩ := v_numbad hn hp hT h4 (lo := 0) (hi := 3) (t := q_wb τ) (by omega) (by omega) hc
      dsimp only
      unfold f_X1_wedLine
      rcases f4 with ⟨g1, g2⟩ | ⟨g1, -, gV, g2, g3, g4⟩
      · rw [show f_X1_number 0 3 σ = _ from g1, q_bd, if_pos rfl]
        exact ⟨_, _, rfl, f1, q_rC_b hc g2⟩
      · have hD2 : q_DC τ T σ1 := q_DC_sm hD (fun k k1 k2 => f2 k (by omega) (by omega)) f3
        rw [hub _ (by omega)] at g2
        rw [show f_X1_number 0 3 σ = _ from g1, q_bd, if_neg (q_nI1 (by omega)), v_isWed38 hP hD2 (by omega), q_bd, g2, if_neg (show ¬ q_b true = 0 by decide), q_ref2, g3]
        exact ⟨_, _, rfl, q_fC_tr f1 (q_rC_4 (τ := τ) (T := T) (q := 0) g4).1, (q_rC_4 g4).2⟩
    · dsimp only
      by_cases h4 : q_lT cb n p = 4
      · obtain ⟨g1, g2, g3⟩ := q_rs_b hA h4 7
        rw [q_ncdT h4]
        exact ⟨σ, g1, q_fM_rf, q_rM_b (by omega) ⟨g2, g3⟩⟩
      · rw [q_rs_g hA h4]
        obtain ⟨N, n1, n2, n3⟩ := hD.2.2.2.2.1
        obtain ⟨σ1, e1, e2, e3, e4, ⟨M, m1, m2, m3⟩, e5, e6⟩ := w_handHere hn hM hp hA (lo := 0) (hi := 3) (t := q_wb τ) (by omega) (by omega) (by omega) hu n1 n2
        obtain ⟨k1, k2⟩ := e6 hc
        unfold f_X7_readMore
        rw [if_pos (by decide), if_neg (by decide), if_neg (by decide), if_neg (by decide), getW σ hD, show f_X7_handHere 0 3 (nI (q_wb τ)) σ = _ from e1, q_bd, if_neg hc, w_handHere_b (c := q_ncd cb n p 0 3 (q_wb τ)) (by omega) (by omega) k1, q_bd, if_pos (show k_in (45 + nI 0) 50 = true by decide), q_bd]
        generalize hF : k_mset (k_mset (k_mset σ1 67 8 _) 67 7 _) 69 _ _ = σF
        have hf : q_fM σ1 σF := by rw [← hF]; exact q_fM_tr (q_fM_tr (q_fM_set (Or.inr ⟨rfl, by omega⟩)) (q_fM_set (Or.inr ⟨rfl, by omega⟩))) (q_fM_set (Or.inl rfl))
        have h12 : σF 67 12 = σ1 67 12 ∧ σF 67 13 = σ1 67 13 := by
          rw [← hF]
          exact ⟨by rw [q_ms_ne _ _ (by decide), q_ms, if_neg (by omega), q_ms, if_neg (by omega)], by rw [q_ms_ne _ _ (by decide), q_ms, if_neg (by omega), q_ms, if_neg (by omega)]⟩
        rw [w_tail_b (c := q_ncd cb n p 0 3 (q_wb τ)) (by omega) (by omega) (by rw [h12.1]; exact k1)]
        exact ⟨_, rfl, q_fM_tr e2 hf, q_rM_b hc ⟨by rw [h12.1]; exact k1, by rw [h12.2]; exact k2⟩⟩
end
