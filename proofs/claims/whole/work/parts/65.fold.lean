/-! PURE: a line that tells of a fold, a line that tells of a wedding -/
section
variable {cb : Nat → Nat} {n p : Nat} {τ : k_TW} {T : Nat}
def q_uf (τ : k_TW) (a b : Nat) : k_TW := q_up (q_up τ 6 a (τ 6 a ||| 2 ^ b)) 6 b (τ 6 b ||| 2 ^ a)
theorem q_uf_t {a b t c : Nat} (h : t ≠ 6) : q_uf τ a b t c = τ t c := by unfold q_uf; rw [q_up_t h, q_up_t h]
theorem q_uf_b {a b : Nat} (hab : a ≠ b) (c d : Nat) : (q_uf τ a b 6 c).testBit d = true ↔ (τ 6 c).testBit d = true ∨ (c = a ∧ d = b) ∨ (c = b ∧ d = a) := by
  unfold q_uf
  by_cases hb : c = b
  · subst hb
    rw [q_up_s, q_ort]
    exact ⟨fun h => h.elim Or.inl (fun h => Or.inr (Or.inr ⟨rfl, h⟩)), fun h => h.elim Or.inl (fun h => h.elim (fun g => absurd g.1.symm hab) (fun g => Or.inr g.2))⟩
  · rw [q_up_a hb]
    by_cases ha : c = a
    · subst ha
      rw [q_up_s, q_ort]
      exact ⟨fun h => h.elim Or.inl (fun h => Or.inr (Or.inl ⟨rfl, h⟩)), fun h => h.elim Or.inl (fun h => h.elim (fun g => Or.inr g.2) (fun g => absurd g.1 hb))⟩
    · rw [q_up_a ha]
      exact ⟨Or.inl, fun h => h.elim id (fun h => h.elim (fun g => absurd g.1 ha) (fun g => absurd g.1 hb))⟩
theorem q_uf_H {a b : Nat} (c : Nat) : q_H (q_uf τ a b) c = q_H τ c := q_H_eq (q_uf_t (by omega)) (q_uf_t (by omega)) c
theorem q_PI_fold (h : q_PI τ T) {a b : Nat} (ha : a < 4) (hb : 4 ≤ b) (hb8 : b < 8) : q_PI (q_uf τ a b) T := by
  obtain ⟨h1, h2, h3, h4, h5, h6, h7, h8, h9⟩ := h
  refine ⟨by rw [q_uf_t (by omega)]; exact h1, by rw [q_uf_t (by omega)]; exact h2, by rw [q_uf_t (by omega)]; exact h3, by rw [q_uf_t (by omega)]; exact h4, h5, fun c hc => ?_, fun c hc => ?_, fun c hc => ?_, fun c hc => ⟨?_, fun d hd => ?_⟩⟩
  · rw [q_uf_H] at hc
    rw [q_uf_t (by omega), q_uf_t (by omega), q_uf_t (by omega), q_uf_t (by omega)]; exact h6 c hc
  · rw [q_uf_t (by omega)]; exact h7 c hc
  · have e : ∀ x, q_uf τ a b 5 x = τ 5 x := fun x => q_uf_t (by omega)
    rw [e, e]; exact h8 c hc
  · unfold q_uf
    by_cases hcb : c = b
    · subst hcb; rw [q_up_s]; exact q_orl (h9 c hc).1 (by omega)
    · rw [q_up_a hcb]
      by_cases hca : c = a
      · subst hca; rw [q_up_s]; exact q_orl (h9 c hc).1 hb8
      · rw [q_up_a hca]; exact (h9 c hc).1
  · rw [q_uf_b (by omega)] at hd ⊢
    rcases hd with hd | ⟨rfl, rfl⟩ | ⟨rfl, rfl⟩
    · exact ⟨((h9 c hc).2 d hd).1, Or.inl ((h9 c hc).2 d hd).2⟩
    · exact ⟨by omega, Or.inr (Or.inr ⟨rfl, rfl⟩)⟩
    · exact ⟨by omega, Or.inr (Or.inl ⟨rfl, rfl⟩)⟩
theorem q_DC_fold {σ : k_Mem} (h : q_DC τ T σ) {a b : Nat} : q_DC (q_uf τ a b) T (k_mset (k_mset σ 45 a (nI (τ 6 a ||| 2 ^ b))) 45 b (nI (τ 6 b ||| 2 ^ a))) := by
  obtain ⟨h1, h2, h3, h4, h5, h6, h7⟩ := h
  have s : ∀ k, k ≠ 45 → (k_mset (k_mset σ 45 a (nI (τ 6 a ||| 2 ^ b))) 45 b (nI (τ 6 b ||| 2 ^ a))) k = σ k := fun k k1 => by rw [q_ms_ne _ _ k1, q_ms_ne _ _ k1]
  unfold q_DC
  rw [s 38 (by omega), s 39 (by omega), s 40 (by omega), s 41 (by omega), s 42 (by omega), s 43 (by omega), s 44 (by omega), s 3 (by omega), q_uf_t (by omega), q_uf_t (by omega), q_uf_t (by omega), q_uf_t (by omega)]
  refine ⟨h1, h2, h3, h4, fun c hc => ?_, fun c hc => ?_, h7⟩
  · rw [q_uf_H] at hc
    rw [q_uf_t (by omega), q_uf_t (by omega), q_uf_t (by omega), q_uf_t (by omega)]; exact h5 c hc
  · obtain ⟨g1, g2, g3⟩ := h6 c hc
    refine ⟨by rw [q_uf_t (by omega)]; exact g1, by rw [q_uf_t (by omega)]; exact g2, ?_⟩
    unfold q_uf
    by_cases hcb : c = b
    · subst hcb; rw [q_ms, if_pos ⟨rfl, rfl⟩, q_up_s]
    · rw [q_ms, if_neg (fun g => hcb g.2), q_up_a hcb]
      by_cases hca : c = a
      · subst hca; rw [q_ms, if_pos ⟨rfl, rfl⟩, q_up_s]
      · rw [q_ms, if_neg (fun g => hca g.2), q_up_a hca]; exact g3
theorem q_DM_fold (hP : q_PI τ T) {σ σ1 : k_Mem} (h : q_DM τ T σ) {a b N : Nat} (ha : a < 4) (hb : 4 ≤ b) (hb8 : b < 8) (hN1 : N < 256) (hN3 : ∀ c, c < 8 → (N.testBit c = true ↔ q_NM τ T c)) (e69 : σ1 69 = σ 69) (e67 : ∀ j, 4 ≤ j → j < 8 → σ1 67 j = σ 67 j) (e8 : σ1 67 8 = nI (N ||| 2 ^ a ||| 2 ^ b)) : q_DM (q_uf τ a b) T (k_mset σ1 69 (40 + a) (nI (τ 6 a ||| 2 ^ b))) := by
  obtain ⟨h1, h2, h3, ⟨W, w1, w2, w3⟩, -, h6, h7, h8, h9, h10⟩ := h
  have s : ∀ j, (k_mset σ1 69 (40 + a) (nI (τ 6 a ||| 2 ^ b))) 67 j = σ1 67 j := fun j => by rw [q_ms_ne _ _ (by decide)]
  have s69 : ∀ j, j ≠ 40 + a → (k_mset σ1 69 (40 + a) (nI (τ 6 a ||| 2 ^ b))) 69 j = σ 69 j := fun j hj => by rw [q_ms, if_neg (fun g => hj g.2), e69]
  refine ⟨by rw [s, e67 4 (by omega) (by omega), q_uf_t (by omega)]; exact h1, by rw [s, e67 5 (by omega) (by omega), q_uf_t (by omega)]; exact h2, by rw [s, e67 6 (by omega) (by omega)]; exact h3, ⟨W, w1, by rw [s, e67 7 (by omega) (by omega)]; exact w2, fun c hc => by rw [q_uf_t (by omega)]; exact w3 c hc⟩, ⟨N ||| 2 ^ a ||| 2 ^ b, q_orl (q_orl hN1 (by omega)) hb8, by rw [s]; exact e8, fun c hc => ?_⟩, fun c hc => ?_, fun c hc => ?_, fun c hc => ?_, by rw [s69 44 (by omega), q_uf_t (by omega)]; exact h9, by rw [s69 49 (by omega), q_uf_t (by omega)]; exact h10⟩
  · rw [q_ort, q_ort, hN3 c hc]
    unfold q_NM
    have e : ∀ x, q_uf τ a b 4 x = τ 4 x := fun x => q_uf_t (by omega)
    simp only [e]
    rw [q_uf_t (by omega), q_uf_t (by omega)]
    constructor
    · rintro (((h | h | h | ⟨x, x1, x2⟩ | h) | h) | h)
      · exact Or.inl h
      · exact Or.inr (Or.inl h)
      · exact Or.inr (Or.inr (Or.inl h))
      · exact Or.inr (Or.inr (Or.inr (Or.inl ⟨x, x1, (q_uf_b (by omega) x c).mpr (Or.inl x2)⟩)))
      · exact Or.inr (Or.inr (Or.inr (Or.inr h)))
      · exact Or.inr (Or.inr (Or.inr (Or.inl ⟨b, hb8, (q_uf_b (by omega) b c).mpr (Or.inr (Or.inr ⟨rfl, h⟩))⟩)))
      · exact Or.inr (Or.inr (Or.inr (Or.inl ⟨a, by omega, (q_uf_b (by omega) a c).mpr (Or.inr (Or.inl ⟨rfl, h⟩))⟩)))
    · rintro (h | h | h | ⟨x, x1, x2⟩ | h)
      · exact Or.inl (Or.inl (Or.inl h))
      · exact Or.inl (Or.inl (Or.inr (Or.inl h)))
      · exact Or.inl (Or.inl (Or.inr (Or.inr (Or.inl h))))
      · rcases (q_uf_b (by omega) x c).mp x2 with g | g | g
        · exact Or.inl (Or.inl (Or.inr (Or.inr (Or.inr (Or.inl ⟨x, x1, g⟩)))))
        · exact Or.inr g.2
        · exact Or.inl (Or.inr g.2)
      · exact Or.inl (Or.inl (Or.inr (Or.inr (Or.inr (Or.inr h)))))
  · rw [q_uf_H] at hc
    have c8 : c < 8 := q_PH8 hP hc
    rw [q_uf_t (by omega), q_uf_t (by omega), q_uf_t (by omega), q_uf_t (by omega), s69 _ (by omega), s69 _ (by omega), s69 _ (by omega), s69 _ (by omega)]; exact h6 c hc
  · rw [s69 _ (by omega), q_uf_t (by omega)]; exact h7 c hc
  · rw [s69 (45 + c) (by omega), q_uf_t (show 5 ≠ 6 by omega)]
    refine ⟨?_, (h8 c hc).2⟩
    unfold q_uf
    rw [q_up_a (show c ≠ b by omega)]
    by_cases hca : c = a
    · subst hca; rw [q_ms, if_pos ⟨rfl, rfl⟩, q_up_s]
    · rw [s69 _ (by omega), q_up_a hca]; exact (h8 c hc).1
theorem v_areFolded38 {σ : k_Mem} (hP : q_PI τ T) (hD : q_DC τ T σ) {a b : Nat} (ha : a < 8) (hb : b < 8) : f_X5_areFolded 38 (nI a) (nI b) σ = some (q_b ((τ 6 a).testBit b), σ) := by
  have h6 := (hP.2.2.2.2.2.2.2.2 a ha).1
  unfold f_X5_areFolded
  rw [q_inT ha (by omega), if_pos rfl, q_n (by omega), show σ (38 + 7) a = nI (τ 6 a) from (hD.2.2.2.2.2.1 a ha).2.2]
  simp only [q_bit1 (show τ 6 a < 2 ^ 31 by omega) (show b < 32 by omega)]
  cases (τ 6 a).testBit b <;> rfl
theorem v_setFolded38 {σ : k_Mem} (hP : q_PI τ T) (hD : q_DC τ T σ) {a b : Nat} (ha : a < 8) (hb : b < 8) (hab : a ≠ b) : f_X5_setFolded 38 (nI a) (nI b) 1 σ = some ((), k_mset (k_mset σ 45 a (nI (τ 6 a ||| 2 ^ b))) 45 b (nI (τ 6 b ||| 2 ^ a))) := by
  have h6 := (hP.2.2.2.2.2.2.2.2 a ha).1
  have h6' := (hP.2.2.2.2.2.2.2.2 b hb).1
  have e1 : ∀ (u a : Nat), q_wbt u a (decide ((1 : Int32) ≠ 0)) = u ||| 2 ^ a := fun u a => rfl
  unfold f_X5_setFolded
  rw [q_inT ha (by omega), if_pos rfl, q_n (by omega), show σ (38 + 7) a = nI (τ 6 a) from (hD.2.2.2.2.2.1 a ha).2.2, v_withBit h6 hb, q_bd, if_pos rfl, q_inT hb (by omega), if_pos rfl, q_n (by omega), show (38 : Nat) + 7 = 45 from rfl, q_ms, if_neg (fun g => hab g.2.symm), (hD.2.2.2.2.2.1 b hb).2.2, v_withBit h6' ha, q_bd, if_pos rfl, e1, e1]
theorem q_line_fold (hn : n ≤ 160) (hp : p ≤ n) (hP : q_PI τ T) : q_JL cb n p τ T (fun σ => f_X1_foldLine σ) (fun σ => q_rs 6 σ) := by
  obtain ⟨b1, b2, b3, b4, b5⟩ := q_lEn (cb := cb) hp
  obtain ⟨c1, c2, c3, c4, c5⟩ := q_lEn (cb := cb) b2
  obtain ⟨d1, d2, d3, d4, d5⟩ := q_lEn (cb := cb) c2
  by_cases hc : q_ncd cb n p 0 3 0 = 0
  · obtain ⟨hnc, -⟩ := q_ncd0 hc
    obtain ⟨hT2, -, hV⟩ := q_nc0 hnc
    have hlt := b5 (by omega) (by omega)
    have hu := (hP.2.2.2.2.2.2.2.2 (q_lV cb n p) (by omega)).1
    have cls1 : ∀ σ, q_TP cb n σ → σ 1 4 = nI p → q_DC τ T σ → ∃ σ1, q_fC σ σ1 ∧ (∀ k, k ≠ 1 → k ≠ 3 → σ1 k = σ k) ∧ σ1 3 = σ 3 ∧ q_TP cb n σ1 ∧ σ1 1 4 = nI (q_lE cb n p) ∧ f_X1_foldLine σ = k_bd (f_X1_number 4 7 σ1) (fun r11 σ11 => j_X1_foldLine_23 (nI (q_lV cb n p)) r11 σ11) := by
      intro σ hT h4 hD
      obtain ⟨σ1, e1, e2, e3, e4, e5, e6, e7⟩ := v_numok hn hp hT h4 (lo := 0) (hi := 3) (t := 0) (by omega) (by omega) hc
      refine ⟨σ1, e1, e2, e3, e5, e6, ?_⟩
      unfold f_X1_foldLine
      rw [show f_X1_number 0 3 σ = _ from e4, q_bd, if_neg (q_nI1 (by omega))]
    have ref1 : ∀ σ, q_MP cb n σ → q_LA cb n p σ → q_DM τ T σ → ∀ N, N < 256 → σ 67 8 = nI N → ∃ σ3, q_fM σ σ3 ∧ σ3 69 = σ 69 ∧ (∀ j, 4 ≤ j → j < 8 → σ3 67 j = σ 67 j) ∧ σ3 67 8 = nI (N ||| 2 ^ q_lV cb n p) ∧ q_LA cb n (q_lE cb n p) σ3 ∧ q_rs 6 σ = k_bd (k_bd (f_X7_handHere (nI 4) (nI 7) (nI (τ 6 (q_lV cb n p))) σ3) (fun r9 σ9 => some ((), (k_mset σ9 69 (40 + q_lV cb n p) (nI (τ 6 (q_lV cb n p)) ||| (k_shl 1 r9)))))) (fun _ σ7 => q_tl σ7) := by
      intro σ hM hA hD N n1 n2
      rw [q_rs_g hA (by omega)]
      obtain ⟨σ1, e1, e2, e3, e4, ⟨M, m1, m2, m3⟩, e5, e6⟩ := w_handHere hn hM hp hA (lo := 0) (hi := 3) (t := 0) (by omega) (by omega) (by omega) (by omega) n1 n2
      refine ⟨σ1, e2, e3, e4, by rw [m2, m3 hc], e5 hc, ?_⟩
      unfold f_X7_readMore
      rw [if_pos (by decide), if_neg (by decide), if_neg (by decide), if_pos rfl, show f_X7_handHere 0 3 0 σ = _ from e1, q_bd, if_pos hc, show (40 : Int32) = nI 40 from rfl, q_add, q_inT (show 40 + q_lV cb n p < 50 by omega) (by omega), if_pos rfl, if_pos rfl, q_n (by omega), e3, (hD.2.2.2.2.2.2.2.1 (q_lV cb n p) (by omega)).1]
      simp only [eq_self, if_true]
      rfl
    by_cases hd : q_ncd cb n (q_lE cb n p) 4 7 (τ 6 (q_lV cb n p)) = 0
    · obtain ⟨hnd, htb⟩ := q_ncd0 hd
      obtain ⟨hT3, hV4, hV3⟩ := q_nc0 hnd
      have hlt2 := c5 (by omega) (by omega)
      refine ⟨q_tc cb n (q_lE cb n (q_lE cb n p)), q_lS cb n (q_lE cb n (q_lE cb n p)), q_lE cb n (q_lE cb n (q_lE cb n p)), q_uf τ (q_lV cb n p) (q_lV cb n (q_lE cb n p)), T, by unfold q_tc; split <;> (try split) <;> omega, fun _ => ⟨by omega, d2, q_PI_fold hP (by omega) (by omega) (by omega)⟩, fun σ hT h4 hD h32 => ?_, fun σ hM hA hD h71 h72 => ?_⟩
      · obtain ⟨σ1, e1, e2, e3, e4, e5, e6⟩ := cls1 σ hT h4 hD
        obtain ⟨σ2, f1, f2, f3, f4, f5, f6, -⟩ := v_numok hn b2 e4 e5 (lo := 4) (hi := 7) (t := τ 6 (q_lV cb n p)) (by omega) (by omega) hd
        have hD2 : q_DC τ T σ2 := q_DC_sm hD (fun k k1 k2 => by rw [f2 k (by omega) (by omega), e2 k (by omega) (by omega)]) (by rw [f3, e3])
        dsimp only
        rw [e6, show f_X1_number 4 7 σ1 = _ from f4, q_bd]
        unfold j_X1_foldLine_23
        rw [if_neg (q_nI1 (by omega)), v_areFolded38 hP hD2 (by omega) (by omega), q_bd, htb, if_pos (show q_b false = 0 from rfl), v_setFolded38 hP hD2 (by omega) (by omega) (by omega), q_bd]
        have hDC := q_DC_fold hD2 (a := q_lV cb n p) (b := q_lV cb n (q_lE cb n p))
        generalize hσ3 : k_mset (k_mset σ2 45 (q_lV cb n p) (nI (τ 6 (q_lV cb n p) ||| 2 ^ q_lV cb n (q_lE cb n p)))) 45 (q_lV cb n (q_lE cb n p)) (nI (τ 6 (q_lV cb n (q_lE cb n p)) ||| 2 ^ q_lV cb n p)) = σ3 at hDC
        have g3 : q_fC σ2 σ3 := by rw [← hσ3]; exact q_fC_tr (q_fC_set (Or.inl (by omega))) (q_fC_set (Or.inl (by omega)))
        have g1 : ∀ k, k ≠ 45 → σ3 k = σ2 k := fun k hk => by rw [← hσ3, q_ms_ne _ _ hk, q_ms_ne _ _ hk]
        obtain ⟨r, σ4, t1, t2, t3⟩ := v_tail hn c2 (σ := σ3) (q_TP_f f5 (by rw [g1 1 (by omega)]) (g1 2 (by omega))) (by rw [g1 1 (by omega)]; exact f6) hDC (by rw [g1 3 (by omega), f3, e3]; exact h32)
        exact ⟨r, σ4, t1, q_fC_tr (q_fC_tr e1 f1) (q_fC_tr g3 t2), t3⟩
      · obtain ⟨N, n1, n2, n3⟩ := hD.2.2.2.2.1
        obtain ⟨σ3, e1, e2, e3, e5, e6, e7⟩ := ref1 σ hM hA hD N n1 n2
        obtain ⟨σ4, f1, f2, f3, f4, ⟨M, m1, m2, m3⟩, f5, f6⟩ := w_handHere hn (q_MP_f hM e1) b2 e6 (lo := 4) (hi := 7) (t := τ 6 (q_lV cb n p)) (by omega) (by omega) (by omega) hu (q_orl n1 (show q_lV cb n p < 8 by omega)) e5
        dsimp only
        rw [e7, f1, q_bd, q_bd, if_pos hd, q_orb _ hu _ (by omega)]
        obtain ⟨σ5, t1, t2, t3⟩ := w_tail hn c2 (σ := k_mset σ4 69 (40 + q_lV cb n p) (nI (τ 6 (q_lV cb n p) ||| 2 ^ q_lV cb n (q_lE cb n p)))) (q_MP_f hM (q_fM_tr e1 (q_fM_tr f2 (q_fM_set (Or.inl rfl))))) (q_LA_sm (f5 hd) (fun j _ _ => by rw [q_ms_ne _ _ (by decide)])) (q_DM_fold hP hD (by omega) (by omega) (by omega) n1 n3 (by rw [f3, e2]) (fun j j1 j2 => by rw [f4 j j1 j2, e3 j j1 j2]) (by rw [m2, m3 hd]))
        exact ⟨σ5, t1, q_fM_tr (q_fM_tr e1 (q_fM_tr f2 (q_fM_set (Or.inl rfl)))) t2, t3⟩
    · have h4' := q_ncd4 (cb := cb) (n := n) (p := q_lE cb n p) (lo := 4) (hi := 7) (t := τ 6 (q_lV cb n p))
      refine ⟨q_ncd cb n (q_lE cb n p) 4 7 (τ 6 (q_lV cb n p)), q_lS cb n (q_lE cb n p), 0, τ, T, by omega, fun h => absurd h hd, fun σ hT h4 hD h32 => ?_, fun σ hM hA hD h71 h72 => ?_⟩
      · obtain ⟨σ1, e1, e2, e3, e4, e5, e6⟩ := cls1 σ hT h4 hD
        obtain ⟨σ2, f1, f2, f3, f4⟩ := v_numbad hn b2 e4 e5 (lo := 4) (hi := 7) (t := τ 6 (q_lV cb n p)) (by omega) (by omega) hd
        dsimp only
        rw [e6]
        rcases f4 with ⟨g1, g2⟩ | ⟨g1, -, gV, g2, g3, g4⟩
        · rw [show f_X1_number 4 7 σ1 = _ from g1, q_bd]
          unfold j_X1_foldLine_23
          rw [if_pos rfl]
          exact ⟨_, _, rfl, q_fC_tr e1 f1, q_rC_b hd g2⟩
        · have hD2 : q_DC τ T σ2 := q_DC_sm hD (fun k k1 k2 => by rw [f2 k (by omega) (by omega), e2 k (by omega) (by omega)]) (by rw [f3, e3])
          rw [show f_X1_number 4 7 σ1 = _ from g1, q_bd]
          unfold j_X1_foldLine_23
          rw [if_neg (q_nI1 (by omega)), v_areFolded38 hP hD2 (by omega) (by omega), q_bd, g2, if_neg (show ¬ q_b true = 0 by decide), q_ref2, g3]
          exact ⟨_, _, rfl, q_fC_tr (q_fC_tr e1 f1) (q_rC_4 (τ := τ) (T := T) (q := 0) g4).1, (q_rC_4 g4).2⟩
      · obtain ⟨N, n1, n2, n3⟩ := hD.2.2.2.2.1
        obtain ⟨σ3, e1, e2, e3, e5, e6, e7⟩ := ref1 σ hM hA hD N n1 n2
        obtain ⟨σ4, f1, f2, f3, f4, ⟨M, m1, m2, m3⟩, f5, f6⟩ := w_handHere hn (q_MP_f hM e1) b2 e6 (lo := 4) (hi := 7) (t := τ 6 (q_lV cb n p)) (by omega) (by omega) (by omega) hu (q_orl n1 (show q_lV cb n p < 8 by omega)) e5
        obtain ⟨k1, k2⟩ := f6 hd
        dsimp only
        rw [e7, f1, q_bd, q_bd, w_tail_b (c := q_ncd cb n (q_lE cb n p) 4 7 (τ 6 (q_lV cb n p))) (by omega) (by omega) (by rw [q_ms_ne _ _ (by decide)]; exact k1)]
        exact ⟨_, rfl, q_fM_tr e1 (q_fM_tr f2 (q_fM_set (Or.inl rfl))), q_rM_b hd ⟨by rw [q_ms_ne _ _ (by decide)]; exact k1, by rw [q_ms_ne _ _ (by decide)]; exact k2⟩⟩
  · have h4' := q_ncd4 (cb := cb) (n := n) (p := p) (lo := 0) (hi := 3) (t := 0)
    refine ⟨q_ncd cb n p 0 3 0, q_lS cb n p, 0, τ, T, by omega, fun h => absurd h hc, fun σ hT h4 hD h32 => ?_, fun σ hM hA hD h71 h72 => ?_⟩
    · obtain ⟨σ1, f1, f2, f3, f4⟩ := v_numbad hn hp hT h4 (lo := 0) (hi := 3) (t := 0) (by omega) (by omega) hc
      dsimp only
      unfold f_X1_foldLine
      rcases f4 with ⟨g1, g2⟩ | ⟨-, -, -, g, -⟩
      · rw [show f_X1_number 0 3 σ = _ from g1, q_bd, if_pos rfl]
        unfold j_X1_foldLine_23
        rw [if_pos rfl]
        exact ⟨_, _, rfl, f1, q_rC_b hc g2⟩
      · rw [Nat.zero_testBit] at g; cases g
    · dsimp only
      by_cases h4 : q_lT cb n p = 4
      · obtain ⟨g1, g2, g3⟩ := q_rs_b hA h4 6
        rw [q_ncdT h4]
        exact ⟨σ, g1, q_fM_rf, q_rM_b (by omega) ⟨g2, g3⟩⟩
      · rw [q_rs_g hA h4]
        obtain ⟨N, n1, n2, n3⟩ := hD.2.2.2.2.1
        obtain ⟨σ1, e1, e2, e3, e4, ⟨M, m1, m2, m3⟩, e5, e6⟩ := w_handHere hn hM hp hA (lo := 0) (hi := 3) (t := 0) (by omega) (by omega) (by omega) (by omega) n1 n2
        obtain ⟨k1, k2⟩ := e6 hc
        unfold f_X7_readMore
        rw [if_pos (by decide), if_neg (by decide), if_neg (by decide), if_pos rfl, show f_X7_handHere 0 3 0 σ = _ from e1, q_bd, if_neg hc, if_pos (show k_in (40 + nI 0) 50 = true by decide), if_pos (show k_in (40 + nI 0) 50 = true by decide), w_handHere_b (c := q_ncd cb n p 0 3 0) (by omega) (by omega) k1, q_bd, if_pos (show k_in (40 + nI 0) 50 = true by decide), q_bd]
        generalize hF : k_mset (k_mset σ1 67 8 _) 69 _ _ = σF
        have hf : q_fM σ1 σF := by rw [← hF]; exact q_fM_tr (q_fM_set (Or.inr ⟨rfl, by omega⟩)) (q_fM_set (Or.inl rfl))
        have h12 : σF 67 12 = σ1 67 12 ∧ σF 67 13 = σ1 67 13 := by
          rw [← hF]
          exact ⟨by rw [q_ms_ne _ _ (by decide), q_ms, if_neg (by omega)], by rw [q_ms_ne _ _ (by decide), q_ms, if_neg (by omega)]⟩
        rw [w_tail_b (c := q_ncd cb n p 0 3 0) (by omega) (by omega) (by rw [h12.1]; exact k1)]
        exact ⟨_, rfl, q_fM_tr e2 hf, q_rM_b hc ⟨by rw [h12.1]; exact k1, by rw [h12.2]; exact k2⟩⟩
end
