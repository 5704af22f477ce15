/-! PURE: calls that ask only -/
theorem q_10 : ¬ (1 : Int32) = 0 := by decide
theorem q_q0 {ρ : Type} {A B : k_Mem → Option (ρ × k_Mem)} (h : ∀ τ im σ, q_R τ im σ → ∃ v, A σ = some (v, σ) ∧ B σ = some (v, σ)) : q_Op A B := by
  intro σ hr
  obtain ⟨τ, im, hR⟩ := hr
  obtain ⟨v, h1, h2⟩ := h τ im σ hR
  exact ⟨v, σ, σ, h1, h2, τ, im, hR⟩
theorem o_fault : q_Op (fun σ => f_X6_fault σ) (fun σ => f_X7_fault σ) := q_q0 (fun τ im σ h => by
  obtain ⟨-, -, -, -, -, -, -, -, h9⟩ := h
  exact ⟨σ 3 2, rfl, by unfold f_X7_fault; rw [h9.1]⟩)
theorem o_torn : q_Op (fun σ => f_X6_torn σ) (fun σ => f_X7_torn σ) := q_q0 (fun τ im σ h => by
  obtain ⟨-, -, -, -, -, -, -, -, h9⟩ := h
  exact ⟨σ 0 11, rfl, by unfold f_X7_torn; rw [h9.2.1]⟩)
theorem o_rule (x : Int32) : q_Op (fun σ => f_X6_rule x σ) (fun σ => f_X7_rule x σ) := q_q0 (fun τ im σ h => by
  obtain ⟨hI, hC, hN, hM, -⟩ := h
  unfold f_X6_rule f_X7_rule
  have e44 : σ 68 44 = nI (τ 7 2) := hM.2.2.1
  have e49 : σ 68 49 = nI (τ 7 3) := hM.2.2.2
  rw [if_pos (by decide : k_in 44 250 = true), if_pos (by decide : k_in 49 250 = true), show k_n 44 = 44 by decide, show k_n 49 = 49 by decide, e44, e49, hN.1, hN.2, hC.1, hC.2.1, hC.2.2.1, hC.2.2.2.1]
  by_cases h0 : x = 0
  · rw [if_pos h0, if_pos h0]; exact ⟨_, rfl, rfl⟩
  rw [if_neg h0, if_neg h0]
  by_cases h1 : x = 1
  · rw [if_pos h1, if_pos h1]; exact ⟨_, rfl, rfl⟩
  rw [if_neg h1, if_neg h1]
  by_cases h2 : x = 2
  · rw [if_pos h2, if_pos h2]; exact ⟨_, rfl, rfl⟩
  rw [if_neg h2, if_neg h2]
  by_cases h3 : x = 3
  · rw [if_pos h3, if_pos h3, v_wedBits hI hC, w_wedOnes hI hM]; exact ⟨_, rfl, rfl⟩
  rw [if_neg h3, if_neg h3]
  by_cases h4 : x = 4
  · rw [if_pos h4]; try rw [if_pos h4]
    exact ⟨_, rfl, rfl⟩
  rw [if_neg h4]; try rw [if_neg h4]
  exact ⟨_, rfl, rfl⟩)
theorem w_foldedWith {τ : k_TW} {σ : k_Mem} (hI : q_I τ) (hM : q_M 0 τ σ) {a : Nat} (ha : q_H τ a = true) : f_X7_foldedWith (nI a) σ = some (nI (τ 6 a), σ) := by
  have a8 := q_H8 hI ha
  have h6 := hI.2.2.2.2.2.2.2 a a8
  have eb : τ 6 a = q_bb (fun c => (τ 6 a).testBit c) 8 := q_bits (n := 8) h6.1 (fun c _ => rfl)
  have key : ∀ (m k f : Nat), k + m = 8 → m < f → l_X7_foldedWith_4 f (nI a) (nI (q_bb (fun c => (τ 6 a).testBit c) k)) (nI k) σ = some (nI (q_bb (fun c => (τ 6 a).testBit c) 8), σ) := by
    intro m
    induction m with
    | zero =>
      intro k f h1 h2
      obtain ⟨f, rfl⟩ : ∃ g, f = g + 1 := ⟨f - 1, by omega⟩
      rw [l_X7_foldedWith_4, show (8 : Int32) = nI 8 from rfl, if_pos (nI_le (by omega) (by omega)), show k = 8 by omega]
    | succ m ih =>
      intro k f h1 h2
      obtain ⟨f, rfl⟩ : ∃ g, f = g + 1 := ⟨f - 1, by omega⟩
      have hih := ih (k + 1) f (by omega) (by omega)
      rw [l_X7_foldedWith_4, show (8 : Int32) = nI 8 from rfl, if_neg (nI_ge (by omega) (by omega)), show (4 : Int32) = nI 4 from rfl]
      simp only [j_X7_foldedWith_35, j_X7_foldedWith_36, q_or0, show nI k + 1 = nI (k + 1) from nI_1 k]
      simp (disch := omega) only [q_div, q_eq]
      have no : (τ 6 a).testBit k = false → l_X7_foldedWith_4 f (nI a) (nI (q_bb (fun c => (τ 6 a).testBit c) k)) (nI (k + 1)) σ = some (nI (q_bb (fun c => (τ 6 a).testBit c) 8), σ) := by
        intro hk
        rw [← hih, q_bb_0 (p := fun c => (τ 6 a).testBit c) hk]
      by_cases hs : a / 4 = k / 4
      · rw [if_pos hs]
        exact no (by rw [← Bool.not_eq_true]; intro h; exact (h6.2 k h).2.2.1 hs)
      · rw [if_neg hs]
        have ar : f_X7_areFolded (nI a) (nI k) σ = some (q_b ((τ 6 a).testBit k), σ) := by
          cases hk : q_H τ k
          · have e1 : (τ 6 a).testBit k = false := by
              rw [← Bool.not_eq_true]; intro h; rw [(h6.2 k h).2.1] at hk; cases hk
            have k6 := hI.2.2.2.2.2.2.2 k (by omega)
            have e2 : (τ 6 k).testBit a = false := by
              rw [← Bool.not_eq_true]; intro h; rw [(k6.2 a h).1] at hk; cases hk
            have key2 : ∀ l r, l < 4 → r < 8 → j_X7_areFolded_21 (nI l) (nI r) σ = some (q_b ((τ 6 l).testBit r), σ) := by
              intro l r hl hr
              have e : σ 68 (0 + 40 + l) = nI (τ 6 l) := (hM.2.1 l hl).1
              have h := (hI.2.2.2.2.2.2.2 l (by omega)).1
              unfold j_X7_areFolded_21
              rw [show (40 : Int32) = nI 40 from rfl, q_add]
              simp (disch := omega) only [q_inT, eq_self, if_true, q_n]
              rw [show 40 + l = 0 + 40 + l by omega, e]
              simp (disch := omega) only [q_bit1]
              cases (τ 6 l).testBit r <;> simp [q_b]
            unfold f_X7_areFolded j_X7_areFolded_10
            simp (disch := omega) only [q_le]
            by_cases h : k ≤ a
            · rw [if_pos h, if_pos h, key2 k a (by omega) (by omega), e1, e2]
            · rw [if_neg h, if_neg h, key2 a k (by omega) (by omega)]
          · exact w_areFolded hI hM ha hk hs
        rw [ar, q_bd]
        simp only [q_b0]
        cases hk : (τ 6 a).testBit k
        · rw [if_pos rfl]; exact no hk
        · rw [if_neg (by decide), ← hih, q_bb_or1 (p := fun c => (τ 6 a).testBit c) (by omega) hk]
  unfold f_X7_foldedWith
  rw [show (nI (τ 6 a)) = nI (q_bb (fun c => (τ 6 a).testBit c) 8) by rw [← eb]]
  exact key 8 0 1000 (by omega) (by omega)
theorem o_hand (x y : Int32) : q_Op (fun σ => f_X6_hand x y σ) (fun σ => f_X7_hand x y σ) := q_q0 (fun τ im σ h => by
  obtain ⟨hI, hC, hN, hM, -⟩ := h
  unfold f_X6_hand f_X7_hand
  rcases q_hand x (im := im) hI with ⟨a, a8, rfl, ha⟩ | ⟨h1, h2⟩
  · rw [v_isH1 hI hC ha, q_bd, w_isH1 hI hN ha, q_bd]
    rw [if_neg q_10, if_neg q_10]
    obtain ⟨c0, c1, c2, c3, c4⟩ := hC.2.2.2.2.1 a ha
    have c5 : σ 12 a = q_e1 (q_so τ a) := q_C_so hC a8
    have c6 : σ 13 a = nI (τ 6 a) := (hC.2.2.2.2.2 a a8).2
    have hj : ∀ t, t < 4 → j_X7_hand_52 (nI a) (nI t) σ = some (nI (τ t a), σ) := by
      intro t ht
      unfold j_X7_hand_52
      rw [show (8 : Int32) = nI 8 from rfl, q_mul, q_add]
      simp (disch := omega) only [q_inT, eq_self, if_true, q_n]
      rw [q_srow hM ht ha]
    simp only [q_inT (show a < 8 from a8) (by omega : 8 < 2 ^ 31), if_true, q_n (show a < 2 ^ 31 by omega)]
    by_cases h0 : y = 0
    · subst h0
      rw [if_pos rfl, if_pos rfl]; exact ⟨_, rfl, by rw [show (0 : Int32) = nI 0 from rfl, hj 0 (by omega), ← c0]⟩
    rw [if_neg h0, if_neg h0]
    by_cases h1 : y = 1
    · subst h1
      rw [if_pos rfl, if_pos rfl]; exact ⟨_, rfl, by rw [show (1 : Int32) = nI 1 from rfl, hj 1 (by omega), ← c1]⟩
    rw [if_neg h1, if_neg h1]
    by_cases h2 : y = 2
    · subst h2
      rw [if_pos rfl, if_pos rfl]; exact ⟨_, rfl, by rw [show (2 : Int32) = nI 2 from rfl, hj 2 (by omega), ← c2]⟩
    rw [if_neg h2, if_neg h2]
    by_cases h3 : y = 3
    · subst h3
      rw [if_pos rfl, if_pos rfl]; exact ⟨_, rfl, by rw [show (3 : Int32) = nI 3 from rfl, hj 3 (by omega), ← c3]⟩
    rw [if_neg h3, if_neg h3]
    by_cases h4 : y = 4
    · rw [if_pos h4, if_pos h4, w_penOf hI hM ha]; exact ⟨_, rfl, by rw [q_bd, ← c4]⟩
    rw [if_neg h4, if_neg h4]
    by_cases h5 : y = 5
    · rw [if_pos h5, if_pos h5, c5, v_orNone (q_so8 hI a8), w_wedTo hI hM a8]; exact ⟨_, rfl, rfl⟩
    rw [if_neg h5, if_neg h5]
    by_cases h6 : y = 6
    · rw [if_pos h6, if_pos h6, w_foldedWith hI hM ha, c6]; exact ⟨_, rfl, rfl⟩
    rw [if_neg h6, if_neg h6]
    exact ⟨_, rfl, rfl⟩
  · rw [h1 6 σ hC, h2 σ hN]; exact ⟨_, rfl, rfl⟩)
/-- an int between 0 and n -/
theorem q_rng (x : Int32) {n : Nat} (hn : n < 2 ^ 30) : (∃ t, t ≤ n ∧ x = nI t) ∨ ¬ (0 ≤ x ∧ x ≤ nI n) := by
  rcases q_ix x (n := n + 1) (by omega) with h | h | ⟨j, h1, h2⟩
  · right; intro h2; rw [Int32.lt_iff_toInt_lt] at h; rw [Int32.le_iff_toInt_le] at h2; omega
  · right; intro h2
    rw [Int32.le_iff_toInt_le] at h
    have h3 := h2.2
    rw [Int32.le_iff_toInt_le] at h3
    rw [nI_toInt (by omega)] at h h3
    omega
  · left; exact ⟨j, by omega, h2⟩
theorem q_rng_t {n t : Nat} (hn : n < 2 ^ 30) (ht : t ≤ n) : 0 ≤ nI t ∧ nI t ≤ nI n := by
  rw [Int32.le_iff_toInt_le, Int32.le_iff_toInt_le, nI_toInt (by omega), nI_toInt (by omega), show (0 : Int32).toInt = 0 by decide]
  omega
theorem q_nlt {x y : Int32} : (¬ x ≤ y) = (y < x) := propext (by rw [Int32.le_iff_toInt_le, Int32.lt_iff_toInt_lt]; omega)
theorem q_nle {x y : Int32} : (¬ x < y) = (y ≤ x) := propext (by rw [Int32.le_iff_toInt_le, Int32.lt_iff_toInt_lt]; omega)
/-- a guard of the class -/
theorem q_gd {α : Type} (x n : Int32) (A B : α) : (if x < 0 then A else if x ≤ n then B else A) = if 0 ≤ x ∧ x ≤ n then B else A := by
  by_cases h : x < 0
  · rw [if_pos h, if_neg (fun g => by rw [← q_nle] at g; exact g.1 h)]
  · rw [if_neg h]
    rw [q_nle] at h
    by_cases h2 : x ≤ n
    · rw [if_pos h2, if_pos ⟨h, h2⟩]
    · rw [if_neg h2, if_neg (fun g => h2 g.2)]
theorem q_gd2 {α : Type} (x n : Int32) (A B : α) : (if x < 0 then A else if n < x then A else B) = if 0 ≤ x ∧ x ≤ n then B else A := by
  by_cases h : x < 0
  · rw [if_pos h, if_neg (fun g => by rw [← q_nle] at g; exact g.1 h)]
  · rw [if_neg h]
    rw [q_nle] at h
    by_cases h2 : n < x
    · rw [if_pos h2, if_neg (fun g => by have := g.2; rw [← q_nle] at this; exact this h2)]
    · rw [if_neg h2, if_pos ⟨h, by rw [← q_nle]; exact h2⟩]
theorem v_isTrait (x : Int32) (σ : k_Mem) : f_X6_isTrait x σ = some (if 0 ≤ x ∧ x ≤ nI 2 then 1 else 0, σ) := by
  unfold f_X6_isTrait
  rw [show (2 : Int32) = nI 2 from rfl, q_gd2]
  split <;> rfl
theorem v_isStrokes (x : Int32) (σ : k_Mem) : f_X6_isStrokes x σ = some (if 0 ≤ x ∧ x ≤ nI 9 then 1 else 0, σ) := by
  unfold f_X6_isStrokes
  rw [show (9 : Int32) = nI 9 from rfl, q_gd2]
  split <;> rfl
theorem w_in (x : Int32) (n : Nat) (hn : n < 2 ^ 31) (b : Int64) (hb : b = (nI n).toInt64) (σ : k_Mem) : f_X7_in x.toInt64 0 b σ = some (if 0 ≤ x ∧ x ≤ nI n then 1 else 0, σ) := v_in32 x 0 (nI n) 0 b (by decide) hb σ
theorem o_page (x y : Int32) : q_Op (fun σ => f_X6_page x y σ) (fun σ => f_X7_page x y σ) := q_q0 (fun τ im σ h => by
  obtain ⟨hI, hC, hN, hM, -⟩ := h
  unfold f_X6_page f_X7_page
  rcases q_hand x (im := im) hI with ⟨a, a8, rfl, ha⟩ | ⟨h1, h2⟩
  · rw [v_isH1 hI hC ha, q_bd, w_isH1 hI hN ha, q_bd]
    rw [if_neg (by decide), if_neg (by decide), v_isTrait, q_bd, w_in y 2 (by omega) 2 (by decide), q_bd]
    rcases q_rng y (n := 2) (by omega) with ⟨t, ht, rfl⟩ | hn
    · rw [if_pos (q_rng_t (by omega) ht), if_neg (by decide), if_neg (by decide), v_shows hI hC ha (by omega), q_bd, w_shows hI hN hM ha (by omega), q_bd]
      exact ⟨_, rfl, rfl⟩
    · rw [if_neg hn, if_pos rfl, if_pos rfl]; exact ⟨_, rfl, rfl⟩
  · rw [h1 6 σ hC, h2 σ hN]; exact ⟨_, rfl, rfl⟩)
theorem q_sc_w : ∀ c ∈ [46, 47, 48, 49, 50, 51], c ∈ q_sc := by decide
theorem o_likes (x y : Int32) : q_Op (fun σ => f_X6_likes x y σ) (fun σ => f_X7_likes x y σ) := q_qu (fun τ im σ h => by
  obtain ⟨hI, hC, hN, hM, -⟩ := h
  unfold f_X6_likes f_X7_likes
  rcases q_hand x (im := im) hI with ⟨a, a8, rfl, ha⟩ | ⟨h1, h2⟩
  · rcases q_hand y (im := im) hI with ⟨c, c8, rfl, hc⟩ | ⟨h1, h2⟩
    · rw [v_isH1 hI hC ha, q_bd, if_neg (by decide), v_isH1 hI hC hc, q_bd, if_neg (by decide), v_sameSide (by omega) (by omega), q_bd]
      simp only [q_b0, decide_eq_false_iff_not]
      by_cases hs : a / 4 = c / 4
      · rw [if_neg (by omega)]
        refine ⟨_, _, rfl, sm_rf, fun σ' h' => ?_⟩
        obtain ⟨-, hC', hN', hM', -⟩ := h'
        rw [w_isH1 hI hN' ha, q_bd, if_neg (by decide), w_isH1 hI hN' hc, q_bd, if_neg (by decide), show (4 : Int32) = nI 4 from rfl, q_div (by omega) (by omega) (by omega), q_div (by omega) (by omega) (by omega), if_pos (by rw [hs])]
        exact ⟨_, rfl, sm_rf⟩
      · rw [if_pos (by omega)]
        obtain ⟨σ1, e1, e2, e3, e4⟩ := v_weigh (by omega) hI hC
        rw [e1, q_bd]
        unfold f_X0_liking
        rw [show (8 : Int32) = nI 8 from rfl, q_mul, q_add]
        simp (disch := omega) only [q_inT, eq_self, if_true, q_n, q_bd, e3.2.1 a c ha hc hs]
        refine ⟨_, _, rfl, k_Sm_mono e4 q_sc_w, fun σ' h' => ?_⟩
        obtain ⟨-, hC', hN', hM', -⟩ := h'
        rw [w_isH1 hI hN' ha, q_bd, if_neg (by decide), w_isH1 hI hN' hc, q_bd, if_neg (by decide), show (4 : Int32) = nI 4 from rfl, q_div (by omega) (by omega) (by omega), q_div (by omega) (by omega) (by omega), if_neg (by rw [q_eq (by omega) (by omega)]; exact hs), w_likesOf hI hN' hM' ha hc, q_bd]
        exact ⟨_, rfl, sm_rf⟩
    · rw [v_isH1 hI hC ha, q_bd, if_neg (by decide), h1 6 σ hC, q_bd]
      refine ⟨_, _, rfl, sm_rf, fun σ' h' => ?_⟩
      obtain ⟨-, hC', hN', hM', -⟩ := h'
      rw [w_isH1 hI hN' ha, q_bd, if_neg (by decide), h2 σ' hN']
      exact ⟨_, rfl, sm_rf⟩
  · rw [h1 6 σ hC, q_bd]
    refine ⟨_, _, rfl, sm_rf, fun σ' h' => ?_⟩
    obtain ⟨-, hC', hN', hM', -⟩ := h'
    rw [h2 σ' hN']
    exact ⟨_, rfl, sm_rf⟩)
theorem w_folds {τ : k_TW} {σ : k_Mem} (hI : q_I τ) (hM : q_M 0 τ σ) (x : Int32) : ∀ (m k f : Nat), k + m = 4 → m < f → ∃ f', l_X7_count_4 f x (nI (q_fo τ k)) (nI k) σ = l_X7_count_4 (f' + 1) x (nI (q_fo τ 4)) (nI 4) σ := by
  intro m
  induction m with
  | zero =>
    intro k f h1 h2
    obtain ⟨f, rfl⟩ : ∃ g, f = g + 1 := ⟨f - 1, by omega⟩
    exact ⟨f, by rw [show k = 4 by omega]⟩
  | succ m ih =>
    intro k f h1 h2
    obtain ⟨f, rfl⟩ : ∃ g, f = g + 1 := ⟨f - 1, by omega⟩
    obtain ⟨f', e⟩ := ih (k + 1) f (by omega) (by omega)
    refine ⟨f', ?_⟩
    rw [← e, l_X7_count_4, show (4 : Int32) = nI 4 from rfl, if_neg (nI_ge (by omega) (by omega)), show (40 : Int32) = nI 40 from rfl, q_add]
    simp (disch := omega) only [q_inT, eq_self, if_true, q_n]
    have e40 : σ 68 (40 + k) = nI (τ 6 k) := by have := (hM.2.1 k (by omega)).1; rwa [Nat.zero_add] at this
    rw [e40, w_bitsOf (hI.2.2.2.2.2.2.2 k (by omega)).1, q_bd, q_add, show nI k + 1 = nI (k + 1) from nI_1 k]
    rfl
theorem o_count (x : Int32) : q_Op (fun σ => f_X6_count x σ) (fun σ => f_X7_count x σ) := q_q0 (fun τ im σ h => by
  obtain ⟨hI, hC, hN, hM, him, htp, hsn, hss, -⟩ := h
  obtain ⟨n1, -, t1, t2, -⟩ := htp
  obtain ⟨n2, -, s1, s2, -⟩ := hsn
  obtain ⟨i1, i2, i3, -⟩ := him
  obtain ⟨l1, ⟨n3, -, l2, l3⟩, -⟩ := hss 0 (by omega)
  obtain ⟨f', e⟩ := w_folds hI hM x 4 0 1000 (by omega) (by omega)
  unfold f_X6_count f_X7_count
  rw [show l_X7_count_4 1000 x 0 0 σ = l_X7_count_4 1000 x (nI (q_fo τ 0)) (nI 0) σ from rfl, e, l_X7_count_4, if_pos (show (4 : Int32) ≤ nI 4 by decide)]
  by_cases h0 : x = 0
  · rw [if_pos h0, if_pos h0, s1, s2]; exact ⟨_, rfl, rfl⟩
  rw [if_neg h0, if_neg h0]
  by_cases h1 : x = 1
  · rw [if_pos h1, if_pos h1, i1, v_bitCount (by split <;> split <;> omega), q_bd, if_pos (by decide : k_in 0 2 = true)]
    simp only [j_X7_count_87]
    rw [if_pos (by decide : k_in 1 2 = true), show k_n 0 = 0 by decide, show k_n 1 = 1 by decide, i2, i3]
    have n10 : ¬ nI 1 = 0 := by decide
    have n00 : nI 0 = 0 := by decide
    cases im 0 <;> cases im 1 <;> simp only [Option.isSome_none, Option.isSome_some, if_true, Bool.false_eq_true, if_false, n10, n00, if_pos (by decide : k_in 1 2 = true)] <;> exact ⟨_, rfl, congrArg (fun z => some (z, σ)) (by decide)⟩
  rw [if_neg h1, if_neg h1]
  by_cases h2 : x = 2
  · rw [if_pos h2, if_pos h2, t1, t2]; exact ⟨_, rfl, rfl⟩
  rw [if_neg h2, if_neg h2]
  by_cases h3 : x = 3
  · rw [if_pos h3, if_pos h3]
    have k0 : k_n 0 = 0 := by decide
    simp only [k0, Nat.mul_zero, Nat.add_zero] at l1 l2 l3 ⊢
    rw [if_pos (by decide), if_pos (by decide), if_pos (by decide)]
    unfold f_X2_isNothing
    rcases l1 with ⟨g1, g2⟩ | ⟨l, g0, g1, g2⟩
    · rw [g1, g2, if_pos rfl, q_bd, if_pos rfl]; exact ⟨_, rfl, rfl⟩
    · rw [g1, g2, if_neg (by rw [q_m1 (by omega)]; exact id), if_neg (by rw [q_m4 (by omega)]; exact id), q_bd, if_pos rfl, if_pos (by decide), if_pos (by decide), if_pos (by decide), l2, l3]
      exact ⟨_, rfl, rfl⟩
  rw [if_neg h3, if_neg h3]
  by_cases h4 : x = 4
  · rw [if_pos h4, if_pos h4, v_couples hI hC, w_couples hI hM]; exact ⟨_, rfl, rfl⟩
  rw [if_neg h4, if_neg h4]
  by_cases h5 : x = 5
  · rw [if_pos h5, if_pos h5, v_foldings hI hC]; exact ⟨_, rfl, rfl⟩
  rw [if_neg h5, if_neg h5]
  exact ⟨_, rfl, rfl⟩)
