/-! PURE: the same of the reference -/
section MT
variable {τ : k_TW} {σ : k_Mem}
theorem w_isHand (hI : q_I τ) (hN : q_N τ σ) {a : Nat} (ha : a < 100) : f_X7_isHand (nI a) σ = some (q_b (q_H τ a), σ) := by
  obtain ⟨h1, h2, -⟩ := hI
  obtain ⟨e1, e2⟩ := hN
  unfold f_X7_isHand
  rw [v_in32 (nI a) 0 (nI (τ 7 0) - 1) 0 _ (by decide) (by rw [e1]), q_bd]
  rw [v_in32 (nI a) 4 (4 + nI (τ 7 1) - 1) 4 _ (by decide) (by rw [e2]), q_bd]
  have t0 : (nI a).toInt = a := nI_toInt (by omega)
  have t1 : (nI (τ 7 0) - 1).toInt = (τ 7 0 : Int) - 1 := pk_sub_toInt (a := τ 7 0) (b := 1) (by omega) (by omega)
  have t2 : (4 + nI (τ 7 1) - 1).toInt = ((4 + τ 7 1 : Nat) : Int) - 1 := by
    rw [show (4 : Int32) = nI 4 from rfl, q_add]
    exact pk_sub_toInt (a := 4 + τ 7 1) (b := 1) (by omega) (by omega)
  have t5 : (0 : Int32).toInt = 0 := by decide
  have t6 : (4 : Int32).toInt = 4 := by decide
  simp only [Int32.le_iff_toInt_le, t0, t1, t2, t5, t6]
  by_cases c1 : (0 : Int) ≤ a ∧ (a : Int) ≤ (τ 7 0 : Int) - 1
  · rw [if_pos c1, if_neg (by decide), show q_H τ a = true by rw [q_Hb]; omega]; rfl
  · rw [if_neg c1, if_pos rfl]
    by_cases c2 : (4 : Int) ≤ a ∧ (a : Int) ≤ ((4 + τ 7 1 : Nat) : Int) - 1
    · rw [if_pos c2, if_neg (by decide), show q_H τ a = true by rw [q_Hb]; omega]; rfl
    · rw [if_neg c2, if_pos rfl, show q_H τ a = false by rw [← Bool.not_eq_true, q_Hb]; omega]; rfl
theorem w_isHand_no (hI : q_I τ) (hN : q_N τ σ) {x : Int32} (hx : x < 0 ∨ nI 8 ≤ x) : f_X7_isHand x σ = some (0, σ) := by
  obtain ⟨h1, h2, -⟩ := hI
  obtain ⟨e1, e2⟩ := hN
  unfold f_X7_isHand
  rw [v_in32 x 0 (nI (τ 7 0) - 1) 0 _ (by decide) (by rw [e1]), q_bd]
  rw [v_in32 x 4 (4 + nI (τ 7 1) - 1) 4 _ (by decide) (by rw [e2]), q_bd]
  have t1 : (nI (τ 7 0) - 1).toInt = (τ 7 0 : Int) - 1 := pk_sub_toInt (a := τ 7 0) (b := 1) (by omega) (by omega)
  have t2 : (4 + nI (τ 7 1) - 1).toInt = ((4 + τ 7 1 : Nat) : Int) - 1 := by
    rw [show (4 : Int32) = nI 4 from rfl, q_add]
    exact pk_sub_toInt (a := 4 + τ 7 1) (b := 1) (by omega) (by omega)
  have t5 : (0 : Int32).toInt = 0 := by decide
  have t6 : (4 : Int32).toInt = 4 := by decide
  have t8 : (nI 8).toInt = 8 := by decide
  simp only [Int32.le_iff_toInt_le, Int32.lt_iff_toInt_lt, t1, t2, t5, t6, t8] at hx ⊢
  have c1 : ¬ ((0 : Int) ≤ x.toInt ∧ x.toInt ≤ (τ 7 0 : Int) - 1) := by omega
  have c2 : ¬ ((4 : Int) ≤ x.toInt ∧ x.toInt ≤ ((4 + τ 7 1 : Nat) : Int) - 1) := by omega
  rw [if_neg c1, if_pos rfl, if_neg c2, if_pos rfl]
theorem w_isRun (hI : q_I τ) (hM : q_M 0 τ σ) {a : Nat} (ha : a < 32) : f_X7_isRun (nI a) σ = some (q_b (q_run τ a), σ) := by
  obtain ⟨h1, h2, h3, -⟩ := hI
  have e3 : σ 68 44 = nI (τ 7 2) := hM.2.2.1
  unfold f_X7_isRun
  rw [if_pos (by decide), show k_n 44 = 44 from by decide, e3]
  simp (disch := omega) only [q_bit1]
  cases hq : (τ 7 2).testBit a
  · simp [q_run, hq, q_b]
  · simp [q_run, hq, q_b]
theorem w_runsWith (hI : q_I τ) (hN : q_N τ σ) (hM : q_M 0 τ σ) {a : Nat} (ha : q_H τ a = true) : f_X7_runsWith (nI a) σ = some (nI (q_rw τ a), σ) := by
  have h8 := q_H8 hI ha
  have hfin : ¬ (a % 4 ≠ 0 ∧ q_run τ (a - 1) = true) → j_X7_runsWith_20 (nI a) σ = some (nI (q_rw τ a), σ) := by
    intro c
    unfold j_X7_runsWith_20
    rw [w_isRun hI hM (by omega), q_bd]
    simp only [q_b0, show (1 : Int32) = nI 1 from rfl, show (4 : Int32) = nI 4 from rfl, show (3 : Int32) = nI 3 from rfl, q_add]
    simp (disch := omega) only [q_rem, q_le]
    cases c1 : q_run τ a
    · have e : q_rw τ a = a := by unfold q_rw; rw [if_neg c, if_neg (fun h => by rw [c1] at h; cases h.1)]
      rw [if_pos rfl, e]
    · rw [if_neg (by decide)]
      by_cases c2 : 3 ≤ a % 4
      · have e : q_rw τ a = a := by unfold q_rw; rw [if_neg c, if_neg (fun h => by omega)]
        rw [if_pos c2, e]
      · rw [if_neg c2, w_isHand hI hN (by omega), q_bd]
        simp only [q_b0]
        cases c3 : q_H τ (a + 1)
        · have e : q_rw τ a = a := by unfold q_rw; rw [if_neg c, if_neg (fun h => by rw [c3] at h; cases h.2.2)]
          rw [if_pos rfl, e]
        · have e : q_rw τ a = a + 1 := by unfold q_rw; rw [if_neg c, if_pos ⟨c1, by omega, c3⟩]
          rw [if_neg (by decide), e]
  unfold f_X7_runsWith
  simp only [show (4 : Int32) = nI 4 from rfl, show (0 : Int32) = nI 0 from rfl]
  simp (disch := omega) only [q_rem, q_le]
  by_cases c3 : a % 4 ≤ 0
  · rw [if_pos c3, hfin (fun h => by omega)]
  · rw [if_neg c3, show nI a - 1 = nI (a - 1) from q_sub (b := 1) (by omega), w_isRun hI hM (by omega), q_bd]
    simp only [show nI 0 = (0 : Int32) from rfl, q_b0]
    cases c4 : q_run τ (a - 1)
    · rw [if_pos rfl, hfin (fun h => by rw [c4] at h; cases h.2)]
    · have e : q_rw τ a = a - 1 := by unfold q_rw; rw [if_pos ⟨by omega, c4⟩]
      rw [if_neg (by decide), e]
theorem w_penOf (hI : q_I τ) (hM : q_M 0 τ σ) {a : Nat} (ha : q_H τ a = true) : f_X7_penOf (nI a) σ = some (nI (τ 4 a), σ) := by
  have h8 := q_H8 hI ha
  have e : σ 68 (0 + 32 + a) = nI (τ 4 a) - nI a := (hM.1 a ha).2.2.2.2
  unfold f_X7_penOf
  rw [show (32 : Int32) = nI 32 from rfl, q_add]
  simp (disch := omega) only [q_in, q_n]
  rw [if_pos (by simp; omega), show 32 + a = 0 + 32 + a by omega, e, Int32.sub_add_cancel]
theorem q_srow (hM : q_M 0 τ σ) {t c : Nat} (ht : t < 4) (hc : q_H τ c = true) : σ 68 (8 * t + c) = nI (τ t c) := by
  obtain ⟨h0, h1, h2, h3, -⟩ := hM.1 c hc
  match t, ht with
  | 0, _ => rw [← h0]
  | 1, _ => rw [← h1]
  | 2, _ => rw [← h2]
  | 3, _ => rw [← h3]
  | t + 4, h => exact absurd h (by omega)
theorem w_shows (hI : q_I τ) (hN : q_N τ σ) (hM : q_M 0 τ σ) {a t : Nat} (ha : q_H τ a = true) (ht : t < 3) : f_X7_shows (nI a) (nI t) σ = some (nI (q_sh τ a t), σ) := by
  have h8 := q_H8 hI ha
  obtain ⟨-, -, -, -, hp⟩ := hI.2.2.2.2.2.1 a ha
  have hp8 := q_H8 hI hp
  have hr := q_rwH hI ha
  have hr8 := q_H8 hI hr
  obtain ⟨-, -, -, -, hq⟩ := hI.2.2.2.2.2.1 _ hr
  have hq8 := q_H8 hI hq
  have w1 : σ 68 (8 + 8 * t + τ 4 a) = nI (τ (t + 1) (τ 4 a)) := by rw [← q_srow hM (t := t + 1) (by omega) hp]; congr 1; omega
  have w2 : σ 68 (8 + 8 * t + τ 4 (q_rw τ a)) = nI (τ (t + 1) (τ 4 (q_rw τ a))) := by rw [← q_srow hM (t := t + 1) (by omega) hq]; congr 1; omega
  unfold f_X7_shows
  rw [w_penOf hI hM ha, q_bd]
  simp only [show (8 : Int32) = nI 8 from rfl, q_mul, q_add]
  simp (disch := omega) only [q_in, q_n, w1]
  rw [if_pos (by simp; omega), w_runsWith hI hN hM ha, q_bd]
  simp (disch := omega) only [show (2 : Int32) = nI 2 from rfl, q_eq]
  unfold q_sh
  by_cases c : q_rw τ a = a
  · simp only [c, if_true]
    by_cases c2 : t = 2
    · subst c2; simp
    · simp [c2]
  · simp only [c, if_false]
    by_cases c2 : t = 2
    · subst c2; simp
    · rw [if_neg c2, if_neg c2, w_penOf hI hM hr, q_bd, q_add]
      simp (disch := omega) only [q_in, q_n, w2, q_add]
      rw [if_pos (by simp; omega)]
      have b1 := hI.2.2.2.2.2.1 _ hp
      have b2 := hI.2.2.2.2.2.1 _ hq
      have hu2 : τ (t + 1) (τ 4 a) ≤ 9 ∧ τ (t + 1) (τ 4 (q_rw τ a)) ≤ 9 := by
        match t, ht with
        | 0, _ => exact ⟨b1.2.1, b2.2.1⟩
        | 1, _ => exact ⟨b1.2.2.1, b2.2.2.1⟩
        | t + 2, h => exact absurd h (by omega)
      rw [q_div (by omega) (by omega) (by omega)]
theorem w_far {a b : Nat} (ha : a < 2 ^ 31) (hb : b < 2 ^ 31) : f_X7_far (nI a) (nI b) σ = some (nI (q_ab a b), σ) := by
  unfold f_X7_far q_ab
  simp (disch := omega) only [q_le]
  by_cases c : a ≤ b
  · rw [if_pos c, q_sub c]; congr 3; omega
  · rw [if_neg c, q_sub (by omega)]; congr 3; omega
theorem q_ab9 {a b : Nat} (ha : a ≤ 9) (hb : b ≤ 9) : q_ab a b ≤ 9 := by unfold q_ab; omega
theorem w_likesOf (hI : q_I τ) (hN : q_N τ σ) (hM : q_M 0 τ σ) {a b : Nat} (ha : q_H τ a = true) (hb : q_H τ b = true) : f_X7_likesOf (nI a) (nI b) σ = some (nI (q_lk τ a b), σ) := by
  have h8 := q_H8 hI ha
  obtain ⟨k1, k2, k3, k4, -⟩ := hI.2.2.2.2.2.1 a ha
  have s0 := q_sh9 hI hb (t := 0) (by omega)
  have s1 := q_sh9 hI hb (t := 1) (by omega)
  have e0 : σ 68 a = nI (τ 0 a) := by have := q_srow hM (t := 0) (by omega) ha; simpa using this
  have e1 : σ 68 (8 + a) = nI (τ 1 a) := q_srow hM (t := 1) (by omega) ha
  have e2 : σ 68 (16 + a) = nI (τ 2 a) := q_srow hM (t := 2) (by omega) ha
  have e3 : σ 68 (24 + a) = nI (τ 3 a) := q_srow hM (t := 3) (by omega) ha
  have r0 := w_shows hI hN hM hb (t := 0) (by omega)
  have r1 := w_shows hI hN hM hb (t := 1) (by omega)
  have r2 := w_shows hI hN hM hb (t := 2) (by omega)
  have b1 := q_ab9 s0 k2
  have b2 := q_ab9 s1 k3
  have e : q_sh τ b 2 ≤ 2 := by
    have h1 := hI.2.2.2.2.2.1 b hb
    have h2 := hI.2.2.2.2.2.1 _ h1.2.2.2.2
    unfold q_sh; rw [if_pos rfl]; exact h2.2.2.2.1
  unfold f_X7_likesOf
  simp only [show (0 : Int32) = nI 0 from rfl, show (1 : Int32) = nI 1 from rfl, show (8 : Int32) = nI 8 from rfl, show (16 : Int32) = nI 16 from rfl, show (24 : Int32) = nI 24 from rfl, show (2 : Int32) = nI 2 from rfl, show (20 : Int32) = nI 20 from rfl, show (3 : Int32) = nI 3 from rfl, q_add, r0, r1, r2, q_bd]
  simp (disch := omega) only [q_inT, eq_self, if_true, q_n, e0, e1, e2, e3, w_far, q_bd, q_eq, q_sub, q_add]
  unfold q_lk
  have : τ 0 a = 0 ∨ τ 0 a = 1 ∨ τ 0 a = 2 ∨ τ 0 a = 3 := by omega
  rcases this with h | h | h | h
  · simp [h]
  · by_cases c : q_sh τ b 2 = τ 3 a
    · simp [h, c, r2, q_bd, e3]
    · have ne : ¬ nI (q_sh τ b 2) = nI (τ 3 a) := by rw [q_eq (by omega) (by omega)]; exact c
      simp [h, c, r2, q_bd, e3, ne]
  · simp [h]
  · simp [h]
    congr 1
    omega
end MT
