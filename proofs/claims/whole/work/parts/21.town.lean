/-! PURE: a town τ, as numbers. τ 0..4 kind, loops, bars, lean, pen of a hand; τ 5 with whom it is wed, and 1 (0: nobody); τ 6 with whom it is folded (bits); τ 7: 0 lefts, 1 rights, 2 run (bits), 3 year -/
abbrev k_TW : Type := Nat → Nat → Nat
def q_H (τ : k_TW) (a : Nat) : Bool := decide (a < 4 ∧ a < τ 7 0) || decide (4 ≤ a ∧ a < 4 + τ 7 1)
def q_run (τ : k_TW) (a : Nat) : Bool := (τ 7 2).testBit a
/-- with which page a page runs (itself: with none) -/
def q_rw (τ : k_TW) (a : Nat) : Nat := if a % 4 ≠ 0 ∧ q_run τ (a - 1) = true then a - 1 else if q_run τ a = true ∧ a % 4 ≠ 3 ∧ q_H τ (a + 1) = true then a + 1 else a
def q_sh (τ : k_TW) (a t : Nat) : Nat := if t = 2 then τ 3 (τ 4 a) else if q_rw τ a = a then τ (t + 1) (τ 4 a) else (τ (t + 1) (τ 4 a) + τ (t + 1) (τ 4 (q_rw τ a))) / 2
def q_ab (a b : Nat) : Nat := (a - b) + (b - a)
def q_lk (τ : k_TW) (a b : Nat) : Nat :=
  if τ 0 a = 2 then q_sh τ b 0 + q_sh τ b 1 else if τ 0 a = 3 then 20 - (q_sh τ b 0 + q_sh τ b 1)
  else (20 - q_ab (q_sh τ b 0) (τ 1 a) - q_ab (q_sh τ b 1) (τ 2 a)) + (if τ 0 a = 1 ∧ q_sh τ b 2 = τ 3 a then 3 else 0)
def q_can (τ : k_TW) (a b : Nat) : Bool := q_H τ a && q_H τ b && decide (a / 4 ≠ b / 4) && !(τ 6 a).testBit b
/-- what holds of every town -/
def q_I (τ : k_TW) : Prop :=
  τ 7 0 ≤ 4 ∧ τ 7 1 ≤ 4 ∧ τ 7 2 < 256 ∧ τ 7 3 < 1000 ∧ (∀ a, q_run τ a = true → q_H τ a = true) ∧
  (∀ a, q_H τ a = true → τ 0 a ≤ 3 ∧ τ 1 a ≤ 9 ∧ τ 2 a ≤ 9 ∧ τ 3 a ≤ 2 ∧ q_H τ (τ 4 a) = true) ∧
  (∀ a, a < 8 → τ 5 a ≤ 8 ∧ (τ 5 a ≠ 0 → q_H τ a = true ∧ q_H τ (τ 5 a - 1) = true ∧ a / 4 ≠ (τ 5 a - 1) / 4 ∧ τ 5 (τ 5 a - 1) = a + 1)) ∧
  (∀ a, a < 8 → τ 6 a < 256 ∧ ∀ b, (τ 6 a).testBit b = true → q_H τ a = true ∧ q_H τ b = true ∧ a / 4 ≠ b / 4 ∧ (τ 6 b).testBit a = true)
/-- the class's town at b is τ -/
def q_C (b : Nat) (τ : k_TW) (σ : k_Mem) : Prop :=
  σ b 7 = nI (τ 7 0) ∧ σ b 8 = nI (τ 7 1) ∧ σ b 9 = nI (τ 7 2) ∧ σ b 10 = nI (τ 7 3) ∧
  (∀ a, q_H τ a = true → σ (b + 1) a = nI (τ 0 a) ∧ σ (b + 2) a = nI (τ 1 a) ∧ σ (b + 3) a = nI (τ 2 a) ∧ σ (b + 4) a = nI (τ 3 a) ∧ σ (b + 5) a = nI (τ 4 a)) ∧
  (∀ a, a < 8 → σ (b + 6) a = nI (τ 5 a) - 1 ∧ σ (b + 7) a = nI (τ 6 a))
/-- the reference's state from o on is τ -/
def q_M (o : Nat) (τ : k_TW) (σ : k_Mem) : Prop :=
  (∀ a, q_H τ a = true → σ 68 (o + a) = nI (τ 0 a) ∧ σ 68 (o + 8 + a) = nI (τ 1 a) ∧ σ 68 (o + 16 + a) = nI (τ 2 a) ∧ σ 68 (o + 24 + a) = nI (τ 3 a) ∧ σ 68 (o + 32 + a) = nI (τ 4 a) - nI a) ∧
  (∀ a, a < 4 → σ 68 (o + 40 + a) = nI (τ 6 a) ∧ σ 68 (o + 45 + a) = nI (τ 5 a - 1)) ∧ σ 68 (o + 44) = nI (τ 7 2) ∧ σ 68 (o + 49) = nI (τ 7 3)
def q_N (τ : k_TW) (σ : k_Mem) : Prop := σ 67 1 = nI (τ 7 0) ∧ σ 67 2 = nI (τ 7 1)
theorem q_H8 {τ : k_TW} (h : q_I τ) {a : Nat} (ha : q_H τ a = true) : a < 8 := by
  obtain ⟨h1, h2, -⟩ := h
  simp only [q_H, Bool.or_eq_true, decide_eq_true_eq] at ha
  omega
theorem q_Hb (τ : k_TW) (a : Nat) : (q_H τ a = true) = ((a < 4 ∧ a < τ 7 0) ∨ (4 ≤ a ∧ a < 4 + τ 7 1)) := by
  simp only [q_H, Bool.or_eq_true, decide_eq_true_eq]
def q_b (b : Bool) : Int32 := if b then 1 else 0
theorem q_b0 (b : Bool) : (q_b b = 0) = (b = false) := by cases b <;> simp [q_b]
theorem q_b1 (b : Bool) : (q_b b = 1) = (b = true) := by cases b <;> simp [q_b]
section CT
variable {b : Nat} {τ : k_TW} {σ : k_Mem}
/-- isHand of the class -/
theorem v_isHand (hI : q_I τ) (hC : q_C b τ σ) {a : Nat} (ha : a < 100) : f_X5_isHand b (nI a) σ = some (q_b (q_H τ a), σ) := by
  obtain ⟨h1, h2, -⟩ := hI
  obtain ⟨e1, e2, -⟩ := hC
  unfold f_X5_isHand j_X5_isHand_12
  simp only [e1, e2, q_lit, q_add]
  simp (disch := omega) only [q_lt, q_le, Nat.not_lt_zero, if_false]
  by_cases c1 : a < τ 7 0
  · rw [if_pos c1, show q_H τ a = true by rw [q_Hb]; omega]; rfl
  · rw [if_neg c1]
    by_cases c2 : a < 4
    · rw [if_pos c2, show q_H τ a = false by rw [← Bool.not_eq_true, q_Hb]; omega]; rfl
    · rw [if_neg c2]
      by_cases c3 : 4 + τ 7 1 ≤ a
      · rw [if_pos c3, show q_H τ a = false by rw [← Bool.not_eq_true, q_Hb]; omega]; rfl
      · rw [if_neg c3, show q_H τ a = true by rw [q_Hb]; omega]; rfl
/-- isHand of an int that is no small number -/
theorem v_isHand_no (hI : q_I τ) (hC : q_C b τ σ) {x : Int32} (hx : x < 0 ∨ nI 8 ≤ x) : f_X5_isHand b x σ = some (0, σ) := by
  obtain ⟨h1, h2, -⟩ := hI
  obtain ⟨e1, e2, -⟩ := hC
  unfold f_X5_isHand j_X5_isHand_12
  simp only [e1, e2, q_lit, q_add]
  have t1 : (nI (τ 7 0)).toInt = τ 7 0 := nI_toInt (by omega)
  have t2 : (nI (4 + τ 7 1)).toInt = ((4 + τ 7 1 : Nat) : Int) := nI_toInt (by omega)
  have t3 : (nI 8).toInt = 8 := by decide
  have t4 : (nI 4).toInt = 4 := by decide
  have t0 : (nI 0).toInt = 0 := by decide
  have t5 : (0 : Int32).toInt = 0 := by decide
  simp only [Int32.lt_iff_toInt_lt, Int32.le_iff_toInt_le, t0, t1, t2, t3, t4, t5] at hx ⊢
  by_cases c0 : x.toInt < 0
  · rw [if_pos c0, if_pos (by omega)]
  · rw [if_neg c0, if_neg (by omega), if_neg (by omega), if_pos (by omega)]
theorem v_isRun (hI : q_I τ) (hC : q_C b τ σ) {a : Nat} (ha : a < 32) : f_X5_isRun b (nI a) σ = some (q_b (q_run τ a), σ) := by
  obtain ⟨h1, h2, h3, -⟩ := hI
  obtain ⟨e1, e2, e3, -⟩ := hC
  unfold f_X5_isRun
  rw [e3]
  simp (disch := omega) only [q_bit1]
  cases hq : (τ 7 2).testBit a
  · simp [q_run, hq, q_b]
  · simp [q_run, hq, q_b]
theorem v_sameSide {a c : Nat} (ha : a < 100) (hc : c < 100) : f_X5_sameSide (nI a) (nI c) σ = some (q_b (decide ((a < 4 ∧ c < 4) ∨ (4 ≤ a ∧ 4 ≤ c))), σ) := by
  unfold f_X5_sameSide j_X5_sameSide_10 j_X5_sameSide_20
  simp only [show (4 : Int32) = nI 4 from rfl]
  simp (disch := omega) only [q_le]
  by_cases c1 : 4 ≤ a <;> by_cases c2 : 4 ≤ c
  · simp [c1, c2, q_b, Nat.not_lt.mpr c1, Nat.not_lt.mpr c2]
  · simp [c1, c2, q_b, Nat.not_lt.mpr c1, Nat.not_le.mp c2]
  · simp [c1, c2, q_b, Nat.not_le.mp c1, Nat.not_lt.mpr c2]
  · simp [c1, c2, q_b, Nat.not_le.mp c1, Nat.not_le.mp c2]
/-- with which page a hand's page runs, as the class says it -/
theorem v_runsWith (hI : q_I τ) (hC : q_C b τ σ) {a : Nat} (ha : q_H τ a = true) : f_X5_runsWith b (nI a) σ = some (if q_rw τ a = a then -1 else nI (q_rw τ a), σ) := by
  have h8 := q_H8 hI ha
  have hrun := hI.2.2.2.2.1
  have hj : j_X5_runsWith_34 b (nI a) σ = some (if q_run τ a = true ∧ a % 4 ≠ 3 ∧ q_H τ (a + 1) = true then nI (a + 1) else -1, σ) := by
    unfold j_X5_runsWith_34
    rw [v_isRun hI hC (by omega), q_bd]
    simp only [q_b0, show (1 : Int32) = nI 1 from rfl, q_add]
    cases c1 : q_run τ a
    · simp
    · rw [if_neg (by decide), v_isHand hI hC (by omega), q_bd]
      simp only [q_b0]
      cases c2 : q_H τ (a + 1)
      · simp
      · have h9 := q_H8 hI c2
        rw [if_neg (by decide), v_sameSide (by omega) (by omega), q_bd]
        simp only [q_b0]
        by_cases c3 : a % 4 = 3
        · have e : decide ((a < 4 ∧ a + 1 < 4) ∨ (4 ≤ a ∧ 4 ≤ a + 1)) = false := by rw [decide_eq_false_iff_not]; omega
          rw [e]; simp [c3]
        · have e : decide ((a < 4 ∧ a + 1 < 4) ∨ (4 ≤ a ∧ 4 ≤ a + 1)) = true := by rw [decide_eq_true_eq]; omega
          rw [e]; simp [c3]
  have hfin : ¬ (a % 4 ≠ 0 ∧ q_run τ (a - 1) = true) → j_X5_runsWith_34 b (nI a) σ = some (if q_rw τ a = a then -1 else nI (q_rw τ a), σ) := by
    intro c
    rw [hj]
    by_cases c2 : q_run τ a = true ∧ a % 4 ≠ 3 ∧ q_H τ (a + 1) = true
    · have e : q_rw τ a = a + 1 := by unfold q_rw; rw [if_neg c, if_pos c2]
      rw [if_pos c2, e, if_neg (by omega)]
    · have e : q_rw τ a = a := by unfold q_rw; rw [if_neg c, if_neg c2]
      rw [if_neg c2, e, if_pos rfl]
  unfold f_X5_runsWith
  by_cases c0 : a = 0
  · subst c0
    have e : f_X5_isHand b (nI 0 - 1) σ = some (0, σ) := v_isHand_no hI hC (Or.inl (by decide))
    rw [e, q_bd, if_pos rfl, hfin (by simp)]
  · have e1 : nI a - 1 = nI (a - 1) := q_sub (b := 1) (by omega)
    rw [e1, v_isHand hI hC (by omega), q_bd]
    simp only [q_b0]
    cases c1 : q_H τ (a - 1)
    · rw [if_pos rfl]
      exact hfin (fun h => by have := hrun _ h.2; rw [c1] at this; cases this)
    · rw [if_neg (by decide), v_sameSide (by omega) (by omega), q_bd]
      simp only [q_b0]
      by_cases c3 : a % 4 = 0
      · have e : decide ((a - 1 < 4 ∧ a < 4) ∨ (4 ≤ a - 1 ∧ 4 ≤ a)) = false := by rw [decide_eq_false_iff_not]; omega
        rw [e, if_pos rfl]
        exact hfin (fun h => h.1 c3)
      · have e : decide ((a - 1 < 4 ∧ a < 4) ∨ (4 ≤ a - 1 ∧ 4 ≤ a)) = true := by rw [decide_eq_true_eq]; omega
        rw [e, if_neg (by decide), v_isRun hI hC (by omega), q_bd]
        simp only [q_b0]
        cases c4 : q_run τ (a - 1)
        · rw [if_pos rfl]
          exact hfin (fun h => by rw [c4] at h; cases h.2)
        · have e : q_rw τ a = a - 1 := by unfold q_rw; rw [if_pos ⟨c3, c4⟩]
          rw [if_neg (by decide), e, if_neg (by omega)]
theorem q_rwH (hI : q_I τ) {a : Nat} (ha : q_H τ a = true) : q_H τ (q_rw τ a) = true := by
  unfold q_rw
  by_cases c : a % 4 ≠ 0 ∧ q_run τ (a - 1) = true
  · rw [if_pos c]; exact hI.2.2.2.2.1 _ c.2
  · rw [if_neg c]
    by_cases c2 : q_run τ a = true ∧ a % 4 ≠ 3 ∧ q_H τ (a + 1) = true
    · rw [if_pos c2]; exact c2.2.2
    · rw [if_neg c2]; exact ha
theorem q_row (hC : q_C b τ σ) {t c : Nat} (ht : t < 5) (hc : q_H τ c = true) : σ (b + 1 + t) c = nI (τ t c) := by
  obtain ⟨h0, h1, h2, h3, h4⟩ := hC.2.2.2.2.1 c hc
  match t, ht with
  | 0, _ => exact h0
  | 1, _ => exact h1
  | 2, _ => exact h2
  | 3, _ => exact h3
  | 4, _ => exact h4
  | t + 5, h => exact absurd h (by omega)
/-- what a hand's page shows, as the class says it -/
theorem v_shows (hI : q_I τ) (hC : q_C b τ σ) {a t : Nat} (ha : q_H τ a = true) (ht : t < 3) : f_X5_shows b (nI a) (nI t) σ = some (nI (q_sh τ a t), σ) := by
  have h8 := q_H8 hI ha
  obtain ⟨-, -, -, -, hp⟩ := hI.2.2.2.2.2.1 a ha
  have hp8 := q_H8 hI hp
  have e5 : σ (b + 5) a = nI (τ 4 a) := q_row hC (t := 4) (by omega) ha
  have hj : ∀ u, u < 2 → j_X5_shows_32 b (nI a) (b + 1 + (u + 1)) σ = some (nI (if q_rw τ a = a then τ (u + 1) (τ 4 a) else (τ (u + 1) (τ 4 a) + τ (u + 1) (τ 4 (q_rw τ a))) / 2), σ) := by
    intro u hu
    have hr := q_rwH hI ha
    have hr8 := q_H8 hI hr
    obtain ⟨-, -, -, -, hq⟩ := hI.2.2.2.2.2.1 _ hr
    have hq8 := q_H8 hI hq
    unfold j_X5_shows_32
    rw [v_runsWith hI hC ha, q_bd]
    simp (disch := omega) only [q_in, q_n, e5, h8, hp8, decide_true, if_true]
    have er : σ (b + 5) (q_rw τ a) = nI (τ 4 (q_rw τ a)) := q_row hC (t := 4) (by omega) hr
    have w1 : σ (b + 1 + (u + 1)) (τ 4 a) = nI (τ (u + 1) (τ 4 a)) := q_row hC (by omega) hp
    have w2 : σ (b + 1 + (u + 1)) (τ 4 (q_rw τ a)) = nI (τ (u + 1) (τ 4 (q_rw τ a))) := q_row hC (by omega) hq
    by_cases c : q_rw τ a = a
    · simp only [if_pos c, if_true, w1]
    · simp only [if_neg c]
      simp (disch := omega) only [q_m1, if_false, q_in, q_n, er, hr8, hq8, decide_true, if_true, w1, w2, q_add]
      have b1 := hI.2.2.2.2.2.1 _ hp
      have b2 := hI.2.2.2.2.2.1 _ hq
      have hu2 : τ (u + 1) (τ 4 a) ≤ 9 ∧ τ (u + 1) (τ 4 (q_rw τ a)) ≤ 9 := by
        match u, hu with
        | 0, _ => exact ⟨b1.2.1, b2.2.1⟩
        | 1, _ => exact ⟨b1.2.2.1, b2.2.2.1⟩
        | u + 2, h => exact absurd h (by omega)
      rw [show (2 : Int32) = nI 2 from rfl, q_div (by omega) (by omega) (by omega)]
  unfold f_X5_shows q_sh
  match t, ht with
  | 0, _ =>
    rw [if_neg (by decide), if_pos (by decide), if_neg (by decide)]
    exact hj 0 (by omega)
  | 1, _ =>
    rw [if_neg (by decide), if_neg (by decide), if_neg (by decide)]
    exact hj 1 (by omega)
  | 2, _ =>
    rw [if_pos (by decide), if_pos rfl]
    have w : σ (b + 4) (τ 4 a) = nI (τ 3 (τ 4 a)) := q_row hC (t := 3) (by omega) hp
    simp (disch := omega) only [q_in, q_n, e5, h8, hp8, decide_true, if_true, w]
  | t + 3, h => exact absurd h (by omega)
theorem q_sh9 (hI : q_I τ) {a t : Nat} (ha : q_H τ a = true) (ht : t < 2) : q_sh τ a t ≤ 9 := by
  have h1 := hI.2.2.2.2.2.1 a ha
  have h2 := hI.2.2.2.2.2.1 _ h1.2.2.2.2
  have h3 := hI.2.2.2.2.2.1 _ (q_rwH hI ha)
  have h4 := hI.2.2.2.2.2.1 _ h3.2.2.2.2
  unfold q_sh
  match t, ht with
  | 0, _ => rw [if_neg (by omega)]; simp only [Nat.zero_add]; have := h2.2.1; have := h4.2.1; split <;> omega
  | 1, _ => rw [if_neg (by omega)]; simp only [Nat.reduceAdd]; have := h2.2.2.1; have := h4.2.2.1; split <;> omega
  | t + 2, h => exact absurd h (by omega)
end CT
