/-! PURE: ASKING, as such -/
abbrev k_Mt : Type := Nat → Option Nat
abbrev k_Tr : Type := Nat → Nat → Bool
def q_w (lk : Nat → Nat → Nat) (a c : Nat) : Nat := lk a c * 8 + 7 - c
def q_bt (lk : Nat → Nat → Nat) (a : Nat) (o : Option Nat) (n : Nat) : Bool := match o with
  | none => true
  | some d => decide (q_w lk a d < q_w lk a n)
/-- whom a would rather have, of those below n whom it can have and has not asked -/
def q_bs (cn : Nat → Nat → Bool) (lk : Nat → Nat → Nat) (tr : k_Tr) (a : Nat) : Nat → Option Nat
  | 0 => none
  | n + 1 => if (cn a n && !tr a n && q_bt lk a (q_bs cn lk tr a n) n) = true then some n else q_bs cn lk tr a n
/-- the first of n from a on who is with nobody and can ask, and whom it asks -/
def q_fa (cn : Nat → Nat → Bool) (lk : Nat → Nat → Nat) (mt : k_Mt) (tr : k_Tr) : Nat → Nat → Option (Nat × Nat)
  | _, 0 => none
  | a, n + 1 => match mt a with
    | some _ => q_fa cn lk mt tr (a + 1) n
    | none => match q_bs cn lk tr a 8 with
      | some b => some (a, b)
      | none => q_fa cn lk mt tr (a + 1) n
def q_an (lk : Nat → Nat → Nat) (mt : k_Mt) (a b : Nat) : k_Mt := if q_bt lk b (mt b) a = true then (fun x => if x = a then some b else if x = b then some a else if mt b = some x then none else mt x) else mt
def q_mk (tr : k_Tr) (a b : Nat) : k_Tr := fun x y => if x = a ∧ y = b then true else tr x y
def q_ak (cn : Nat → Nat → Bool) (lk : Nat → Nat → Nat) (s : Nat) : Nat → k_Mt → k_Tr → k_Mt
  | 0, mt, _ => mt
  | n + 1, mt, tr => match q_fa cn lk mt tr (4 * s) 4 with
    | none => mt
    | some p => q_ak cn lk s n (q_an lk mt p.1 p.2) (q_mk tr p.1 p.2)
/-- the pairs by ASKING -/
def q_pa (cn : Nat → Nat → Bool) (lk : Nat → Nat → Nat) (s : Nat) : k_Mt := q_ak cn lk s 65 (fun _ => none) (fun _ _ => false)
def q_mu (tr : k_Tr) : Nat := ((List.range 64).filter (fun i => !tr (i / 8) (i % 8))).length
theorem q_flt {l : List Nat} {p p' : Nat → Bool} (h : ∀ i, p' i = true → p i = true) {i0 : Nat} (hi : i0 ∈ l) (h1 : p i0 = true) (h2 : p' i0 = false) : (l.filter p').length < (l.filter p).length := by
  have hle : ∀ l : List Nat, (l.filter p').length ≤ (l.filter p).length := by
    intro l
    induction l with
    | nil => exact Nat.le_refl _
    | cons x r ih =>
      by_cases hx : p' x = true
      · rw [List.filter_cons_of_pos hx, List.filter_cons_of_pos (h x hx)]; simp only [List.length_cons]; omega
      · rw [List.filter_cons_of_neg hx]
        by_cases hy : p x = true
        · rw [List.filter_cons_of_pos hy]; simp only [List.length_cons]; omega
        · rw [List.filter_cons_of_neg hy]; exact ih
  induction l with
  | nil => cases hi
  | cons x r ih =>
    by_cases e : i0 = x
    · subst e
      rw [List.filter_cons_of_neg (by rw [h2]; decide), List.filter_cons_of_pos h1]
      have := hle r
      simp only [List.length_cons]; omega
    · have hr : i0 ∈ r := by
        rcases List.mem_cons.mp hi with h3 | h3
        · exact absurd h3 e
        · exact h3
      have := ih hr
      by_cases hx : p' x = true
      · rw [List.filter_cons_of_pos hx, List.filter_cons_of_pos (h x hx)]; simp only [List.length_cons]; omega
      · rw [List.filter_cons_of_neg hx]
        by_cases hy : p x = true
        · rw [List.filter_cons_of_pos hy]; simp only [List.length_cons]; omega
        · rw [List.filter_cons_of_neg hy]; exact this
theorem q_mu_lt {tr : k_Tr} {a b : Nat} (ha : a < 8) (hb : b < 8) (h : tr a b = false) : q_mu (q_mk tr a b) < q_mu tr := by
  unfold q_mu
  refine q_flt (i0 := a * 8 + b) (fun i hi => ?_) (List.mem_range.mpr (by omega)) ?_ ?_
  · unfold q_mk at hi
    by_cases c : i / 8 = a ∧ i % 8 = b
    · rw [if_pos c] at hi; cases hi
    · rw [if_neg c] at hi; exact hi
  · rw [show (a * 8 + b) / 8 = a by omega, show (a * 8 + b) % 8 = b by omega, h]; rfl
  · unfold q_mk
    rw [if_pos (by omega)]; rfl
theorem q_mu64 (tr : k_Tr) : q_mu tr ≤ 64 := by
  unfold q_mu
  exact Nat.le_trans (List.length_filter_le _ _) (by simp)
section AA
variable {cn : Nat → Nat → Bool} {lk : Nat → Nat → Nat} {mt : k_Mt} {tr : k_Tr}
theorem q_bs_in {a d : Nat} : ∀ {n : Nat}, q_bs cn lk tr a n = some d → d < n ∧ cn a d = true ∧ tr a d = false
  | 0, h => by cases h
  | n + 1, h => by
    rw [q_bs] at h
    by_cases c : (cn a n && !tr a n && q_bt lk a (q_bs cn lk tr a n) n) = true
    · rw [if_pos c] at h
      cases h
      simp only [Bool.and_eq_true, Bool.not_eq_true'] at c
      exact ⟨by omega, c.1.1, c.1.2⟩
    · rw [if_neg c] at h
      obtain ⟨h1, h2⟩ := q_bs_in h
      exact ⟨by omega, h2⟩
/-- those whom it can not have make no difference -/
theorem q_bs_skip {a n : Nat} : ∀ m, (∀ c, n ≤ c → c < n + m → cn a c = false) → q_bs cn lk tr a (n + m) = q_bs cn lk tr a n
  | 0, _ => rfl
  | m + 1, h => by
    rw [← Nat.add_assoc, q_bs, h (n + m) (by omega) (by omega)]
    simp only [Bool.false_and, Bool.false_eq_true, if_false]
    exact q_bs_skip m (fun c h1 h2 => h c h1 (by omega))
theorem q_fa_in {a b : Nat} : ∀ {n a0 : Nat}, q_fa cn lk mt tr a0 n = some (a, b) → a0 ≤ a ∧ a < a0 + n ∧ mt a = none ∧ q_bs cn lk tr a 8 = some b
  | 0, a0, h => by cases h
  | n + 1, a0, h => by
    rw [q_fa] at h
    cases h1 : mt a0 with
    | some x =>
      rw [h1] at h
      obtain ⟨g1, g2, g3⟩ := q_fa_in h
      exact ⟨by omega, by omega, g3⟩
    | none =>
      rw [h1] at h
      cases h2 : q_bs cn lk tr a0 8 with
      | some x =>
        rw [h2] at h
        cases h
        exact ⟨Nat.le_refl _, by omega, h1, h2⟩
      | none =>
        rw [h2] at h
        obtain ⟨g1, g2, g3⟩ := q_fa_in h
        exact ⟨by omega, by omega, g3⟩
theorem q_fa_some {a n x : Nat} (h : mt a = some x) : q_fa cn lk mt tr a (n + 1) = q_fa cn lk mt tr (a + 1) n := by rw [q_fa, h]
theorem q_fa_none {a n : Nat} (h : mt a = none) (h2 : q_bs cn lk tr a 8 = none) : q_fa cn lk mt tr a (n + 1) = q_fa cn lk mt tr (a + 1) n := by rw [q_fa, h, h2]
theorem q_fa_found {a n b : Nat} (h : mt a = none) (h2 : q_bs cn lk tr a 8 = some b) : q_fa cn lk mt tr a (n + 1) = some (a, b) := by rw [q_fa, h, h2]
end AA
/-- what holds of the pairs on the way: both know it, and can -/
def q_Mt (cn : Nat → Nat → Bool) (mt : k_Mt) : Prop := ∀ x y, mt x = some y → x < 8 ∧ y < 8 ∧ cn x y = true ∧ mt y = some x
theorem q_Mt_an {cn : Nat → Nat → Bool} {lk : Nat → Nat → Nat} {mt : k_Mt} (h : q_Mt cn mt) {a b : Nat} (ha : a < 8) (hb : b < 8) (hne : a ≠ b) (h1 : cn a b = true) (h2 : cn b a = true) (hm : mt a = none) : q_Mt cn (q_an lk mt a b) := by
  unfold q_an
  by_cases c : q_bt lk b (mt b) a = true
  · rw [if_pos c]
    intro x y e
    dsimp only at e ⊢
    by_cases x1 : x = a
    · subst x1
      rw [if_pos rfl] at e
      cases e
      exact ⟨ha, hb, h1, by rw [if_neg (Ne.symm hne), if_pos rfl]⟩
    · rw [if_neg x1] at e
      by_cases x2 : x = b
      · subst x2
        rw [if_pos rfl] at e
        cases e
        exact ⟨hb, ha, h2, by rw [if_pos rfl]⟩
      · rw [if_neg x2] at e
        by_cases x3 : mt b = some x
        · rw [if_pos x3] at e; cases e
        · rw [if_neg x3] at e
          obtain ⟨g1, g2, g3, g4⟩ := h x y e
          have y1 : y ≠ a := fun q => by rw [q, hm] at g4; cases g4
          have y2 : y ≠ b := fun q => x3 (by rw [← q]; exact g4)
          refine ⟨g1, g2, g3, ?_⟩
          rw [if_neg y1, if_neg y2, if_neg (fun q => ?_)]
          · exact g4
          · obtain ⟨-, -, -, q2⟩ := h b y q
            rw [g4] at q2
            exact x2 (Option.some.inj q2)
  · rw [if_neg c]; exact h
