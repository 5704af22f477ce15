/-! PURE: pairs as a whole, by a code -/
def q_dg (c a : Nat) : Nat := if a = 0 then c / 125 % 5 else if a = 1 then c / 25 % 5 else if a = 2 then c / 5 % 5 else c % 5
theorem q_dg5 (c a : Nat) : q_dg c a < 5 := by
  unfold q_dg
  split
  · omega
  · split
    · omega
    · split <;> omega
theorem q_dg0 (c : Nat) : q_dg c 0 = c / 125 % 5 := rfl
theorem q_dg1 (c : Nat) : q_dg c 1 = c / 25 % 5 := rfl
theorem q_dg2 (c : Nat) : q_dg c 2 = c / 5 % 5 := rfl
theorem q_dg3 (c : Nat) : q_dg c 3 = c % 5 := rfl
theorem q_dgz (a : Nat) : q_dg 0 a = 0 := by
  unfold q_dg
  split
  · rfl
  · split
    · rfl
    · split <;> rfl
def q_fe (τ : k_TW) (c : Nat) : Bool := (List.range 4).all (fun a => decide (q_dg c a ≠ 0 → q_can τ a (q_dg c a + 3) = true)) && (List.range 4).all (fun a => (List.range 4).all (fun a' => decide (a < a' → q_dg c a = q_dg c a' → q_dg c a = 0)))
theorem q_fe_d {τ : k_TW} {c : Nat} : (q_fe τ c = true) = ((∀ a, a < 4 → q_dg c a ≠ 0 → q_can τ a (q_dg c a + 3) = true) ∧ ∀ a, a < 4 → ∀ a', a' < 4 → a < a' → q_dg c a = q_dg c a' → q_dg c a = 0) := by
  unfold q_fe; simp only [Bool.and_eq_true, List.all_eq_true, List.mem_range, decide_eq_true_eq]
/-- mt has the pairs of a code at the lefts in S, and no other -/
def q_IS (S : Nat → Bool) (c : Nat) (mt : k_Mt) : Prop := ∀ x y, x < 8 → (mt x = some y ↔ (x < 4 ∧ S x = true ∧ q_dg c x ≠ 0 ∧ y = q_dg c x + 3) ∨ (y < 4 ∧ S y = true ∧ q_dg c y ≠ 0 ∧ x = q_dg c y + 3))
theorem q_IS_un {S : Nat → Bool} {c : Nat} {mt mt' : k_Mt} (h : q_IS S c mt) (h' : q_IS S c mt') {x : Nat} (hx : x < 8) : mt x = mt' x := by
  cases e : mt x with
  | some y => exact ((h' x y hx).mpr ((h x y hx).mp e)).symm
  | none =>
    cases e' : mt' x with
    | none => rfl
    | some y => have := (h x y hx).mpr ((h' x y hx).mp e'); rw [e] at this; cases this
theorem q_IS_S {S S' : Nat → Bool} {c c' : Nat} {mt : k_Mt} (h : q_IS S c mt) (hs : ∀ a, a < 4 → (S a = true ∧ q_dg c a ≠ 0 ↔ S' a = true ∧ q_dg c' a ≠ 0)) (hd : ∀ a, a < 4 → S a = true → q_dg c a ≠ 0 → q_dg c a = q_dg c' a) : q_IS S' c' mt := by
  intro x y hx
  rw [h x y hx]
  constructor
  · rintro (⟨h1, h2, h3, h4⟩ | ⟨h1, h2, h3, h4⟩)
    · have g := (hs x h1).mp ⟨h2, h3⟩
      exact Or.inl ⟨h1, g.1, g.2, by rw [← hd x h1 h2 h3]; exact h4⟩
    · have g := (hs y h1).mp ⟨h2, h3⟩
      exact Or.inr ⟨h1, g.1, g.2, by rw [← hd y h1 h2 h3]; exact h4⟩
  · rintro (⟨h1, h2, h3, h4⟩ | ⟨h1, h2, h3, h4⟩)
    · have g := (hs x h1).mpr ⟨h2, h3⟩
      exact Or.inl ⟨h1, g.1, g.2, by rw [hd x h1 g.1 g.2]; exact h4⟩
    · have g := (hs y h1).mpr ⟨h2, h3⟩
      exact Or.inr ⟨h1, g.1, g.2, by rw [hd y h1 g.1 g.2]; exact h4⟩
/-- one more pair -/
def q_jn (mt : k_Mt) (a b : Nat) : k_Mt := fun x => if x = b then some a else if x = a then some b else mt x
def q_cl (mt : k_Mt) (a b : Nat) : k_Mt := fun x => if x = a ∨ x = b then none else mt x
theorem q_IS_jn {S S' : Nat → Bool} {c : Nat} {mt : k_Mt} (h : q_IS S c mt) {a : Nat} (ha : a < 4) (hS : S a = false) (hS' : ∀ x, x < 4 → S' x = (S x || decide (x = a))) (hd : q_dg c a ≠ 0) (hn : mt (q_dg c a + 3) = none) : q_IS S' c (q_jn mt a (q_dg c a + 3)) := by
  have h5 := q_dg5 c a
  intro x y hx
  unfold q_jn
  by_cases x1 : x = q_dg c a + 3
  · rw [if_pos x1]
    constructor
    · intro e; cases e
      exact Or.inr ⟨ha, by rw [hS' a ha]; simp, hd, x1⟩
    · rintro (⟨h1, h2, h3, h4⟩ | ⟨h1, h2, h3, h4⟩)
      · omega
      · by_cases hy : y = a
        · rw [hy]
        · rw [hS' y h1] at h2
          simp [hy] at h2
          have := (h x y hx).mpr (Or.inr ⟨h1, h2, h3, h4⟩)
          rw [x1, hn] at this; cases this
  · rw [if_neg x1]
    by_cases x2 : x = a
    · rw [if_pos x2]
      subst x2
      constructor
      · intro e; cases e
        exact Or.inl ⟨ha, by rw [hS' x ha]; simp, hd, rfl⟩
      · rintro (⟨h1, h2, h3, h4⟩ | ⟨h1, h2, h3, h4⟩)
        · rw [h4]
        · have := q_dg5 c y; omega
    · rw [if_neg x2, h x y hx]
      constructor
      · rintro (⟨h1, h2, h3, h4⟩ | ⟨h1, h2, h3, h4⟩)
        · exact Or.inl ⟨h1, by rw [hS' x h1, h2]; rfl, h3, h4⟩
        · exact Or.inr ⟨h1, by rw [hS' y h1, h2]; rfl, h3, h4⟩
      · rintro (⟨h1, h2, h3, h4⟩ | ⟨h1, h2, h3, h4⟩)
        · rw [hS' x h1] at h2; simp [x2] at h2; exact Or.inl ⟨h1, h2, h3, h4⟩
        · by_cases hy : y = a
          · subst hy; exact absurd h4 x1
          · rw [hS' y h1] at h2; simp [hy] at h2; exact Or.inr ⟨h1, h2, h3, h4⟩
theorem q_IS_cl {S S' : Nat → Bool} {c : Nat} {mt : k_Mt} (h : q_IS S c mt) {a : Nat} (ha : a < 4) (hS : S a = true) (hS' : ∀ x, x < 4 → S' x = (S x && decide (x ≠ a))) (hd : q_dg c a ≠ 0) : q_IS S' c (q_cl mt a (q_dg c a + 3)) := by
  have h5 := q_dg5 c a
  have hb : mt (q_dg c a + 3) = some a := (h _ _ (by omega)).mpr (Or.inr ⟨ha, hS, hd, rfl⟩)
  intro x y hx
  unfold q_cl
  by_cases x1 : x = a
  · rw [if_pos (Or.inl x1)]
    subst x1
    constructor
    · intro e; cases e
    · rintro (⟨h1, h2, h3, h4⟩ | ⟨h1, h2, h3, h4⟩)
      · rw [hS' x ha] at h2; simp at h2
      · have := q_dg5 c y; omega
  · by_cases x2 : x = q_dg c a + 3
    · rw [if_pos (Or.inr x2)]
      constructor
      · intro e; cases e
      · rintro (⟨h1, h2, h3, h4⟩ | ⟨h1, h2, h3, h4⟩)
        · omega
        · rw [hS' y h1] at h2
          simp at h2
          have := (h x y hx).mpr (Or.inr ⟨h1, h2.1, h3, h4⟩)
          rw [x2, hb] at this
          exact absurd (Option.some.inj this).symm h2.2
    · rw [if_neg (fun g => g.elim x1 x2), h x y hx]
      constructor
      · rintro (⟨h1, h2, h3, h4⟩ | ⟨h1, h2, h3, h4⟩)
        · exact Or.inl ⟨h1, by rw [hS' x h1, h2]; simp [x1], h3, h4⟩
        · have hy : y ≠ a := fun e => by subst e; exact x2 h4
          exact Or.inr ⟨h1, by rw [hS' y h1, h2]; simp [hy], h3, h4⟩
      · rintro (⟨h1, h2, h3, h4⟩ | ⟨h1, h2, h3, h4⟩)
        · rw [hS' x h1] at h2; simp at h2; exact Or.inl ⟨h1, h2.1, h3, h4⟩
        · rw [hS' y h1] at h2; simp at h2; exact Or.inr ⟨h1, h2.1, h3, h4⟩
/-- the pairs of a code -/
def q_cm (c : Nat) : k_Mt := fun x => if x < 4 then (if q_dg c x = 0 then none else some (q_dg c x + 3)) else q_fi (fun a => decide (q_dg c a + 3 = x)) 0 4
theorem q_fi_no {p : Nat → Bool} {i : Nat} : ∀ {n k : Nat}, q_fi p k n = none → k ≤ i → i < k + n → p i = false
  | 0, k, _, h1, h2 => by omega
  | n + 1, k, h, h1, h2 => by
    cases hp : p k
    · rw [q_fi_0 hp] at h
      by_cases e : i = k
      · rw [e]; exact hp
      · exact q_fi_no h (by omega) (by omega)
    · rw [q_fi_1 hp] at h; cases h
theorem q_cm_IS {τ : k_TW} {c : Nat} (h : q_fe τ c = true) : q_IS (fun _ => true) c (q_cm c) := by
  rw [q_fe_d] at h
  intro x y hx
  unfold q_cm
  by_cases x4 : x < 4
  · rw [if_pos x4]
    by_cases hd : q_dg c x = 0
    · rw [if_pos hd]
      constructor
      · intro e; cases e
      · rintro (⟨h1, h2, h3, h4⟩ | ⟨h1, h2, h3, h4⟩)
        · exact absurd hd h3
        · omega
    · rw [if_neg hd]
      constructor
      · intro e; cases e; exact Or.inl ⟨x4, rfl, hd, rfl⟩
      · rintro (⟨h1, h2, h3, h4⟩ | ⟨h1, h2, h3, h4⟩)
        · rw [h4]
        · omega
  · rw [if_neg x4]
    constructor
    · intro e
      obtain ⟨h1, h2, h3⟩ := q_fi_in e
      simp only [decide_eq_true_eq] at h3
      exact Or.inr ⟨by omega, rfl, by omega, h3.symm⟩
    · rintro (⟨h1, h2, h3, h4⟩ | ⟨h1, h2, h3, h4⟩)
      · omega
      · cases e : q_fi (fun a => decide (q_dg c a + 3 = x)) 0 4 with
        | none =>
          have := q_fi_no e (i := y) (by omega) (by omega)
          simp at this; omega
        | some z =>
          obtain ⟨g1, g2, g3⟩ := q_fi_in e
          simp only [decide_eq_true_eq] at g3
          by_cases hzy : z = y
          · rw [hzy]
          · exfalso
            by_cases hlt : z < y
            · have := h.2 z (by omega) y h1 hlt (by omega); omega
            · have := h.2 y h1 z (by omega) (by omega) (by omega); omega
theorem q_cm_Mt {τ : k_TW} (hI : q_I τ) {c : Nat} (h : q_fe τ c = true) : q_Mt (q_can τ) (fun x => if x < 8 then q_cm c x else none) := by
  have hIS := q_cm_IS h
  rw [q_fe_d] at h
  intro x y e
  have x8 : x < 8 := by
    by_cases h8 : x < 8
    · exact h8
    · simp [h8] at e
  simp only [if_pos x8] at e
  have e' := (hIS x y x8).mp e
  rcases e' with ⟨h1, h2, h3, h4⟩ | ⟨h1, h2, h3, h4⟩
  · have := q_dg5 c x
    refine ⟨x8, by omega, by rw [h4]; exact h.1 x h1 h3, ?_⟩
    simp only [if_pos (show y < 8 by omega)]
    exact (hIS y x (by omega)).mpr (Or.inr ⟨h1, h2, h3, h4⟩)
  · have := q_dg5 c y
    refine ⟨x8, by omega, ?_, ?_⟩
    · rw [h4]; exact q_can_sy hI (h.1 y h1 h3)
    · simp only [if_pos (show y < 8 by omega)]
      exact (hIS y x (by omega)).mpr (Or.inl ⟨h1, h2, h3, h4⟩)
/-- the code whose lefts before a are c's, a's is d, and those behind are with nobody -/
def q_nx (c a d : Nat) : Nat := if a = 0 then 125 * d else if a = 1 then c / 125 * 125 + 25 * d else if a = 2 then c / 25 * 25 + 5 * d else c / 5 * 5 + d
theorem q_4 {a : Nat} (h : a < 4) : a = 0 ∨ a = 1 ∨ a = 2 ∨ a = 3 := by omega
theorem q_nx_dg {c a d i : Nat} (hc : c < 625) (ha : a < 4) (hd : d < 5) (hi : i < 4) : q_dg (q_nx c a d) i = if i < a then q_dg c i else if i = a then d else 0 := by
  rcases q_4 ha with rfl | rfl | rfl | rfl <;> rcases q_4 hi with rfl | rfl | rfl | rfl <;> simp [q_dg, q_nx] <;> omega
theorem q_nx_lt {c a d : Nat} (hc : c < 625) (ha : a < 4) (hd : d < 5) (h : q_dg c a < d) : c < q_nx c a d ∧ q_nx c a d < 625 := by
  rcases q_4 ha with rfl | rfl | rfl | rfl <;> simp only [q_dg0, q_dg1, q_dg2, q_dg3] at h <;> simp [q_nx] <;> omega
theorem q_nx_bt {c a d e : Nat} (hc : c < 625) (he : e < 625) (ha : a < 4) (hd : d < 5) (h1 : c < e) (h2 : e < q_nx c a d) (h : q_dg c a < d) : (∀ i, i < a → q_dg e i = q_dg c i) ∧ q_dg c a ≤ q_dg e a ∧ q_dg e a < d := by
  rcases q_4 ha with rfl | rfl | rfl | rfl <;> simp only [q_dg0, q_dg1, q_dg2, q_dg3] at h ⊢ <;> simp [q_nx] at h2
  · exact ⟨fun i hi => absurd hi (by omega), by omega, by omega⟩
  · refine ⟨fun i hi => ?_, by omega, by omega⟩
    have : i = 0 := by omega
    subst this; simp only [q_dg0]; omega
  · refine ⟨fun i hi => ?_, by omega, by omega⟩
    have : i = 0 ∨ i = 1 := by omega
    rcases this with rfl | rfl <;> simp only [q_dg0, q_dg1] <;> omega
  · refine ⟨fun i hi => ?_, by omega, by omega⟩
    have : i = 0 ∨ i = 1 ∨ i = 2 := by omega
    rcases this with rfl | rfl | rfl <;> simp only [q_dg0, q_dg1, q_dg2] <;> omega
theorem q_pf_ge {c e a : Nat} (hc : c < 625) (he : e < 625) (ha : a < 4) (h1 : c < e) (h : ∀ i, i < a → q_dg e i = q_dg c i) : q_dg c a ≤ q_dg e a := by
  have h0 := h 0
  have h1' := h 1
  have h2 := h 2
  rcases q_4 ha with rfl | rfl | rfl | rfl <;> simp only [q_dg0, q_dg1, q_dg2, q_dg3] at h0 h1' h2 ⊢
  · omega
  · have := h0 (by omega); omega
  · have := h0 (by omega); have := h1' (by omega); omega
  · have := h0 (by omega); have := h1' (by omega); have := h2 (by omega); omega
theorem q_dg_eq {c e : Nat} (hc : c < 625) (he : e < 625) (h : ∀ i, i < 4 → q_dg e i = q_dg c i) : e = c := by
  have h0 := h 0 (by omega)
  have h1 := h 1 (by omega)
  have h2 := h 2 (by omega)
  have h3 := h 3 (by omega)
  simp only [q_dg0, q_dg1, q_dg2, q_dg3] at h0 h1 h2 h3
  omega
