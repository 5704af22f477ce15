/-! PURE: who is wed -/
def q_so (τ : k_TW) (a : Nat) : Option Nat := if τ 5 a = 0 then none else some (τ 5 a - 1)
theorem q_so_s {τ : k_TW} {a c : Nat} : (q_so τ a = some c) = (τ 5 a = c + 1) := by
  unfold q_so
  apply propext
  by_cases h : τ 5 a = 0
  · simp [h]
  · rw [if_neg h]; constructor
    · intro e; have := Option.some.inj e; omega
    · intro e; rw [e]; rfl
theorem q_so_n {τ : k_TW} {a : Nat} : (q_so τ a = none) = (τ 5 a = 0) := by
  unfold q_so
  by_cases h : τ 5 a = 0 <;> simp [h]
theorem q_so_in {τ : k_TW} (hI : q_I τ) {a c : Nat} (ha : a < 8) (h : q_so τ a = some c) : q_H τ a = true ∧ q_H τ c = true ∧ a / 4 ≠ c / 4 ∧ q_so τ c = some a ∧ c < 8 := by
  rw [q_so_s] at h
  obtain ⟨h1, h2⟩ := hI.2.2.2.2.2.2.1 a ha
  obtain ⟨g1, g2, g3, g4⟩ := h2 (by omega)
  rw [h, Nat.add_sub_cancel] at g2 g3 g4
  exact ⟨g1, g2, g3, by rw [q_so_s]; exact g4, q_H8 hI g2⟩
theorem q_C_so {b : Nat} {τ : k_TW} {σ : k_Mem} (hC : q_C b τ σ) {a : Nat} (ha : a < 8) : σ (b + 6) a = q_e1 (q_so τ a) := by
  rw [(hC.2.2.2.2.2 a ha).1]
  unfold q_so
  by_cases h : τ 5 a = 0
  · rw [h]; rfl
  · rw [if_neg h, show (1 : Int32) = nI 1 from rfl, q_sub (by omega)]; rfl
theorem q_e1_n {o : Option Nat} (h : ∀ c, o = some c → c < 2 ^ 31) : (q_e1 o = -1) = (o = none) := by
  cases o with
  | none => simp [q_e1]
  | some c => have := h c rfl; simp only [q_e1]; rw [q_m1 this]; simp
theorem q_e4_n {o : Option Nat} (h : ∀ c, o = some c → c < 2 ^ 31) : (q_e4 o = -4) = (o = none) := by
  cases o with
  | none => simp [q_e4]
  | some c => have := h c rfl; simp only [q_e4]; rw [q_m4 this]; simp
theorem v_orNone {o : Option Nat} (h : ∀ c, o = some c → c < 2 ^ 31) (σ : k_Mem) : f_X6_orNone (q_e1 o) σ = some (q_e4 o, σ) := by
  unfold f_X6_orNone
  simp only [q_e1_n h]
  cases o with
  | none => rfl
  | some c => rfl
section WD
variable {τ : k_TW} {σ : k_Mem}
theorem q_so8 (hI : q_I τ) {a : Nat} (ha : a < 8) : ∀ c, q_so τ a = some c → c < 2 ^ 31 := fun c h => by
  have := (q_so_in hI ha h).2.2.2.2; omega
theorem v_isWed {b : Nat} (hI : q_I τ) (hC : q_C b τ σ) {a : Nat} (ha : a < 8) : f_X5_isWed b (nI a) σ = some (q_b (q_so τ a).isSome, σ) := by
  unfold f_X5_isWed
  simp (disch := omega) only [q_inT, eq_self, if_true, q_n]
  rw [q_C_so hC ha]
  simp only [q_e1_n (q_so8 hI ha)]
  cases q_so τ a <;> rfl
def q_wb (τ : k_TW) : Nat := q_bb (fun a => (q_so τ a).isSome) 8
theorem v_wedBits_l {b : Nat} (hI : q_I τ) (hC : q_C b τ σ) : ∀ (m k f : Nat), k + m = 8 → m < f → l_X5_wedBits_4 b f (nI (q_bb (fun a => (q_so τ a).isSome) k)) (nI k) σ = some (nI (q_wb τ), σ) := by
  intro m
  induction m with
  | zero =>
    intro k f h1 h2
    obtain ⟨f, rfl⟩ : ∃ g, f = g + 1 := ⟨f - 1, by omega⟩
    rw [l_X5_wedBits_4, show (8 : Int32) = nI 8 from rfl, if_pos (nI_le (by omega) (by omega)), show k = 8 by omega]; rfl
  | succ m ih =>
    intro k f h1 h2
    obtain ⟨f, rfl⟩ : ∃ g, f = g + 1 := ⟨f - 1, by omega⟩
    have hih := ih (k + 1) f (by omega) (by omega)
    rw [l_X5_wedBits_4, show (8 : Int32) = nI 8 from rfl, if_neg (nI_ge (by omega) (by omega)), v_isWed hI hC (by omega), q_bd]
    simp only [q_b0, j_X5_wedBits_24, show nI k + 1 = nI (k + 1) from nI_1 k]
    cases h : (q_so τ k).isSome
    · rw [if_pos rfl, ← hih, q_bb_0 h]
    · rw [if_neg (by decide), ← hih, q_bb_or1 (p := fun a => (q_so τ a).isSome) (by omega) h]
theorem v_wedBits {b : Nat} (hI : q_I τ) (hC : q_C b τ σ) : f_X5_wedBits b σ = some (nI (q_wb τ), σ) := v_wedBits_l hI hC 8 0 1000 (by omega) (by omega)
theorem w_wedTo (hI : q_I τ) (hM : q_M 0 τ σ) {a : Nat} (ha : a < 8) : f_X7_wedTo (nI a) σ = some (q_e4 (q_so τ a), σ) := by
  have e45 : ∀ l, l < 4 → σ 68 (45 + l) = nI (τ 5 l - 1) := fun l hl => by
    have := (hM.2.1 l hl).2; rwa [show 0 + 45 + l = 45 + l by omega] at this
  have b5 : ∀ l, l < 8 → τ 5 l ≤ 8 := fun l hl => (hI.2.2.2.2.2.2.1 l hl).1
  have key : 4 ≤ a → ∀ (m l f : Nat), l + m = 4 → m < f → (∀ i, i < l → q_so τ a ≠ some i) → l_X7_wedTo_34 f (nI a) (nI l) σ = some (q_e4 (q_so τ a), σ) := by
    intro h4 m
    induction m with
    | zero =>
      intro l f h1 h2 h3
      obtain ⟨f, rfl⟩ : ∃ g, f = g + 1 := ⟨f - 1, by omega⟩
      rw [l_X7_wedTo_34, show (4 : Int32) = nI 4 from rfl, if_pos (nI_le (by omega) (by omega))]
      cases h : q_so τ a with
      | none => rfl
      | some c =>
        have := q_so_in hI ha h
        exact absurd h (h3 c (by omega))
    | succ m ih =>
      intro l f h1 h2 h3
      obtain ⟨f, rfl⟩ : ∃ g, f = g + 1 := ⟨f - 1, by omega⟩
      rw [l_X7_wedTo_34, show (4 : Int32) = nI 4 from rfl, if_neg (nI_ge (by omega) (by omega)), show (45 : Int32) = nI 45 from rfl, q_add]
      have := b5 l (by omega)
      simp (disch := omega) only [q_inT, eq_self, if_true, q_n, e45 l (by omega), q_eq]
      by_cases h : τ 5 l - 1 = a
      · have h5 : q_so τ l = some a := by rw [q_so_s]; omega
        rw [if_pos h, (q_so_in hI (by omega) h5).2.2.2.1]; rfl
      · rw [if_neg h, show nI l + 1 = nI (l + 1) from nI_1 l]
        refine ih (l + 1) f (by omega) (by omega) (fun i hi e => ?_)
        by_cases hil : i = l
        · subst hil
          have := (q_so_in hI ha e).2.2.2.1
          rw [q_so_s] at this
          omega
        · exact h3 i (by omega) e
  unfold f_X7_wedTo
  simp only [show (4 : Int32) = nI 4 from rfl]
  simp (disch := omega) only [q_le]
  by_cases h4 : 4 ≤ a
  · rw [if_pos h4]
    exact key h4 4 0 1000 (by omega) (by omega) (fun i hi => absurd hi (by omega))
  · have := b5 a ha
    rw [if_neg h4, show (45 : Int32) = nI 45 from rfl, q_add, show (0 : Int32) = nI 0 from rfl]
    simp (disch := omega) only [q_inT, eq_self, if_true, q_n, e45 a (by omega), q_eq]
    cases h : q_so τ a with
    | none =>
      rw [q_so_n] at h
      rw [if_pos (by omega)]; rfl
    | some c =>
      have h2 := q_so_in hI ha h
      rw [q_so_s] at h
      rw [if_neg (by omega), h, Nat.add_sub_cancel]; rfl
theorem w_wedOnes_l (hI : q_I τ) (hM : q_M 0 τ σ) : ∀ (m k f : Nat), k + m = 8 → m < f → l_X7_wedOnes_4 f (nI (q_bb (fun a => (q_so τ a).isSome) k)) (nI k) σ = some (nI (q_wb τ), σ) := by
  intro m
  induction m with
  | zero =>
    intro k f h1 h2
    obtain ⟨f, rfl⟩ : ∃ g, f = g + 1 := ⟨f - 1, by omega⟩
    rw [l_X7_wedOnes_4, show (8 : Int32) = nI 8 from rfl, if_pos (nI_le (by omega) (by omega)), show k = 8 by omega]; rfl
  | succ m ih =>
    intro k f h1 h2
    obtain ⟨f, rfl⟩ : ∃ g, f = g + 1 := ⟨f - 1, by omega⟩
    have hih := ih (k + 1) f (by omega) (by omega)
    rw [l_X7_wedOnes_4, show (8 : Int32) = nI 8 from rfl, if_neg (nI_ge (by omega) (by omega)), w_wedTo hI hM (by omega), q_bd]
    simp only [q_e4_n (q_so8 hI (a := k) (by omega)), j_X7_wedOnes_28, show nI k + 1 = nI (k + 1) from nI_1 k, q_or0]
    cases h : q_so τ k with
    | none => rw [if_pos rfl, ← hih, q_bb_0 (by simp [h])]
    | some c => rw [if_neg (by simp), ← hih, q_bb_or1 (p := fun a => (q_so τ a).isSome) (by omega) (by simp [h])]
theorem w_wedOnes (hI : q_I τ) (hM : q_M 0 τ σ) : f_X7_wedOnes σ = some (nI (q_wb τ), σ) := w_wedOnes_l hI hM 8 0 1000 (by omega) (by omega)
theorem q_wb8 : q_wb τ < 256 := q_bb_l8 _ (by omega)
theorem q_and15 : ∀ u, u < 256 → nI u &&& 15 = nI (u % 16) := by decide +kernel
theorem q_pc15 : ∀ u, u < 256 → q_pc (u % 16) 8 = q_pc u 4 := by decide +kernel
/-- of the wed just as many are on either side -/
theorem q_half (hI : q_I τ) : q_pc (q_wb τ) 8 = 2 * q_pc (q_wb τ) 4 := by
  have hb : ∀ c, c < 8 → (q_wb τ).testBit c = (q_so τ c).isSome := fun c hc => by rw [q_wb, q_bb_tb]; simp [hc]
  have e : ∀ c, c < 8 → q_wb τ / 2 ^ c % 2 = if τ 5 c = 0 then 0 else 1 := fun c hc => by
    rw [q_pc_t, hb c hc]
    by_cases h : τ 5 c = 0
    · rw [if_pos h, (show q_so τ c = none by rw [q_so_n]; exact h)]; rfl
    · rw [if_neg h, (show q_so τ c = some (τ 5 c - 1) by rw [q_so_s]; omega)]; rfl
  have sy : ∀ a, a < 4 → ∀ c, c < 4 → ((if τ 5 a = 4 + c + 1 then 1 else 0 : Nat) = if τ 5 (4 + c) = a + 1 then 1 else 0) := fun a ha c hc => by
    have h1 : τ 5 a = 4 + c + 1 → τ 5 (4 + c) = a + 1 := fun h => by
      rw [← q_so_s] at h ⊢; exact (q_so_in hI (by omega) h).2.2.2.1
    have h2 : τ 5 (4 + c) = a + 1 → τ 5 a = 4 + c + 1 := fun h => by
      rw [← q_so_s] at h ⊢; exact (q_so_in hI (by omega) h).2.2.2.1
    by_cases h : τ 5 a = 4 + c + 1
    · rw [if_pos h, if_pos (h1 h)]
    · rw [if_neg h, if_neg (fun g => h (h2 g))]
  have l1 : ∀ a, a < 4 → ((if τ 5 a = 0 then 0 else 1 : Nat) = (if τ 5 a = 4 + 0 + 1 then 1 else 0) + (if τ 5 a = 4 + 1 + 1 then 1 else 0) + (if τ 5 a = 4 + 2 + 1 then 1 else 0) + (if τ 5 a = 4 + 3 + 1 then 1 else 0)) := fun a ha => by
    have h := hI.2.2.2.2.2.2.1 a (by omega)
    by_cases h0 : τ 5 a = 0
    · simp [h0]
    · have g := h.2 h0
      have : τ 5 a = 5 ∨ τ 5 a = 6 ∨ τ 5 a = 7 ∨ τ 5 a = 8 := by omega
      rcases this with h | h | h | h <;> simp [h]
  have l2 : ∀ c, c < 4 → ((if τ 5 (4 + c) = 0 then 0 else 1 : Nat) = (if τ 5 (4 + c) = 0 + 1 then 1 else 0) + (if τ 5 (4 + c) = 1 + 1 then 1 else 0) + (if τ 5 (4 + c) = 2 + 1 then 1 else 0) + (if τ 5 (4 + c) = 3 + 1 then 1 else 0)) := fun c hc => by
    have h := hI.2.2.2.2.2.2.1 (4 + c) (by omega)
    by_cases h0 : τ 5 (4 + c) = 0
    · simp [h0]
    · have g := h.2 h0
      have : τ 5 (4 + c) = 1 ∨ τ 5 (4 + c) = 2 ∨ τ 5 (4 + c) = 3 ∨ τ 5 (4 + c) = 4 := by omega
      rcases this with h | h | h | h <;> simp [h]
  have a0 := l1 0 (by omega)
  have a1 := l1 1 (by omega)
  have a2 := l1 2 (by omega)
  have a3 := l1 3 (by omega)
  have b0 := l2 0 (by omega)
  have b1 := l2 1 (by omega)
  have b2 := l2 2 (by omega)
  have b3 := l2 3 (by omega)
  simp only [sy 0 (by omega) 0 (by omega), sy 0 (by omega) 1 (by omega), sy 0 (by omega) 2 (by omega), sy 0 (by omega) 3 (by omega)] at a0
  simp only [sy 1 (by omega) 0 (by omega), sy 1 (by omega) 1 (by omega), sy 1 (by omega) 2 (by omega), sy 1 (by omega) 3 (by omega)] at a1
  simp only [sy 2 (by omega) 0 (by omega), sy 2 (by omega) 1 (by omega), sy 2 (by omega) 2 (by omega), sy 2 (by omega) 3 (by omega)] at a2
  simp only [sy 3 (by omega) 0 (by omega), sy 3 (by omega) 1 (by omega), sy 3 (by omega) 2 (by omega), sy 3 (by omega) 3 (by omega)] at a3
  simp only [q_pc, q_sm, e 0 (by omega), e 1 (by omega), e 2 (by omega), e 3 (by omega), e 4 (by omega), e 5 (by omega), e 6 (by omega), e 7 (by omega)]
  simp only [Nat.reduceAdd] at a0 a1 a2 a3 b0 b1 b2 b3
  rw [a0, a1, a2, a3, b0, b1, b2, b3]
  omega
theorem v_couples {b : Nat} (hI : q_I τ) (hC : q_C b τ σ) : f_X5_couples b σ = some (nI (q_pc (q_wb τ) 4), σ) := by
  unfold f_X5_couples
  rw [v_wedBits hI hC, q_bd, q_and15 _ q_wb8, v_bitCount (by omega), q_bd, q_pc15 _ q_wb8]
theorem w_couples (hI : q_I τ) (hM : q_M 0 τ σ) : k_bd (f_X7_wedOnes σ) (fun r10 σ10 => k_bd (f_X7_bitsOf r10 σ10) (fun r11 σ11 => some ((r11 / 2), σ11))) = some (nI (q_pc (q_wb τ) 4), σ) := by
  have := q_pc8 (u := q_wb τ) (n := 4)
  rw [w_wedOnes hI hM, q_bd, w_bitsOf q_wb8, q_bd, q_half hI, show (2 : Int32) = nI 2 from rfl, q_div (by omega) (by omega) (by omega)]
  congr 3
  omega
def q_fo (τ : k_TW) : Nat → Nat := q_sm (fun a => q_pc (τ 6 a) 8)
theorem v_foldings {b : Nat} (hI : q_I τ) (hC : q_C b τ σ) : f_X5_foldings b σ = some (nI (q_fo τ 4), σ) := by
  have key : ∀ (m k f : Nat), k + m = 4 → m < f → l_X5_foldings_4 b f (nI (q_fo τ k)) (nI k) σ = some (nI (q_fo τ 4), σ) := by
    intro m
    induction m with
    | zero =>
      intro k f h1 h2
      obtain ⟨f, rfl⟩ : ∃ g, f = g + 1 := ⟨f - 1, by omega⟩
      rw [l_X5_foldings_4, show (4 : Int32) = nI 4 from rfl, if_pos (nI_le (by omega) (by omega)), show k = 4 by omega]
    | succ m ih =>
      intro k f h1 h2
      obtain ⟨f, rfl⟩ : ∃ g, f = g + 1 := ⟨f - 1, by omega⟩
      rw [l_X5_foldings_4, show (4 : Int32) = nI 4 from rfl, if_neg (nI_ge (by omega) (by omega))]
      simp (disch := omega) only [q_inT, eq_self, if_true, q_n]
      rw [(hC.2.2.2.2.2 k (by omega)).2, v_bitCount (hI.2.2.2.2.2.2.2 k (by omega)).1, q_bd, q_add, show nI k + 1 = nI (k + 1) from nI_1 k]
      exact ih (k + 1) f (by omega) (by omega)
  exact key 4 0 1000 (by omega) (by omega)
end WD
