/-! PURE: bits, and the calls that change little -/
def q_bb (p : Nat → Bool) : Nat → Nat
  | 0 => 0
  | n + 1 => q_bb p n + if p n then 2 ^ n else 0
theorem q_bb_lt (p : Nat → Bool) : ∀ n, q_bb p n < 2 ^ n
  | 0 => Nat.one_pos
  | n + 1 => by
    have := q_bb_lt p n
    rw [q_bb, Nat.pow_succ]
    split <;> omega
theorem q_bb_l8 (p : Nat → Bool) {n : Nat} (hn : n ≤ 8) : q_bb p n < 256 := Nat.lt_of_lt_of_le (q_bb_lt p n) (Nat.pow_le_pow_right (n := 2) (by decide) hn)
theorem q_or_n : ∀ n, n < 8 → ∀ u, u < 2 ^ n → (nI u ||| (k_shl 1 (nI n))) = nI (u + 2 ^ n) := by decide +kernel
theorem q_bb_or1 {p : Nat → Bool} {n : Nat} (hn : n < 8) (h : p n = true) : (nI (q_bb p n) ||| (k_shl 1 (nI n))) = nI (q_bb p (n + 1)) := by
  rw [q_or_n n hn _ (q_bb_lt p n), q_bb, h, if_pos rfl]
theorem q_bb_0 {p : Nat → Bool} {n : Nat} (h : p n = false) : q_bb p (n + 1) = q_bb p n := by rw [q_bb, h]; simp
theorem q_or0 (x : Int32) : x ||| 0 = x := Int32.or_zero
theorem q_bb_ext {p q : Nat → Bool} : ∀ {n : Nat}, (∀ c, c < n → p c = q c) → q_bb p n = q_bb q n
  | 0, _ => rfl
  | n + 1, h => by rw [q_bb, q_bb, q_bb_ext (fun c hc => h c (by omega)), h n (by omega)]
theorem q_bb_tb (p : Nat → Bool) (c : Nat) : ∀ n, (q_bb p n).testBit c = (decide (c < n) && p c)
  | 0 => by simp [q_bb]
  | n + 1 => by
    have hl := q_bb_lt p n
    have ih := q_bb_tb p c n
    rw [q_bb]
    cases hp : p n
    · simp only [Bool.false_eq_true, if_false, Nat.add_zero, ih]
      by_cases h : c = n
      · subst h; simp [hp]
      · have : decide (c < n + 1) = decide (c < n) := decide_eq_decide.mpr (by omega)
        rw [this]
    · simp only [if_true]
      rw [Nat.add_comm]
      by_cases h1 : c < n
      · rw [Nat.testBit_two_pow_add_gt h1, ih]; simp [h1, Nat.lt_succ_of_lt h1]
      · by_cases h : c = n
        · subst h
          rw [Nat.testBit_two_pow_add_eq, ih]; simp [hp]
        · rw [Nat.testBit_lt_two_pow (Nat.lt_of_lt_of_le (show 2 ^ n + q_bb p n < 2 ^ (n + 1) by rw [Nat.pow_succ]; omega) (Nat.pow_le_pow_right (by decide) (by omega)))]
          have : decide (c < n + 1) = false := decide_eq_false (by omega)
          rw [this]; rfl
theorem q_bits {u n : Nat} (hu : u < 2 ^ n) {p : Nat → Bool} (h : ∀ c, c < n → u.testBit c = p c) : u = q_bb p n := by
  apply Nat.eq_of_testBit_eq
  intro c
  rw [q_bb_tb]
  by_cases hc : c < n
  · simp [hc, h c hc]
  · rw [Nat.testBit_lt_two_pow (Nat.lt_of_lt_of_le hu (Nat.pow_le_pow_right (by decide) (by omega)))]
    simp [hc]
def q_sm (f : Nat → Nat) : Nat → Nat
  | 0 => 0
  | n + 1 => q_sm f n + f n
theorem q_sm_ext {f g : Nat → Nat} : ∀ {n : Nat}, (∀ c, c < n → f c = g c) → q_sm f n = q_sm g n
  | 0, _ => rfl
  | n + 1, h => by rw [q_sm, q_sm, q_sm_ext (fun c hc => h c (by omega)), h n (by omega)]
theorem q_sm_le {f : Nat → Nat} {k : Nat} : ∀ {n : Nat}, (∀ c, c < n → f c ≤ k) → q_sm f n ≤ n * k
  | 0, _ => by simp [q_sm]
  | n + 1, h => by
    have := q_sm_le (n := n) (fun c hc => h c (by omega))
    have := h n (by omega)
    rw [q_sm, Nat.succ_mul]; omega
def q_pc (u : Nat) : Nat → Nat := q_sm (fun k => u / 2 ^ k % 2)
theorem q_pcl : ∀ u, u < 256 → ((((((((nI u - ((k_ushr (nI u) 1) &&& 1431655765)) &&& 858993459) + ((k_ushr (nI u - ((k_ushr (nI u) 1) &&& 1431655765)) 2) &&& 858993459)) + (k_ushr (((nI u - ((k_ushr (nI u) 1) &&& 1431655765)) &&& 858993459) + ((k_ushr (nI u - ((k_ushr (nI u) 1) &&& 1431655765)) 2) &&& 858993459)) 4)) &&& 252645135) + (k_ushr (((((nI u - ((k_ushr (nI u) 1) &&& 1431655765)) &&& 858993459) + ((k_ushr (nI u - ((k_ushr (nI u) 1) &&& 1431655765)) 2) &&& 858993459)) + (k_ushr (((nI u - ((k_ushr (nI u) 1) &&& 1431655765)) &&& 858993459) + ((k_ushr (nI u - ((k_ushr (nI u) 1) &&& 1431655765)) 2) &&& 858993459)) 4)) &&& 252645135) 8)) + (k_ushr ((((((nI u - ((k_ushr (nI u) 1) &&& 1431655765)) &&& 858993459) + ((k_ushr (nI u - ((k_ushr (nI u) 1) &&& 1431655765)) 2) &&& 858993459)) + (k_ushr (((nI u - ((k_ushr (nI u) 1) &&& 1431655765)) &&& 858993459) + ((k_ushr (nI u - ((k_ushr (nI u) 1) &&& 1431655765)) 2) &&& 858993459)) 4)) &&& 252645135) + (k_ushr (((((nI u - ((k_ushr (nI u) 1) &&& 1431655765)) &&& 858993459) + ((k_ushr (nI u - ((k_ushr (nI u) 1) &&& 1431655765)) 2) &&& 858993459)) + (k_ushr (((nI u - ((k_ushr (nI u) 1) &&& 1431655765)) &&& 858993459) + ((k_ushr (nI u - ((k_ushr (nI u) 1) &&& 1431655765)) 2) &&& 858993459)) 4)) &&& 252645135) 8)) 16)) &&& 63) = nI (q_pc u 8) := by decide +kernel
theorem v_bitCount {u : Nat} (hu : u < 256) (σ : k_Mem) : f_J6_bitCount_0f7a4 (nI u) σ = some (nI (q_pc u 8), σ) := by
  rw [← q_pcl u hu]
  rfl
theorem w_bitsOf_l {u : Nat} (hu : u < 256) {σ : k_Mem} : ∀ (m k f : Nat), k + m = 8 → m < f → l_X7_bitsOf_4 f (nI u) (nI (q_pc u k)) (nI k) σ = some (nI (q_pc u 8), σ) := by
  intro m
  induction m with
  | zero =>
    intro k f h1 h2
    obtain ⟨f, rfl⟩ : ∃ g, f = g + 1 := ⟨f - 1, by omega⟩
    rw [l_X7_bitsOf_4, show (8 : Int32) = nI 8 from rfl, if_pos (nI_le (by omega) (by omega)), show k = 8 by omega]
  | succ m ih =>
    intro k f h1 h2
    obtain ⟨f, rfl⟩ : ∃ g, f = g + 1 := ⟨f - 1, by omega⟩
    rw [l_X7_bitsOf_4, show (8 : Int32) = nI 8 from rfl, if_neg (nI_ge (by omega) (by omega)), q_bit (by omega) (by omega), q_add, show nI k + 1 = nI (k + 1) from nI_1 k]
    exact ih (k + 1) f (by omega) (by omega)
theorem w_bitsOf {u : Nat} (hu : u < 256) (σ : k_Mem) : f_X7_bitsOf (nI u) σ = some (nI (q_pc u 8), σ) := w_bitsOf_l hu 8 0 1000 (by omega) (by omega)
theorem q_pc8 {u n : Nat} : q_pc u n ≤ n := by
  have := q_sm_le (f := fun k => u / 2 ^ k % 2) (k := 1) (n := n) (fun c _ => by show u / 2 ^ c % 2 ≤ 1; omega)
  unfold q_pc; omega
theorem q_pc_t (u k : Nat) : u / 2 ^ k % 2 = if u.testBit k then 1 else 0 := by
  rw [Nat.testBit_eq_decide_div_mod_eq]
  by_cases h : u / 2 ^ k % 2 = 1
  · simp [h]
  · simp [h]; omega
theorem q_pc_p {u : Nat} {p : Nat → Bool} {n : Nat} (h : ∀ c, c < n → u.testBit c = p c) : q_pc u n = q_sm (fun c => if p c then 1 else 0) n := q_sm_ext (fun c hc => by
  show u / 2 ^ c % 2 = _
  rw [q_pc_t, h c hc])
