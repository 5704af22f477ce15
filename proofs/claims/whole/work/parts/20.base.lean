/-! PURE: numbers and memory -/
theorem q_lit (n : Nat) : (OfNat.ofNat n : Int32) = nI n := rfl
theorem q_in {j n : Nat} (hj : j < 2 ^ 31) : k_in (nI j) n = decide (j < n) := by
  have h0 : ¬ nI j < 0 := nI_pos hj
  simp only [k_in, h0, decide_false, Bool.not_false, Bool.true_and, nI_clamp hj]
theorem q_inT {j n : Nat} (h : j < n) (hn : n < 2 ^ 31) : k_in (nI j) n = true := by rw [q_in (by omega)]; exact decide_eq_true h
theorem q_n {j : Nat} (hj : j < 2 ^ 31) : k_n (nI j) = j := nI_clamp hj
theorem q_lt {a b : Nat} (ha : a < 2 ^ 31) (hb : b < 2 ^ 31) : (nI a < nI b) = (a < b) := propext (nI_ltI ha hb)
theorem q_le {a b : Nat} (ha : a < 2 ^ 31) (hb : b < 2 ^ 31) : (nI a ≤ nI b) = (a ≤ b) := propext (nI_leI ha hb)
theorem q_eq {a b : Nat} (ha : a < 2 ^ 31) (hb : b < 2 ^ 31) : (nI a = nI b) = (a = b) := propext (nI_eq ha hb)
theorem q_add (a b : Nat) : nI a + nI b = nI (a + b) := nI_add a b
theorem q_sub {a b : Nat} (h : b ≤ a) : nI a - nI b = nI (a - b) := pk_sub h
theorem q_mul (a b : Nat) : nI a * nI b = nI (a * b) := pk_mul a b
theorem q_div {a d : Nat} (ha : a < 2 ^ 31) (h0 : 0 < d) (hd : d < 2 ^ 31) : nI a / nI d = nI (a / d) := pk_div ha h0 hd
theorem q_rem {a d : Nat} (ha : a < 2 ^ 31) (h0 : 0 < d) (hd : d < 2 ^ 31) : k_rem (nI a) (nI d) = nI (a % d) := pk_rem ha h0 hd
theorem q_m1 {j : Nat} (hj : j < 2 ^ 31) : (nI j = -1) = False := by
  apply eq_false
  intro h
  have h1 := congrArg Int32.toInt h
  rw [nI_toInt hj] at h1
  have h2 : (-1 : Int32).toInt = -1 := by decide
  omega
theorem q_m4 {j : Nat} (hj : j < 2 ^ 31) : (nI j = -4) = False := by
  apply eq_false
  intro h
  have h1 := congrArg Int32.toInt h
  rw [nI_toInt hj] at h1
  have h2 : (-4 : Int32).toInt = -4 := by decide
  omega
theorem q_pos {j : Nat} (hj : j < 2 ^ 31) : (nI j < 0) = False := eq_false (nI_pos hj)
theorem q_bd {α β : Type} (r : α) (σ : k_Mem) (K : α → k_Mem → Option β) : k_bd (some (r, σ)) K = K r σ := rfl
theorem q_ms (σ : k_Mem) (k i : Nat) (v : Int32) (a j : Nat) : k_mset σ k i v a j = if a = k ∧ j = i then v else σ a j := by
  unfold k_mset k_mrow upd
  by_cases h : a = k
  · subst h
    by_cases h2 : j = i <;> simp [h2]
  · simp [h]
theorem q_ms_ne (σ : k_Mem) {k i a : Nat} (v : Int32) (h : a ≠ k) : k_mset σ k i v a = σ a := k_row_ne σ _ h
theorem q_mr (σ : k_Mem) (k : Nat) (f : Nat → Int32) (a j : Nat) : k_mrow σ k f a j = if a = k then f j else σ a j := by
  unfold k_mrow
  split <;> rfl
/-- an int is one of a few small numbers, or none of them -/
theorem q_ix (x : Int32) {n : Nat} (hn : n < 2 ^ 31) : x < 0 ∨ nI n ≤ x ∨ ∃ j : Nat, j < n ∧ x = nI j := pk_ix x hn
theorem q_sr {x j : Nat} (hx : x < 2 ^ 31) (hj : j < 32) : k_shr (nI x) (nI j) = nI (x / 2 ^ j) := by
  unfold k_shr
  have h : ∀ j, j < 32 → ((nI j &&& 31).toBitVec.smod 32).toNat = j := by decide +kernel
  exact pk_shrN hx _ j (h j hj)
theorem q_an1 {n : Nat} (h : n < 2 ^ 32) : nI n &&& 1 = nI (n % 2) := by
  have := pk_andN (n := n) h (m := 1) 1 (by decide)
  simpa using this
/-- a bit of a small number, as the machine asks for it -/
theorem q_bit {x j : Nat} (hx : x < 2 ^ 31) (hj : j < 32) : (k_shr (nI x) (nI j)) &&& 1 = nI (x / 2 ^ j % 2) := by
  rw [q_sr hx hj, q_an1 (Nat.lt_of_le_of_lt (Nat.div_le_self _ _) (by omega))]
theorem q_tb (x j : Nat) : (x / 2 ^ j % 2 = 1) = (x.testBit j = true) := by
  rw [Nat.testBit_eq_decide_div_mod_eq]
  simp
theorem q_bit1 {x j : Nat} (hx : x < 2 ^ 31) (hj : j < 32) : ((k_shr (nI x) (nI j)) &&& 1 = 1) = (x.testBit j = true) := by
  rw [q_bit hx hj, show (1 : Int32) = nI 1 from rfl, q_eq (by omega) (by omega), q_tb]
theorem q_bit0 {x j : Nat} (hx : x < 2 ^ 31) (hj : j < 32) : ((k_shr (nI x) (nI j)) &&& 1 = 0) = (x.testBit j = false) := by
  rw [q_bit hx hj, show (0 : Int32) = nI 0 from rfl, q_eq (by omega) (by omega)]
  rw [Nat.testBit_eq_decide_div_mod_eq]
  have : x / 2 ^ j % 2 < 2 := Nat.mod_lt _ (by omega)
  apply propext
  simp only [decide_eq_false_iff_not]
  omega
/-- the longs of the reference -/
theorem q_cmp_lt (x y : Int64) : (lg_cmp x y < 0) = (x < y) := propext (lg_cmp_lt x y)
theorem q_cmp_gt (x y : Int64) : (0 < lg_cmp x y) = (y < x) := propext (lg_cmp_gt x y)
theorem q_cmp_eq (x y : Int64) : (lg_cmp x y = 0) = (x = y) := propext (lg_cmp_eq x y)
theorem q_cmp_le (x y : Int64) : (lg_cmp x y ≤ 0) = (x ≤ y) := propext (lg_cmp_le x y)
/-- what the reference asks by in(v, low, high) -/
theorem v_in (x lo hi : Int64) (σ : k_Mem) : f_X7_in x lo hi σ = some (if lo ≤ x ∧ x ≤ hi then 1 else 0, σ) := by
  unfold f_X7_in
  simp only [q_cmp_lt, q_cmp_gt]
  have e1 : (x < lo) ↔ ¬ lo ≤ x := by rw [Int64.lt_iff_toInt_lt, Int64.le_iff_toInt_le]; omega
  have e2 : (hi < x) ↔ ¬ x ≤ hi := by rw [Int64.lt_iff_toInt_lt, Int64.le_iff_toInt_le]; omega
  by_cases h1 : lo ≤ x
  · by_cases h2 : x ≤ hi
    · rw [if_neg (by rw [e1]; simp [h1]), if_neg (by rw [e2]; simp [h2]), if_pos ⟨h1, h2⟩]
    · rw [if_neg (by rw [e1]; simp [h1]), if_pos (by rw [e2]; exact h2), if_neg (fun h => h2 h.2)]
  · rw [if_pos (by rw [e1]; exact h1), if_neg (fun h => h1 h.1)]
theorem q_wide_le (a b : Int32) : (a.toInt64 ≤ b.toInt64) = (a ≤ b) := propext (by rw [Int64.le_iff_toInt_le, Int32.le_iff_toInt_le, Int32.toInt_toInt64, Int32.toInt_toInt64])
/-- in(v, low, high) of ints -/
theorem v_in32 (x lo hi : Int32) (a b : Int64) (ha : a = lo.toInt64) (hb : b = hi.toInt64) (σ : k_Mem) : f_X7_in x.toInt64 a b σ = some (if lo ≤ x ∧ x ≤ hi then 1 else 0, σ) := by
  rw [v_in, ha, hb]
  simp only [q_wide_le]
