/-! PURE: the class's table of wishes, the reference's table -/
/-- memories that agree but on some cells -/
theorem q_C_sm {b : Nat} {τ : k_TW} {σ σ1 : k_Mem} (h : q_C b τ σ) (hs : ∀ k, b ≤ k → k ≤ b + 7 → σ1 k = σ k) : q_C b τ σ1 := by
  obtain ⟨h1, h2, h3, h4, h5, h6⟩ := h
  refine ⟨by rw [hs b (by omega) (by omega)]; exact h1, by rw [hs b (by omega) (by omega)]; exact h2, by rw [hs b (by omega) (by omega)]; exact h3, by rw [hs b (by omega) (by omega)]; exact h4, fun a ha => ?_, fun a ha => ?_⟩
  · rw [hs (b + 1) (by omega) (by omega), hs (b + 2) (by omega) (by omega), hs (b + 3) (by omega) (by omega), hs (b + 4) (by omega) (by omega), hs (b + 5) (by omega) (by omega)]
    exact h5 a ha
  · rw [hs (b + 6) (by omega) (by omega), hs (b + 7) (by omega) (by omega)]
    exact h6 a ha
theorem q_M_sm {o : Nat} {τ : k_TW} {σ σ1 : k_Mem} (h : q_M o τ σ) (hs : σ1 68 = σ 68) : q_M o τ σ1 := by unfold q_M; rw [hs]; exact h
theorem q_N_sm {τ : k_TW} {σ σ1 : k_Mem} (h : q_N τ σ) (hs : σ1 67 = σ 67) : q_N τ σ1 := by unfold q_N; rw [hs]; exact h
/-- a town is at one of five places -/
def q_T (b : Nat) : Prop := b = 6 ∨ b = 14 ∨ b = 22 ∨ b = 30 ∨ b = 38
section TB
variable {b : Nat} {τ : k_TW} {σ : k_Mem}
theorem v_areFolded (hI : q_I τ) (hC : q_C b τ σ) {a c : Nat} (ha : a < 8) (hc : c < 32) : f_X5_areFolded b (nI a) (nI c) σ = some (q_b ((τ 6 a).testBit c), σ) := by
  have e := (hC.2.2.2.2.2 a ha).2
  have h := (hI.2.2.2.2.2.2.2 a ha).1
  unfold f_X5_areFolded
  simp (disch := omega) only [q_inT, eq_self, if_true, q_n, e, q_bit1]
  cases (τ 6 a).testBit c <;> simp [q_b]
/-- one wish: what the class puts down -/
def q_wi (τ : k_TW) (a b : Nat) : Int32 := if q_can τ a b then nI (q_lk τ a b * 8 + 7 - b) else -2
theorem q_lk23 (hI : q_I τ) {a c : Nat} (ha : q_H τ a = true) (hc : q_H τ c = true) : q_lk τ a c ≤ 23 := by
  have s0 := q_sh9 hI hc (t := 0) (by omega)
  have s1 := q_sh9 hI hc (t := 1) (by omega)
  unfold q_lk
  split
  · omega
  · split
    · omega
    · split <;> omega
theorem q_abs {a c : Nat} (ha : a < 2 ^ 30) (hc : c < 2 ^ 30) : k_abs (nI a - nI c) = nI (q_ab a c) := by
  unfold k_abs q_ab
  have t : (nI a - nI c).toInt = (a : Int) - c := pk_sub_toInt ha hc
  have t0 : (0 : Int32).toInt = 0 := by decide
  by_cases h : c ≤ a
  · rw [if_pos (by rw [Int32.le_iff_toInt_le, t, t0]; omega), q_sub h]; congr 1; omega
  · rw [if_neg (by rw [Int32.le_iff_toInt_le, t, t0]; omega)]
    rw [show (0 : Int32) - (nI a - nI c) = nI c - nI a by rw [Int32.zero_sub, Int32.neg_sub], q_sub (by omega)]; congr 1; omega
/-- the class's liking, out of what the pages show -/
theorem v_likingIn (hI : q_I τ) (hC : q_C b τ σ) {a c : Nat} (ha : q_H τ a = true) (hc : q_H τ c = true) (h0 : σ 47 c = nI (q_sh τ c 0)) (h1 : σ 48 c = nI (q_sh τ c 1)) (h2 : σ 49 c = nI (q_sh τ c 2)) : f_X0_likingIn b (nI a) (nI c) σ = some (nI (q_lk τ a c), σ) := by
  have a8 := q_H8 hI ha
  have c8 := q_H8 hI hc
  obtain ⟨k1, k2, k3, k4, -⟩ := hI.2.2.2.2.2.1 a ha
  have s0 := q_sh9 hI hc (t := 0) (by omega)
  have s1 := q_sh9 hI hc (t := 1) (by omega)
  have s2 : q_sh τ c 2 ≤ 2 := by
    have h1 := hI.2.2.2.2.2.1 c hc
    have h2 := hI.2.2.2.2.2.1 _ h1.2.2.2.2
    unfold q_sh; rw [if_pos rfl]; exact h2.2.2.2.1
  obtain ⟨e0, e1, e2, e3, -⟩ := hC.2.2.2.2.1 a ha
  have b1 := q_ab9 s0 k2
  have b2 := q_ab9 s1 k3
  unfold f_X0_likingIn
  simp only [show (1 : Int32) = nI 1 from rfl, show (2 : Int32) = nI 2 from rfl, show (20 : Int32) = nI 20 from rfl, show (3 : Int32) = nI 3 from rfl]
  simp (disch := omega) only [q_inT, eq_self, if_true, q_n, e0, e1, e2, e3, h0, h1, h2, q_abs, q_add, q_sub, q_eq]
  unfold q_lk
  have : τ 0 a = 0 ∨ τ 0 a = 1 ∨ τ 0 a = 2 ∨ τ 0 a = 3 := by omega
  rcases this with h | h | h | h
  · simp (disch := omega) [h, q_inT, e0, q_n, q_eq, e1, e2, h0, h1, q_abs, q_sub]
  · by_cases c : q_sh τ c 2 = τ 3 a
    · simp (disch := omega) [h, c, q_inT, e0, q_n, q_eq, e1, e2, e3, h0, h1, h2, q_abs, q_sub, q_add]
    · simp (disch := omega) [h, c, q_inT, e0, q_n, q_eq, e1, e2, e3, h0, h1, h2, q_abs, q_sub, q_add]
  · simp [h]
  · simp (disch := omega) [h, q_inT, e0, q_n, q_eq, h0, h1, q_sub, q_add]
end TB
