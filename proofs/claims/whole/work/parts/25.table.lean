/-! PURE: the reference's table -/
/-- who can be with whom when some pages (g, bits) are gone -/
def q_cg (τ : k_TW) (g a c : Nat) : Bool := q_can τ a c && !g.testBit a && !g.testBit c
def q_ta (τ : k_TW) (g a c : Nat) : Int32 := if q_cg τ g a c then nI (q_lk τ a c) else -1
def q_TB (τ : k_TW) (g : Nat) (σ : k_Mem) : Prop := ∀ a c, a < 8 → c < 8 → σ 73 (8 * a + c) = q_ta τ g a c
section TG
variable {τ : k_TW}
theorem w_areFolded {σ : k_Mem} (hI : q_I τ) (hM : q_M 0 τ σ) {a c : Nat} (ha : q_H τ a = true) (hc : q_H τ c = true) (hs : a / 4 ≠ c / 4) : f_X7_areFolded (nI a) (nI c) σ = some (q_b ((τ 6 a).testBit c), σ) := by
  have a8 := q_H8 hI ha
  have c8 := q_H8 hI hc
  have key : ∀ l r, l < 4 → r < 8 → j_X7_areFolded_21 (nI l) (nI r) σ = some (q_b ((τ 6 l).testBit r), σ) := by
    intro l r hl hr
    have e : σ 68 (0 + 40 + l) = nI (τ 6 l) := (hM.2.1 l hl).1
    have h := (hI.2.2.2.2.2.2.2 l (by omega)).1
    unfold j_X7_areFolded_21
    rw [show (40 : Int32) = nI 40 from rfl, q_add]
    simp (disch := omega) only [q_inT, eq_self, if_true, q_n]
    rw [show 40 + l = 0 + 40 + l by omega, e]
    simp (disch := omega) only [q_bit1]
    cases (τ 6 l).testBit r <;> simp [q_b]
  have hsy : (τ 6 a).testBit c = (τ 6 c).testBit a := by
    apply Bool.eq_iff_iff.mpr
    exact ⟨fun h => ((hI.2.2.2.2.2.2.2 a a8).2 c h).2.2.2, fun h => ((hI.2.2.2.2.2.2.2 c c8).2 a h).2.2.2⟩
  unfold f_X7_areFolded j_X7_areFolded_10
  simp (disch := omega) only [q_le]
  by_cases h : c ≤ a
  · rw [if_pos h, if_pos h, key c a (by omega) (by omega), hsy]
  · rw [if_neg h, if_neg h, key a c (by omega) (by omega)]
theorem w_table_in (hI : q_I τ) {g a : Nat} (hg : g < 256) (ha : a < 8) {k2 : Int32 → Int32 → k_Mem → Option (Unit × k_Mem)} : ∀ (m c f : Nat) (σ : k_Mem), c + m = 8 → m < f → q_N τ σ → q_M 0 τ σ → (∀ i, i < c → σ 73 (8 * a + i) = q_ta τ g a i) → ∃ σ1, l_X7_laysTable_10 k2 f (nI g) (nI a) (nI c) σ = k2 (nI g) (nI (a + 1)) σ1 ∧ (∀ i, i < 8 → σ1 73 (8 * a + i) = q_ta τ g a i) ∧ (∀ i, i < 8 * a → σ1 73 i = σ 73 i) ∧ ∀ k, k ≠ 73 → σ1 k = σ k := by
  intro m
  induction m with
  | zero =>
    intro c f σ h1 h2 hN hM hd
    obtain ⟨f, rfl⟩ : ∃ g, f = g + 1 := ⟨f - 1, by omega⟩
    rw [l_X7_laysTable_10, show (8 : Int32) = nI 8 from rfl, if_pos (nI_le (by omega) (by omega)), show nI a + 1 = nI (a + 1) from nI_1 a]
    exact ⟨σ, rfl, fun i hi => hd i (by omega), fun _ _ => rfl, fun _ _ => rfl⟩
  | succ m ih =>
    intro c f σ h1 h2 hN hM hd
    obtain ⟨f, rfl⟩ : ∃ g, f = g + 1 := ⟨f - 1, by omega⟩
    have fin : ∀ v : Int32, v = q_ta τ g a c → ∃ σ1, j_X7_laysTable_98 k2 (fun x1 x2 x3 σ => l_X7_laysTable_10 k2 f x1 x2 x3 σ) (nI g) (nI a) (nI c) (nI (8 * a + c)) v σ = k2 (nI g) (nI (a + 1)) σ1 ∧ (∀ i, i < 8 → σ1 73 (8 * a + i) = q_ta τ g a i) ∧ (∀ i, i < 8 * a → σ1 73 i = σ 73 i) ∧ ∀ k, k ≠ 73 → σ1 k = σ k := by
      intro v hv
      unfold j_X7_laysTable_98
      simp (disch := omega) only [q_inT, eq_self, if_true, q_n]
      rw [show nI c + 1 = nI (c + 1) from nI_1 c]
      obtain ⟨σ1, e1, e2, e3, e4⟩ := ih (c + 1) f (k_mset σ 73 (8 * a + c) v) (by omega) (by omega) (q_N_sm hN (q_ms_ne _ _ (by decide))) (q_M_sm hM (q_ms_ne _ _ (by decide))) (fun i hi => by
        rw [q_ms]
        by_cases h : i = c
        · subst h; rw [if_pos ⟨rfl, rfl⟩]; exact hv
        · rw [if_neg (by omega)]; exact hd i (by omega))
      exact ⟨σ1, e1, e2, fun i hi => by rw [e3 i hi, q_ms, if_neg (by omega)], fun k hk => by rw [e4 k hk, q_ms_ne _ _ hk]⟩
    have no : q_cg τ g a c = false → ∃ σ1, j_X7_laysTable_70 k2 (fun x1 x2 x3 σ => l_X7_laysTable_10 k2 f x1 x2 x3 σ) (nI g) (nI a) (nI c) σ = k2 (nI g) (nI (a + 1)) σ1 ∧ (∀ i, i < 8 → σ1 73 (8 * a + i) = q_ta τ g a i) ∧ (∀ i, i < 8 * a → σ1 73 i = σ 73 i) ∧ ∀ k, k ≠ 73 → σ1 k = σ k := by
      intro h
      unfold j_X7_laysTable_70 j_X7_laysTable_71
      rw [if_pos rfl, show (8 : Int32) = nI 8 from rfl, q_mul, q_add]
      exact fin _ (by simp [q_ta, h])
    rw [l_X7_laysTable_10, show (8 : Int32) = nI 8 from rfl, if_neg (nI_ge (by omega) (by omega)), w_isHand hI hN (by omega), q_bd]
    simp only [q_b0]
    cases hA : q_H τ a
    · rw [if_pos rfl]; exact no (by simp [q_cg, q_can, hA])
    · rw [if_neg (by decide), w_isHand hI hN (by omega), q_bd]
      simp only [q_b0]
      cases hB : q_H τ c
      · rw [if_pos rfl]; exact no (by simp [q_cg, q_can, hB])
      · rw [if_neg (by decide), show (4 : Int32) = nI 4 from rfl]
        simp (disch := omega) only [q_div, q_eq, q_bit0]
        by_cases hs : a / 4 = c / 4
        · rw [if_pos hs]; exact no (by simp [q_cg, q_can, hs])
        · rw [if_neg hs]
          cases g1 : g.testBit a
          · rw [if_pos rfl]
            cases g2 : g.testBit c
            · rw [if_pos rfl, w_areFolded hI hM hA hB hs, q_bd]
              simp only [q_b0]
              cases hf : (τ 6 a).testBit c
              · rw [if_pos rfl]
                unfold j_X7_laysTable_71
                rw [if_neg (by decide), w_likesOf hI hN hM hA hB, q_bd, show (8 : Int32) = nI 8 from rfl, q_mul, q_add]
                exact fin _ (by simp [q_ta, q_cg, q_can, hA, hB, hs, hf, g1, g2])
              · rw [if_neg (by decide)]; exact no (by simp [q_cg, q_can, hf])
            · rw [if_neg (by decide)]; exact no (by simp [q_cg, g2])
          · rw [if_neg (by decide)]; exact no (by simp [q_cg, g1])
theorem w_table_out (hI : q_I τ) {g : Nat} (hg : g < 256) : ∀ (m a f : Nat) (σ : k_Mem), a + m = 8 → m < f → q_N τ σ → q_M 0 τ σ → (∀ i c, i < a → c < 8 → σ 73 (8 * i + c) = q_ta τ g i c) → ∃ σ1, l_X7_laysTable_2 f (nI g) (nI a) σ = some ((), σ1) ∧ q_TB τ g σ1 := by
  intro m
  induction m with
  | zero =>
    intro a f σ h1 h2 hN hM hd
    obtain ⟨f, rfl⟩ : ∃ g, f = g + 1 := ⟨f - 1, by omega⟩
    rw [l_X7_laysTable_2, show (8 : Int32) = nI 8 from rfl, if_pos (nI_le (by omega) (by omega))]
    exact ⟨σ, rfl, fun i c hi hc => hd i c (by omega) hc⟩
  | succ m ih =>
    intro a f σ h1 h2 hN hM hd
    obtain ⟨f, rfl⟩ : ∃ g, f = g + 1 := ⟨f - 1, by omega⟩
    rw [l_X7_laysTable_2, show (8 : Int32) = nI 8 from rfl, if_neg (nI_ge (by omega) (by omega))]
    obtain ⟨σ1, e1, e2, e3, e4⟩ := w_table_in hI hg (a := a) (by omega) (k2 := fun x1 x2 σ => l_X7_laysTable_2 f x1 x2 σ) 8 0 1000 σ (by omega) (by omega) hN hM (fun i hi => absurd hi (by omega))
    rw [show (0 : Int32) = nI 0 from rfl, e1]
    exact ih (a + 1) f σ1 (by omega) (by omega) (q_N_sm hN (e4 67 (by decide))) (q_M_sm hM (e4 68 (by decide))) (fun i c hi hc => by
      by_cases h : i = a
      · subst h; exact e2 c hc
      · rw [e3 _ (by omega)]; exact hd i c (by omega) hc)
theorem w_laysTable {σ : k_Mem} (hI : q_I τ) (hN : q_N τ σ) (hM : q_M 0 τ σ) {g : Nat} (hg : g < 256) : ∃ σ1, f_X7_laysTable (nI g) σ = some ((), σ1) ∧ q_TB τ g σ1 ∧ k_Sm [73] σ σ1 := by
  obtain ⟨σ1, e1, e2⟩ := w_table_out hI hg 8 0 1000 σ (by omega) (by omega) hN hM (fun i c hi => absurd hi (by omega))
  exact ⟨σ1, e1, e2, fr_f_X7_laysTable (nI g) σ () σ1 e1⟩
end TG
