/-! PURE: the class and the reference, side by side -/
def q_im (τ : k_TW) (im : Nat → Option k_TW) (σ : k_Mem) : Prop :=
  σ 0 4 = nI ((if (im 0).isSome then 1 else 0) + (if (im 1).isSome then 2 else 0)) ∧ σ 79 0 = nI (if (im 0).isSome then 1 else 0) ∧ σ 79 1 = nI (if (im 1).isSome then 1 else 0) ∧
  ∀ k, k < 2 → ∀ τ', im k = some τ' → q_I τ' ∧ q_C (22 + 8 * k) τ' σ ∧ q_M (50 * (k + 1)) τ' σ ∧ τ' 7 0 = τ 7 0 ∧ τ' 7 1 = τ 7 1
def q_tp (σ : k_Mem) : Prop := ∃ n, n ≤ 160 ∧ σ 1 1 = nI n ∧ σ 67 10 = nI n ∧ ∀ i, i < n → ∃ c, c < 128 ∧ σ 2 i = nI c ∧ σ 70 i = nI c
def q_sn (τ : k_TW) (σ : k_Mem) : Prop := ∃ m, m ≤ 6 ∧ σ 55 3 = nI m ∧ σ 67 25 = nI m ∧ ∀ i, i < m → ∃ a t v, q_H τ a = true ∧ t < 3 ∧ v < 10 ∧ σ 56 i = nI a ∧ σ 57 i = nI t ∧ σ 58 i = nI v ∧ σ 77 (3 * i) = nI a ∧ σ 77 (3 * i + 1) = nI t ∧ σ 77 (3 * i + 2) = nI v
def q_ss (σ : k_Mem) : Prop := ∀ k, k < 4 → ((σ (59 + 2 * k) 1 = -1 ∧ σ 80 k = -4) ∨ ∃ l, l < 3 ∧ σ (59 + 2 * k) 1 = nI l ∧ σ 80 k = nI l) ∧ (∃ n, n ≤ 40 ∧ σ (59 + 2 * k) 2 = nI n ∧ σ 81 k = nI n) ∧ ∀ i, i < 40 → σ (60 + 2 * k) i = σ 82 (40 * k + i)
def q_ot (σ : k_Mem) : Prop := σ 3 2 = σ 67 11 ∧ σ 0 11 = σ 67 32 ∧ σ 71 = k_σ0 71 ∧ σ 72 = k_σ0 72
def q_R (τ : k_TW) (im : Nat → Option k_TW) (σ : k_Mem) : Prop := q_I τ ∧ q_C 6 τ σ ∧ q_N τ σ ∧ q_M 0 τ σ ∧ q_im τ im σ ∧ q_tp σ ∧ q_sn τ σ ∧ q_ss σ ∧ q_ot σ
def q_Re (σ : k_Mem) : Prop := ∃ τ im, q_R τ im σ
/-- one call of both -/
def q_Op {ρ : Type} (A B : k_Mem → Option (ρ × k_Mem)) : Prop := ∀ σ, q_Re σ → ∃ r σ1 σ2, A σ = some (r, σ1) ∧ B σ1 = some (r, σ2) ∧ q_Re σ2
/-- cells in which nothing is kept -/
def q_sc : List Nat := [4, 14, 15, 16, 17, 18, 19, 20, 21, 38, 39, 40, 41, 42, 43, 44, 45, 46, 47, 48, 49, 50, 51, 52, 53, 54, 69, 73, 74, 75, 76, 78]
theorem q_R_sc {τ : k_TW} {im : Nat → Option k_TW} {σ σ1 : k_Mem} (h : q_R τ im σ) (hs : k_Sm q_sc σ σ1) : q_R τ im σ1 := by
  obtain ⟨h1, h2, h3, h4, h5, h6, h7, h8, h9⟩ := h
  have e : ∀ k, k ∉ q_sc → σ1 k = σ k := hs
  refine ⟨h1, q_C_sm h2 (fun k k1 k2 => e k (fun hk => by simp [q_sc] at hk; omega)), q_N_sm h3 (e 67 (by decide)), q_M_sm h4 (e 68 (by decide)), ?_, ?_, ?_, ?_, ?_⟩
  · obtain ⟨g1, g2, g3, g4⟩ := h5
    refine ⟨by rw [e 0 (by decide)]; exact g1, by rw [e 79 (by decide)]; exact g2, by rw [e 79 (by decide)]; exact g3, fun k hk τ' ht => ?_⟩
    obtain ⟨f1, f2, f3, f4⟩ := g4 k hk τ' ht
    exact ⟨f1, q_C_sm f2 (fun j j1 j2 => e j (fun hj => by simp [q_sc] at hj; omega)), q_M_sm f3 (e 68 (by decide)), f4⟩
  · unfold q_tp; rw [e 1 (by decide), e 67 (by decide), e 2 (by decide), e 70 (by decide)]; exact h6
  · unfold q_sn; rw [e 55 (by decide), e 67 (by decide), e 56 (by decide), e 57 (by decide), e 58 (by decide), e 77 (by decide)]; exact h7
  · intro k hk
    rw [e (59 + 2 * k) (fun hj => by simp [q_sc] at hj; omega), e (60 + 2 * k) (fun hj => by simp [q_sc] at hj; omega), e 80 (by decide), e 81 (by decide), e 82 (by decide)]
    exact h8 k hk
  · unfold q_ot; rw [e 3 (by decide), e 67 (by decide), e 0 (by decide), e 71 (by decide), e 72 (by decide)]; exact h9
theorem k_Sm_mono {fp fp1 : List Nat} {σ σ1 : k_Mem} (h : k_Sm fp1 σ σ1) (hs : ∀ c ∈ fp1, c ∈ fp) : k_Sm fp σ σ1 := fun k hk => h k (fun h1 => hk (hs k h1))
theorem k_Sm_tr {fp : List Nat} {σ σ1 σ2 : k_Mem} (h : k_Sm fp σ σ1) (h2 : k_Sm fp σ1 σ2) : k_Sm fp σ σ2 := fun k hk => (h2 k hk).trans (h k hk)
theorem k_Sm_nil {σ σ1 : k_Mem} (h : k_Sm [] σ σ1) : σ1 = σ := funext (fun k => h k List.not_mem_nil)
/-- a call that keeps nothing -/
theorem q_qu {ρ : Type} {A B : k_Mem → Option (ρ × k_Mem)} (hA : ∀ τ im σ, q_R τ im σ → ∃ v σ1, A σ = some (v, σ1) ∧ k_Sm q_sc σ σ1 ∧ ∀ σ', q_R τ im σ' → ∃ σ2, B σ' = some (v, σ2) ∧ k_Sm q_sc σ' σ2) : q_Op A B := by
  intro σ h
  obtain ⟨τ, im, h⟩ := h
  obtain ⟨v, σ1, e1, e2, e3⟩ := hA τ im σ h
  have hR1 := q_R_sc h e2
  obtain ⟨σ2, f1, f2⟩ := e3 σ1 hR1
  exact ⟨v, σ1, σ2, e1, f1, τ, im, q_R_sc hR1 f2⟩
theorem q_pur {ρ : Type} {fp : List Nat} {σ σ1 : k_Mem} {X : Option (ρ × k_Mem)} {v : ρ} (hf : k_Fr fp σ X) (h : X = some (v, σ1)) (hs : ∀ c ∈ fp, c ∈ q_sc) : k_Sm q_sc σ σ1 := k_Sm_mono (hf v σ1 h) hs
/-- a hand or not, of any int -/
theorem q_hand (x : Int32) {τ : k_TW} {im : Nat → Option k_TW} (hI : q_I τ) : (∃ a, a < 8 ∧ x = nI a ∧ q_H τ a = true) ∨ ((∀ b σ, q_C b τ σ → f_X5_isHand b x σ = some (0, σ)) ∧ ∀ σ, q_N τ σ → f_X7_isHand x σ = some (0, σ)) := by
  rcases q_ix x (n := 8) (by omega) with h | h | ⟨a, h1, h2⟩
  · exact Or.inr ⟨fun b σ hC => v_isHand_no hI hC (Or.inl h), fun σ hN => w_isHand_no hI hN (Or.inl h)⟩
  · exact Or.inr ⟨fun b σ hC => v_isHand_no hI hC (Or.inr h), fun σ hN => w_isHand_no hI hN (Or.inr h)⟩
  · cases hq : q_H τ a
    · subst h2
      exact Or.inr ⟨fun b σ hC => by rw [v_isHand hI hC (by omega), hq]; rfl, fun σ hN => by rw [w_isHand hI hN (by omega), hq]; rfl⟩
    · exact Or.inl ⟨a, h1, h2, hq⟩
theorem v_isH1 {b : Nat} {τ : k_TW} {σ : k_Mem} (hI : q_I τ) (hC : q_C b τ σ) {a : Nat} (ha : q_H τ a = true) : f_X5_isHand b (nI a) σ = some (1, σ) := by
  rw [v_isHand hI hC (by have := q_H8 hI ha; omega), ha]; rfl
theorem w_isH1 {τ : k_TW} {σ : k_Mem} (hI : q_I τ) (hN : q_N τ σ) {a : Nat} (ha : q_H τ a = true) : f_X7_isHand (nI a) σ = some (1, σ) := by
  rw [w_isHand hI hN (by have := q_H8 hI ha; omega), ha]; rfl
