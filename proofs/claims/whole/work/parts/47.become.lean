/-! PURE: one town becomes another; alike; near -/
def q_cy (σ : k_Mem) (k0 k1 : Nat) : k_Mem := k_mrow σ k0 (va_cpy (σ k1) (σ k0) 0 0 8)
theorem q_cy_ne {σ : k_Mem} {k0 k1 k : Nat} (h : k ≠ k0) : q_cy σ k0 k1 k = σ k := k_row_ne σ _ h
theorem q_cy_in {σ : k_Mem} {k0 k1 a : Nat} (h : a < 8) : q_cy σ k0 k1 k0 a = σ k1 a := by
  unfold q_cy
  rw [q_mr, if_pos rfl, pk_cpy_in (by omega) (by omega), Nat.zero_add, Nat.sub_zero]
theorem v_become {b0 b1 : Nat} {τ : k_TW} {σ : k_Mem} (hI : q_I τ) (hb : b0 + 7 < b1 ∨ b1 + 7 < b0) (hC : q_C b1 τ σ) : ∃ σ1, f_X5_become b0 b1 σ = some ((), σ1) ∧ q_C b0 τ σ1 ∧ k_Sm [b0, b0 + 1, b0 + 2, b0 + 3, b0 + 4, b0 + 5, b0 + 6, b0 + 7] σ σ1 := by
  have hfr := fr_f_X5_become b0 b1 σ
  have hok : k_cpok 0 0 8 8 8 = true := by decide
  have k0 : k_n 0 = 0 := by decide
  have k8 : k_n 8 = 8 := by decide
  unfold f_X5_become at hfr ⊢
  simp only [hok, if_true, k_ct, k0, k8] at hfr ⊢
  refine ⟨_, rfl, ?_, hfr () _ rfl⟩
  have h1 : ∀ (σ : k_Mem) (k0 k1 : Nat), k_mrow σ k0 (va_cpy (σ k1) (σ k0) 0 0 8) = q_cy σ k0 k1 := fun _ _ _ => rfl
  simp only [h1]
  generalize hs : q_cy (q_cy (q_cy (q_cy (q_cy (q_cy (q_cy σ (b0 + 1) (b1 + 1)) (b0 + 2) (b1 + 2)) (b0 + 3) (b1 + 3)) (b0 + 4) (b1 + 4)) (b0 + 5) (b1 + 5)) (b0 + 6) (b1 + 6)) (b0 + 7) (b1 + 7) = σ7
  have hb0 : ∀ k, k < b0 + 1 ∨ b0 + 7 < k → σ7 k = σ k := fun k hk => by
    rw [← hs, q_cy_ne (by omega), q_cy_ne (by omega), q_cy_ne (by omega), q_cy_ne (by omega), q_cy_ne (by omega), q_cy_ne (by omega), q_cy_ne (by omega)]
  have r1 : ∀ a, a < 8 → σ7 (b0 + 1) a = σ (b1 + 1) a := fun a ha => by
    rw [← hs, q_cy_ne (by omega), q_cy_ne (by omega), q_cy_ne (by omega), q_cy_ne (by omega), q_cy_ne (by omega), q_cy_ne (by omega), q_cy_in ha]
  have r2 : ∀ a, a < 8 → σ7 (b0 + 2) a = σ (b1 + 2) a := fun a ha => by
    rw [← hs, q_cy_ne (by omega), q_cy_ne (by omega), q_cy_ne (by omega), q_cy_ne (by omega), q_cy_ne (by omega), q_cy_in ha, q_cy_ne (by omega)]
  have r3 : ∀ a, a < 8 → σ7 (b0 + 3) a = σ (b1 + 3) a := fun a ha => by
    rw [← hs, q_cy_ne (by omega), q_cy_ne (by omega), q_cy_ne (by omega), q_cy_ne (by omega), q_cy_in ha, q_cy_ne (by omega), q_cy_ne (by omega)]
  have r4 : ∀ a, a < 8 → σ7 (b0 + 4) a = σ (b1 + 4) a := fun a ha => by
    rw [← hs, q_cy_ne (by omega), q_cy_ne (by omega), q_cy_ne (by omega), q_cy_in ha, q_cy_ne (by omega), q_cy_ne (by omega), q_cy_ne (by omega)]
  have r5 : ∀ a, a < 8 → σ7 (b0 + 5) a = σ (b1 + 5) a := fun a ha => by
    rw [← hs, q_cy_ne (by omega), q_cy_ne (by omega), q_cy_in ha, q_cy_ne (by omega), q_cy_ne (by omega), q_cy_ne (by omega), q_cy_ne (by omega)]
  have r6 : ∀ a, a < 8 → σ7 (b0 + 6) a = σ (b1 + 6) a := fun a ha => by
    rw [← hs, q_cy_ne (by omega), q_cy_in ha, q_cy_ne (by omega), q_cy_ne (by omega), q_cy_ne (by omega), q_cy_ne (by omega), q_cy_ne (by omega)]
  have r7 : ∀ a, a < 8 → σ7 (b0 + 7) a = σ (b1 + 7) a := fun a ha => by
    rw [← hs, q_cy_in ha, q_cy_ne (by omega), q_cy_ne (by omega), q_cy_ne (by omega), q_cy_ne (by omega), q_cy_ne (by omega), q_cy_ne (by omega)]
  have hne : b1 ≠ b0 := by omega
  have e7 : σ7 b1 = σ b1 := hb0 b1 (by omega)
  refine q_C_mk ?_ ?_ ?_ ?_ (fun t a ht ha => ?_) (fun a ha => ?_)
  · rw [q_ms, if_neg (by omega), q_ms, if_neg (by omega), q_ms, if_neg (by omega), q_ms, if_pos ⟨rfl, rfl⟩, e7]; exact hC.1
  · rw [q_ms, if_neg (by omega), q_ms, if_neg (by omega), q_ms, if_pos ⟨rfl, rfl⟩, q_ms_ne _ _ hne, e7]; exact hC.2.1
  · rw [q_ms, if_neg (by omega), q_ms, if_pos ⟨rfl, rfl⟩, q_ms_ne _ _ hne, q_ms_ne _ _ hne, e7]; exact hC.2.2.1
  · rw [q_ms, if_pos ⟨rfl, rfl⟩, q_ms_ne _ _ hne, q_ms_ne _ _ hne, q_ms_ne _ _ hne, e7]; exact hC.2.2.2.1
  · have a8 := q_H8 hI ha
    rw [q_ms_ne _ _ (by omega), q_ms_ne _ _ (by omega), q_ms_ne _ _ (by omega), q_ms_ne _ _ (by omega), ← q_row hC ht ha]
    have : t = 0 ∨ t = 1 ∨ t = 2 ∨ t = 3 ∨ t = 4 := by omega
    rcases this with rfl | rfl | rfl | rfl | rfl
    · exact r1 a a8
    · exact r2 a a8
    · exact r3 a a8
    · exact r4 a a8
    · exact r5 a a8
  · rw [q_ms_ne _ _ (by omega), q_ms_ne _ _ (by omega), q_ms_ne _ _ (by omega), q_ms_ne _ _ (by omega), q_ms_ne _ _ (by omega), q_ms_ne _ _ (by omega), q_ms_ne _ _ (by omega), q_ms_ne _ _ (by omega), r6 a ha, r7 a ha]
    exact hC.2.2.2.2.2 a ha
theorem w_copies {p q : Nat} (hp : p ≤ 200) (hq : q ≤ 200) (hd : p + 50 ≤ q ∨ q + 50 ≤ p) (σ : k_Mem) : ∃ σ1, f_X7_copies (nI p) (nI q) σ = some ((), σ1) ∧ (∀ i, σ1 68 i = if q ≤ i ∧ i < q + 50 then σ 68 (p + (i - q)) else σ 68 i) ∧ ∀ k, k ≠ 68 → σ1 k = σ k := by
  have key : ∀ (m k f : Nat) (σ1 : k_Mem), k + m = 50 → m < f → (∀ i, σ1 68 i = if q ≤ i ∧ i < q + k then σ 68 (p + (i - q)) else σ 68 i) → (∀ k, k ≠ 68 → σ1 k = σ k) → ∃ σ2, l_X7_copies_2 f (nI p) (nI q) (nI k) σ1 = some ((), σ2) ∧ (∀ i, σ2 68 i = if q ≤ i ∧ i < q + 50 then σ 68 (p + (i - q)) else σ 68 i) ∧ ∀ k, k ≠ 68 → σ2 k = σ k := by
    intro m
    induction m with
    | zero =>
      intro k f σ1 h1 h2 h3 h4
      obtain ⟨f, rfl⟩ : ∃ g, f = g + 1 := ⟨f - 1, by omega⟩
      have : k = 50 := by omega
      subst this
      rw [l_X7_copies_2, if_pos (show (50 : Int32) ≤ nI 50 by decide)]
      exact ⟨σ1, rfl, h3, h4⟩
    | succ m ih =>
      intro k f σ1 h1 h2 h3 h4
      obtain ⟨f, rfl⟩ : ∃ g, f = g + 1 := ⟨f - 1, by omega⟩
      rw [l_X7_copies_2, if_neg (show ¬ (50 : Int32) ≤ nI k from nI_ge (b := 50) (by omega) (by omega))]
      simp only [q_add, q_inT (show p + k < 250 by omega) (by omega : 250 < 2 ^ 31), q_inT (show q + k < 250 by omega) (by omega : 250 < 2 ^ 31), if_true, q_n (show p + k < 2 ^ 31 by omega), q_n (show q + k < 2 ^ 31 by omega), show nI k + 1 = nI (k + 1) from nI_1 k]
      refine ih (k + 1) f _ (by omega) (by omega) (fun i => ?_) (fun k hk => by rw [q_ms_ne _ _ hk, h4 k hk])
      have h3p : σ1 68 (p + k) = σ 68 (p + k) := by rw [h3 (p + k), if_neg (by omega)]
      rw [q_ms, h3p, h3 i]
      by_cases hi : i = q + k
      · rw [if_pos ⟨rfl, hi⟩, if_pos (by omega)]; congr 1; omega
      · rw [if_neg (fun h => hi h.2)]
        by_cases h5 : q ≤ i ∧ i < q + k
        · rw [if_pos h5, if_pos (by omega)]
        · rw [if_neg h5, if_neg (by omega)]
  exact key 50 0 1000 σ (by omega) (by omega) (fun i => by rw [if_neg (by omega)]) (fun _ _ => rfl)
/-- what is behind the images in the reference's state is nobody's -/
theorem q_R_68 {τ : k_TW} {im : Nat → Option k_TW} {σ σ1 : k_Mem} (h : q_R τ im σ) (hs : k_Sm (68 :: q_sc) σ σ1) (e68 : ∀ i, i < 150 → σ1 68 i = σ 68 i) : q_R τ im σ1 := by
  have hR := h
  obtain ⟨hI, hC, hN, hM, -⟩ := h
  have e : ∀ k, k ∉ 68 :: q_sc → σ1 k = σ k := hs
  refine q_Re_t hR rfl rfl hI (q_C_sm hC (fun k k1 k2 => e k (by simp [q_sc]; omega))) (q_M_of hI hM (fun i _ h2 => e68 i (by omega))) (fun k hk => hs k (fun h => hk ?_)) (fun i h1 h2 => e68 i h2)
  rcases List.mem_cons.mp h with rfl | h
  · decide
  · exact List.mem_append.mpr (Or.inr h)
theorem q_qr {ρ : Type} {A B : k_Mem → Option (ρ × k_Mem)} (hA : ∀ τ im σ, q_R τ im σ → ∃ v σ1, A σ = some (v, σ1) ∧ k_Sm q_sc σ σ1 ∧ ∀ σ', q_R τ im σ' → ∃ σ2, B σ' = some (v, σ2) ∧ q_R τ im σ2) : q_Op A B := by
  intro σ h
  obtain ⟨τ, im, h⟩ := h
  obtain ⟨v, σ1, e1, e2, e3⟩ := hA τ im σ h
  obtain ⟨σ2, f1, f2⟩ := e3 σ1 (q_R_sc h e2)
  exact ⟨v, σ1, σ2, e1, f1, τ, im, f2⟩
section AL
variable {τ : k_TW}
theorem q_ul18 (hI : q_I τ) {a c : Nat} (ha : q_H τ a = true) (hc : q_H τ c = true) : q_ul τ a c ≤ 18 := by
  obtain ⟨-, a1, a2, -⟩ := hI.2.2.2.2.2.1 a ha
  obtain ⟨-, b1, b2, -⟩ := hI.2.2.2.2.2.1 c hc
  have := q_ab9 a1 b1
  have := q_ab9 a2 b2
  unfold q_ul; omega
theorem v_unlike {b a c : Nat} {σ : k_Mem} (hI : q_I τ) (hC : q_Cy b τ σ) (ha : q_H τ a = true) (hc : q_H τ c = true) : f_X5_unlike b (nI a) (nI c) σ = some (nI (q_ul τ a c), σ) := by
  have a8 := q_H8 hI ha
  have c8 := q_H8 hI hc
  obtain ⟨-, a1, a2, -⟩ := hI.2.2.2.2.2.1 a ha
  obtain ⟨-, b1, b2, -⟩ := hI.2.2.2.2.2.1 c hc
  unfold f_X5_unlike
  simp only [q_inT a8 (by omega : 8 < 2 ^ 31), q_inT c8 (by omega : 8 < 2 ^ 31), if_true, q_n (show a < 2 ^ 31 by omega), q_n (show c < 2 ^ 31 by omega)]
  rw [show σ (b + 2) a = nI (τ 1 a) from hC.1 0 a (by omega) ha, show σ (b + 2) c = nI (τ 1 c) from hC.1 0 c (by omega) hc, show σ (b + 3) a = nI (τ 2 a) from hC.1 1 a (by omega) ha, show σ (b + 3) c = nI (τ 2 c) from hC.1 1 c (by omega) hc, q_abs (by omega) (by omega), q_abs (by omega) (by omega), q_add]
  rfl
theorem w_unlike {a c : Nat} {σ : k_Mem} (hI : q_I τ) (hM : q_My τ σ) (ha : q_H τ a = true) (hc : q_H τ c = true) : f_X7_unlike (nI a) (nI c) σ = some (nI (q_ul τ a c), σ) := by
  have a8 := q_H8 hI ha
  have c8 := q_H8 hI hc
  obtain ⟨-, a1, a2, -⟩ := hI.2.2.2.2.2.1 a ha
  obtain ⟨-, b1, b2, -⟩ := hI.2.2.2.2.2.1 c hc
  unfold f_X7_unlike
  rw [show (8 : Int32) = nI 8 from rfl, show (16 : Int32) = nI 16 from rfl]
  simp only [q_add, q_inT (show 8 + a < 250 by omega) (by omega : 250 < 2 ^ 31), q_inT (show 8 + c < 250 by omega) (by omega : 250 < 2 ^ 31), q_inT (show 16 + a < 250 by omega) (by omega : 250 < 2 ^ 31), q_inT (show 16 + c < 250 by omega) (by omega : 250 < 2 ^ 31), if_true, q_n (show 8 + a < 2 ^ 31 by omega), q_n (show 8 + c < 2 ^ 31 by omega), q_n (show 16 + a < 2 ^ 31 by omega), q_n (show 16 + c < 2 ^ 31 by omega)]
  rw [show σ 68 (8 + a) = nI (τ 1 a) from hM.1 0 a (by omega) ha, show σ 68 (8 + c) = nI (τ 1 c) from hM.1 0 c (by omega) hc, w_far (by omega) (by omega), q_bd, show σ 68 (16 + a) = nI (τ 2 a) from hM.1 1 a (by omega) ha, show σ 68 (16 + c) = nI (τ 2 c) from hM.1 1 c (by omega) hc, w_far (by omega) (by omega), q_bd, q_add]
  rfl
/-- how unlike the left a and its spouse are -/
def q_us (τ : k_TW) (a : Nat) : Nat := match q_so τ a with
  | none => 0
  | some c => q_ul τ a c
theorem q_us18 (hI : q_I τ) {a : Nat} (ha : a < 8) : q_us τ a ≤ 18 := by
  unfold q_us
  cases h : q_so τ a with
  | none => exact Nat.zero_le _
  | some c => exact q_ul18 hI (q_so_in hI ha h).1 (q_so_in hI ha h).2.1
theorem v_couplesAlike {b : Nat} {σ : k_Mem} (hI : q_I τ) (hC : q_Cy b τ σ) : f_X5_couplesAlike b σ = some (q_b (decide (q_sm (q_us τ) 4 = 0)), σ) := by
  have key : ∀ (m a f : Nat), a + m = 4 → m < f → q_sm (q_us τ) a = 0 → l_X5_couplesAlike_2 b f (nI a) σ = some (q_b (decide (q_sm (q_us τ) 4 = 0)), σ) := by
    intro m
    induction m with
    | zero =>
      intro a f h1 h2 h3
      obtain ⟨f, rfl⟩ : ∃ g, f = g + 1 := ⟨f - 1, by omega⟩
      have : a = 4 := by omega
      subst this
      rw [l_X5_couplesAlike_2, if_pos (show (4 : Int32) ≤ nI 4 by decide), h3]; rfl
    | succ m ih =>
      intro a f h1 h2 h3
      obtain ⟨f, rfl⟩ : ∃ g, f = g + 1 := ⟨f - 1, by omega⟩
      rw [l_X5_couplesAlike_2, if_neg (show ¬ (4 : Int32) ≤ nI a from nI_ge (b := 4) (by omega) (by omega)), v_isWedy hI hC (by omega), q_bd]
      simp only [q_b0, j_X5_couplesAlike_31, show nI a + 1 = nI (a + 1) from nI_1 a]
      cases hs : q_so τ a with
      | none =>
        rw [if_pos (show (none : Option Nat).isSome = false from rfl)]
        exact ih (a + 1) f (by omega) (by omega) (by rw [q_sm, h3]; simp [q_us, hs])
      | some c =>
        obtain ⟨ha, hc, -⟩ := q_so_in hI (show a < 8 by omega) hs
        have h18 := q_ul18 hI ha hc
        rw [if_neg (by simp), q_inT (show a < 8 by omega) (by omega), if_pos rfl, q_n (by omega), hC.2 a (by omega), hs, show q_e1 (some c) = nI c from rfl, v_unlike hI hC ha hc, q_bd, show (0 : Int32) = nI 0 from rfl]
        simp (disch := omega) only [q_eq]
        have e : q_us τ a = q_ul τ a c := by simp [q_us, hs]
        by_cases h0 : q_ul τ a c = 0
        · rw [if_pos h0]
          exact ih (a + 1) f (by omega) (by omega) (by rw [q_sm, h3, e, h0])
        · rw [if_neg h0]
          have hle : ∀ n, q_sm (q_us τ) (a + 1) ≤ q_sm (q_us τ) (a + 1 + n) := fun n => by
            induction n with
            | zero => exact Nat.le_refl _
            | succ n ih => rw [← Nat.add_assoc, q_sm.eq_2 _ (a + 1 + n)]; omega
          have h4 := hle (4 - (a + 1))
          rw [show a + 1 + (4 - (a + 1)) = 4 by omega, q_sm, h3, e] at h4
          have hd : decide (q_sm (q_us τ) 4 = 0) = false := by
            rw [decide_eq_false_iff_not]
            intro hz
            omega
          rw [hd]; rfl
  exact key 4 0 1000 (by omega) (by omega) rfl
def q_y4 (τ : k_TW) : Nat → k_TW
  | 0 => τ
  | n + 1 => q_yn (q_y4 τ n) 4
theorem q_I_y4 (hI : q_I τ) : ∀ n, q_I (q_y4 τ n)
  | 0 => hI
  | n + 1 => q_I_yn (q_I_y4 hI n) 4 (by omega)
/-- after how many years all couples are alike -/
def q_lk0 (τ : k_TW) : Option Nat := q_fi (fun t => decide (q_sm (q_us (q_y4 τ t)) 4 = 0)) 0 21
theorem v_alike_l (hI : q_I τ) : ∀ (m t f : Nat) (σ : k_Mem), t + m = 21 → m < f → q_Cy 14 (q_y4 τ t) σ → ∃ σ1, l_X6_alike_13 f (nI t) σ = some (q_e4 (q_fi (fun t => decide (q_sm (q_us (q_y4 τ t)) 4 = 0)) t m), σ1) := by
  intro m
  induction m with
  | zero =>
    intro t f σ h1 h2 hC
    obtain ⟨f, rfl⟩ : ∃ g, f = g + 1 := ⟨f - 1, by omega⟩
    have : t = 21 := by omega
    subst this
    rw [l_X6_alike_13, if_pos (show (20 : Int32) < nI 21 by decide)]
    exact ⟨σ, rfl⟩
  | succ m ih =>
    intro t f σ h1 h2 hC
    obtain ⟨f, rfl⟩ : ∃ g, f = g + 1 := ⟨f - 1, by omega⟩
    have hIt := q_I_y4 hI t
    rw [l_X6_alike_13, if_neg (show ¬ (20 : Int32) < nI t from nI_nlt (a := 20) (by omega) (by omega)), v_couplesAlike hIt hC, q_bd]
    simp only [q_b0]
    cases hd : decide (q_sm (q_us (q_y4 τ t)) 4 = 0)
    · rw [if_pos rfl]
      obtain ⟨σ1, e1, e2, e3⟩ := v_passYear hIt hC
      rw [e1, q_bd, show nI t + 1 = nI (t + 1) from nI_1 t, q_fi_0 (p := fun t => decide (q_sm (q_us (q_y4 τ t)) 4 = 0)) hd]
      refine ih (t + 1) f _ (by omega) (by omega) ?_
      exact ⟨fun t' a ht' ha => by rw [q_ms_ne _ _ (by omega)]; exact e2.1 t' a ht' ha, fun a ha => by rw [q_ms_ne _ _ (by omega)]; exact e2.2 a ha⟩
    · rw [if_neg (by decide), q_fi_1 (p := fun t => decide (q_sm (q_us (q_y4 τ t)) 4 = 0)) hd]
      exact ⟨σ, rfl⟩
theorem w_alike_s (hI : q_I τ) {σ : k_Mem} (hM : q_My τ σ) (k13 : Int32 → Int32 → k_Mem → Option (Int32 × k_Mem)) (x2 : Int32) : ∀ (m a f : Nat), a + m = 4 → m < f → l_X7_alike_30 k13 f x2 (nI (q_sm (q_us τ) a)) (nI a) σ = if q_sm (q_us τ) 4 = 0 then j_X7_alike_88 k13 x2 x2 σ else j_X7_alike_88 k13 x2 (-4) σ := by
  have hb : q_sm (q_us τ) 4 ≤ 4 * 18 := q_sm_le (fun c hc => q_us18 hI (by omega))
  intro m
  induction m with
  | zero =>
    intro a f h1 h2
    obtain ⟨f, rfl⟩ : ∃ g, f = g + 1 := ⟨f - 1, by omega⟩
    have : a = 4 := by omega
    subst this
    rw [l_X7_alike_30, if_pos (show (4 : Int32) ≤ nI 4 by decide), show (0 : Int32) = nI 0 from rfl]
    simp (disch := omega) only [q_eq]
  | succ m ih =>
    intro a f h1 h2
    obtain ⟨f, rfl⟩ : ∃ g, f = g + 1 := ⟨f - 1, by omega⟩
    have hih := ih (a + 1) f (by omega) (by omega)
    have b5 := (hI.2.2.2.2.2.2.1 a (by omega)).1
    rw [l_X7_alike_30, if_neg (show ¬ (4 : Int32) ≤ nI a from nI_ge (b := 4) (by omega) (by omega)), show (45 : Int32) = nI 45 from rfl, q_add]
    simp only [q_inT (show 45 + a < 250 by omega) (by omega : 250 < 2 ^ 31), if_true, q_n (show 45 + a < 2 ^ 31 by omega), hM.2 a (by omega), j_X7_alike_70, show nI a + 1 = nI (a + 1) from nI_1 a]
    rw [← hih, q_sm]
    have z0 : (nI (τ 5 a - 1) = 0) = (τ 5 a - 1 = 0) := q_eq (b := 0) (by omega) (by omega)
    simp only [z0]
    cases hs : q_so τ a with
    | none =>
      have h0 : τ 5 a = 0 := by rw [q_so_n] at hs; exact hs
      rw [if_pos (by omega), show q_us τ a = 0 by simp [q_us, hs], show (0 : Int32) = nI 0 from rfl, q_add]
    | some c =>
      obtain ⟨ha, hc, hsd, -, c8⟩ := q_so_in hI (show a < 8 by omega) hs
      have h5 : τ 5 a = c + 1 := by rw [q_so_s] at hs; exact hs
      rw [if_neg (by omega), h5, Nat.add_sub_cancel, w_unlike hI hM ha hc, q_bd, q_add, show q_us τ a = q_ul τ a c by simp [q_us, hs]]
theorem w_alike_l (hI : q_I τ) : ∀ (m t f : Nat) (σ : k_Mem), t + m = 21 → m + 1 < f → q_My (q_y4 τ t) σ → ∃ σ1, l_X7_alike_13 f (-4) (nI t) σ = j_X7_alike_99 (q_e4 (q_fi (fun t => decide (q_sm (q_us (q_y4 τ t)) 4 = 0)) t m)) σ1 ∧ (∀ i, 50 ≤ i → σ1 68 i = σ 68 i) ∧ ∀ k, k ≠ 68 → σ1 k = σ k := by
  intro m
  induction m with
  | zero =>
    intro t f σ h1 h2 hM
    obtain ⟨f, rfl⟩ : ∃ g, f = g + 1 := ⟨f - 1, by omega⟩
    have : t = 21 := by omega
    subst this
    rw [l_X7_alike_13, if_pos (show (20 : Int32) < nI 21 by decide)]
    exact ⟨σ, rfl, fun _ _ => rfl, fun _ _ => rfl⟩
  | succ m ih =>
    intro t f σ h1 h2 hM
    obtain ⟨f, rfl⟩ : ∃ g, f = g + 1 := ⟨f - 1, by omega⟩
    have hIt := q_I_y4 hI t
    rw [l_X7_alike_13, if_neg (show ¬ (20 : Int32) < nI t from nI_nlt (a := 20) (by omega) (by omega)), if_pos rfl, show l_X7_alike_30 (fun x1 x2 σ => l_X7_alike_13 f x1 x2 σ) 1000 (nI t) 0 0 σ = _ from w_alike_s hIt hM (fun x1 x2 σ => l_X7_alike_13 f x1 x2 σ) (nI t) 4 0 1000 (by omega) (by omega)]
    obtain ⟨σ1, e1, e2, e3, e4⟩ := w_yearGoes hIt hM
    unfold j_X7_alike_88
    rw [e1, q_bd, q_bd, show nI t + 1 = nI (t + 1) from nI_1 t]
    have ev : ∀ i, 50 ≤ i → (k_mset σ1 68 49 (σ1 68 49 + 1)) 68 i = σ 68 i := fun i hi => by rw [q_ms, if_neg (by omega), e3 i (by omega)]
    have ek : ∀ k, k ≠ 68 → (k_mset σ1 68 49 (σ1 68 49 + 1)) k = σ k := fun k hk => by rw [q_ms_ne _ _ hk, e4 k hk]
    by_cases hd : q_sm (q_us (q_y4 τ t)) 4 = 0
    · rw [if_pos hd, q_fi_1 (p := fun t => decide (q_sm (q_us (q_y4 τ t)) 4 = 0)) (by simp [hd])]
      dsimp only
      obtain ⟨f', hf'⟩ : ∃ g, f = g + 1 := ⟨f - 1, by omega⟩
      rw [hf', l_X7_alike_13]
      refine ⟨_, ?_, ev, ek⟩
      by_cases h20 : (20 : Int32) < nI (t + 1)
      · rw [if_pos h20]; rfl
      · rw [if_neg h20, if_neg (by rw [q_m4 (by omega)]; exact id)]; rfl
    · rw [if_neg hd, q_fi_0 (p := fun t => decide (q_sm (q_us (q_y4 τ t)) 4 = 0)) (by simp [hd])]
      obtain ⟨σ2, f1, f2, f3⟩ := ih (t + 1) f (k_mset σ1 68 49 (σ1 68 49 + 1)) (by omega) (by omega) ⟨fun t' a ht' ha => by
        have ha : q_H (q_y4 τ t) a = true := by rw [← q_H_yn 4]; exact ha
        have := q_H8 hIt ha
        rw [q_ms, if_neg (by omega)]; exact e2.1 t' a ht' (by rw [q_H_yn]; exact ha), fun a ha => by rw [q_ms, if_neg (by omega)]; exact e2.2 a ha⟩
      exact ⟨σ2, f1, fun i hi => by rw [f2 i hi, ev i hi], fun k hk => by rw [f3 k hk, ek k hk]⟩
end AL
theorem o_alike : q_Op (fun σ => f_X6_alike σ) (fun σ => f_X7_alike σ) := q_qr (fun τ im σ h => by
  obtain ⟨hI, hC, hN, hM, -⟩ := h
  have fr6 := fr_f_X6_alike σ
  unfold f_X6_alike at fr6 ⊢
  unfold f_X7_alike
  obtain ⟨σ1, e1, e2, e3⟩ := v_become (b0 := 14) (b1 := 6) hI (by omega) hC
  rw [e1, q_bd] at fr6 ⊢
  obtain ⟨σ3, f1⟩ := v_alike_l hI 21 0 1000 σ1 (by omega) (by omega) (q_C_Cy e2)
  rw [show (0 : Int32) = nI 0 from rfl, f1] at fr6 ⊢
  refine ⟨_, σ3, rfl, k_Sm_mono (fr6 _ σ3 rfl) (by decide), fun σ' h' => ?_⟩
  obtain ⟨g1, g2, g3, g4⟩ := w_copies (p := 0) (q := 200) (by omega) (by omega) (by omega) σ'
  have hM' := h'.2.2.2.1
  rw [show (200 : Int32) = nI 200 from rfl, g2, q_bd]
  have hM1 : q_M 0 τ g1 := q_M_of hI hM' (fun i _ h2 => by rw [g3 i, if_neg (by omega)])
  obtain ⟨σ4, k1, k2, k3⟩ := w_alike_l hI 21 0 1000 g1 (by omega) (by omega) (q_M_My hM1)
  rw [k1]
  unfold j_X7_alike_99
  obtain ⟨σ5, m1, m2, m3⟩ := w_copies (p := 200) (q := 0) (by omega) (by omega) (by omega) σ4
  rw [show (200 : Int32) = nI 200 from rfl, show (0 : Int32) = nI 0 from rfl, m1, q_bd]
  refine ⟨σ5, rfl, q_R_68 h' (fun k hk => ?_) (fun i hi => ?_)⟩
  · have : k ≠ 68 := fun e => hk (by rw [e]; exact List.mem_cons_self)
    rw [m3 k this, k3 k this, g4 k this]
  · rw [m2 i]
    by_cases h50 : i < 50
    · rw [if_pos (by omega), k2 _ (by omega), g3, if_pos (by omega), show 0 + (200 + (i - 0) - 200) = i by omega]
    · rw [if_neg (by omega), k2 i (by omega), g3, if_neg (by omega)])
