/-! PURE: two pages that are changed -/
def q_sw (τ : k_TW) (a b : Nat) : k_TW := q_u2 τ 4 a (τ 4 b) b (τ 4 a)
def q_sl (τ : k_TW) : Nat := q_al τ (q_pa (q_can τ) (q_lk τ) 0)
def q_ws (τ : k_TW) (a b : Nat) (s : Nat × Option Nat) : Nat × Option Nat := if (q_H τ a && q_H τ b) = true then (if s.1 < q_sl (q_sw τ a b) then (q_sl (q_sw τ a b), some (10 * a + b)) else s) else s
section SW
variable {τ : k_TW}
theorem q_I_sw (hI : q_I τ) {a b : Nat} (ha : q_H τ a = true) (hb : q_H τ b = true) : q_I (q_sw τ a b) := by
  have h1 := (hI.2.2.2.2.2.1 a ha).2.2.2.2
  have h2 := (hI.2.2.2.2.2.1 b hb).2.2.2.2
  unfold q_sw q_u2
  exact q_I_up (q_I_up hI (by omega) ⟨by omega, by omega, by omega, by omega, fun _ => h2⟩) (by omega) ⟨by omega, by omega, by omega, by omega, fun _ => by rw [q_H_up (by omega)]; exact h1⟩
theorem q_sw_sw {a b : Nat} (h : a ≠ b) : q_sw (q_sw τ a b) a b = τ := by
  have e1 : q_sw τ a b 4 a = τ 4 b := q_u2_a h
  have e2 : q_sw τ a b 4 b = τ 4 a := q_u2_b
  funext t c
  unfold q_sw at e1 e2 ⊢
  by_cases ht : t = 4
  · subst ht
    by_cases hb : c = b
    · subst hb; rw [q_u2_b]; exact e1
    · by_cases ha : c = a
      · subst ha; rw [q_u2_a h]; exact e2
      · rw [q_u2_n ha hb, q_u2_n ha hb]
  · rw [q_u2_t ht, q_u2_t ht]
theorem q_slB (hI : q_I τ) : q_sl τ ≤ 8 * 23 := by
  refine q_sm_le (fun x hx => ?_)
  unfold q_ll
  cases hq : q_pa (q_can τ) (q_lk τ) 0 x with
  | none => exact Nat.zero_le _
  | some y =>
    have := (q_pa8 hI hq).2
    exact q_lk23 hI (q_can_H this).1 (q_can_H this).2.1
theorem q_wsB (hI : q_I τ) (a b : Nat) (s : Nat × Option Nat) (h : s.1 ≤ 184 ∧ ∀ c, s.2 = some c → c < 2 ^ 31) : (q_ws τ a b s).1 ≤ 184 ∧ ∀ c, (q_ws τ a b s).2 = some c → c < 2 ^ 31 := by
  unfold q_ws
  by_cases hh : (q_H τ a && q_H τ b) = true
  · rw [if_pos hh]
    simp only [Bool.and_eq_true] at hh
    have a8 := q_H8 hI hh.1
    have b8 := q_H8 hI hh.2
    by_cases h2 : s.1 < q_sl (q_sw τ a b)
    · rw [if_pos h2]
      refine ⟨q_slB (q_I_sw hI hh.1 hh.2), fun c e => ?_⟩
      have := Option.some.inj e; omega
    · rw [if_neg h2]; exact h
  · rw [if_neg hh]; exact h
theorem v_swapPens {a b : Nat} {σ : k_Mem} (hI : q_I τ) (ha : q_H τ a = true) (hb : q_H τ b = true) (hC : q_C 14 τ σ) : ∃ σ1, f_X5_swapPens 14 (nI a) (nI b) σ = some ((), σ1) ∧ q_C 14 (q_sw τ a b) σ1 ∧ ∀ k, k ≠ 19 → σ1 k = σ k := by
  have a8 := q_H8 hI ha
  have b8 := q_H8 hI hb
  unfold f_X5_swapPens
  simp only [q_inT a8 (by omega : 8 < 2 ^ 31), q_inT b8 (by omega : 8 < 2 ^ 31), if_true, q_n (show a < 2 ^ 31 by omega), q_n (show b < 2 ^ 31 by omega)]
  rw [show σ (14 + 5) a = nI (τ 4 a) from q_row hC (t := 4) (by omega) ha, show σ (14 + 5) b = nI (τ 4 b) from q_row hC (t := 4) (by omega) hb]
  refine ⟨_, rfl, ?_, fun k hk => by rw [q_ms_ne _ _ (by omega), q_ms_ne _ _ (by omega)]⟩
  exact q_C_up (v := τ 4 a) (a := b) (q_C_up (v := τ 4 b) (a := a) hC (show 4 < 5 by omega)) (show 4 < 5 by omega)
theorem v_sum {σ : k_Mem} (hI : q_I τ) (hC : q_C 14 τ σ) : ∃ σ1, f_X0_court 14 0 σ = some ((), σ1) ∧ q_C 14 τ σ1 ∧ (∀ σ2 : k_Mem, (∀ k, k ≠ 19 → σ2 k = σ1 k) → f_X0_allLikes σ2 = some (nI (q_sl τ), σ2)) ∧ k_Sm [46, 47, 48, 49, 50, 51, 52, 53] σ σ1 := by
  obtain ⟨σ1, e1, e2, e3, e4, e5⟩ := v_court (b := 14) (by omega) hI hC (s := 0) (by omega)
  have hMt := q_Mt_g (g := 0) hI (s := 0) (by omega)
  rw [q_cg0] at hMt
  refine ⟨σ1, e1, e2, fun σ2 h => ?_, e5⟩
  refine v_allLikes hI ?_ (fun x hx => by rw [h 52 (by decide)]; exact e4 x hx) hMt
  unfold q_W
  rw [h 46 (by decide), h 50 (by decide), h 51 (by decide)]; exact e3
theorem v_swap_i (hI : q_I τ) {x1 : Int32} {a : Nat} (ha : a < 8) (k48 : Int32 → Int32 → Int32 → Int32 → k_Mem → Option (Int32 × k_Mem)) : ∀ (m b f : Nat) (s : Nat × Option Nat) (σ : k_Mem), b + m = 8 → m < f → a < b → (s.1 ≤ 184 ∧ ∀ c, s.2 = some c → c < 2 ^ 31) → q_C 6 τ σ → q_C 14 τ σ → ∃ σ1, l_X6_swap_61 k48 f x1 (nI s.1) (q_e4 s.2) (nI a) (nI b) σ = k48 x1 (nI (q_ni (q_ws τ) a b m s).1) (q_e4 (q_ni (q_ws τ) a b m s).2) (nI (a + 1)) σ1 ∧ q_C 6 τ σ1 ∧ q_C 14 τ σ1 := by
  intro m
  induction m with
  | zero =>
    intro b f s σ h1 h2 hab hs hC hC2
    obtain ⟨f, rfl⟩ : ∃ g, f = g + 1 := ⟨f - 1, by omega⟩
    rw [l_X6_swap_61, show (8 : Int32) = nI 8 from rfl, if_pos (nI_le (by omega) (by omega)), show nI a + 1 = nI (a + 1) from nI_1 a]
    exact ⟨σ, rfl, hC, hC2⟩
  | succ m ih =>
    intro b f s σ h1 h2 hab hs hC hC2
    obtain ⟨f, rfl⟩ : ∃ g, f = g + 1 := ⟨f - 1, by omega⟩
    rw [l_X6_swap_61, show (8 : Int32) = nI 8 from rfl, if_neg (nI_ge (by omega) (by omega)), v_isHand hI hC (by omega), q_bd]
    simp only [q_b0, j_X6_swap_123, show nI b + 1 = nI (b + 1) from nI_1 b]
    rw [show q_ni (q_ws τ) a b (m + 1) s = q_ni (q_ws τ) a (b + 1) m (q_ws τ a b s) from rfl]
    have hih := fun σ' hc6 hc14 => ih (b + 1) f (q_ws τ a b s) σ' (by omega) (by omega) (by omega) (q_wsB hI a b s hs) hc6 hc14
    cases hA : q_H τ a
    · rw [if_pos rfl]
      rw [show q_ws τ a b s = s by simp [q_ws, hA]] at hih ⊢
      exact hih σ hC hC2
    · rw [if_neg (by decide), v_isHand hI hC (by omega), q_bd]
      simp only [q_b0]
      cases hB : q_H τ b
      · rw [if_pos rfl]
        rw [show q_ws τ a b s = s by simp [q_ws, hB]] at hih ⊢
        exact hih σ hC hC2
      · have hI1 := q_I_sw hI hA hB
        obtain ⟨σ1, e1, e2, e3⟩ := v_swapPens hI hA hB hC2
        obtain ⟨σ2, f1, f2, f3, f4⟩ := v_sum hI1 e2
        have hH1 : ∀ c, q_H (q_sw τ a b) c = q_H τ c := fun c => q_H_u2 (by omega) c
        obtain ⟨σ3, g1, g2, g3⟩ := v_swapPens (a := a) (b := b) hI1 (by rw [hH1]; exact hA) (by rw [hH1]; exact hB) f2
        rw [q_sw_sw (by omega)] at g2
        have hC3 : q_C 6 τ σ3 := q_C_sm hC (fun k k1 k2 => by rw [g3 k (by omega), f4 k (by simp; omega), e3 k (by omega)])
        have hlis : f_X6_likesIfSwapped (nI a) (nI b) σ = some (nI (q_sl (q_sw τ a b)), σ3) := by
          unfold f_X6_likesIfSwapped
          rw [e1, q_bd, f1, q_bd, g1, q_bd, f3 σ3 g3, q_bd]
        have h184 := q_slB hI1
        rw [if_neg (by decide), hlis, q_bd, show (10 : Int32) = nI 10 from rfl, q_mul, q_add]
        simp (disch := omega) only [q_le]
        by_cases hlt : s.1 < q_sl (q_sw τ a b)
        · rw [if_neg (by omega)]
          rw [show q_ws τ a b s = (q_sl (q_sw τ a b), some (10 * a + b)) by simp [q_ws, hA, hB, hlt]] at hih ⊢
          exact hih σ3 hC3 g2
        · rw [if_pos (by omega)]
          rw [show q_ws τ a b s = s by simp [q_ws, hA, hB, hlt]] at hih ⊢
          exact hih σ3 hC3 g2
/-- what swap answers -/
def q_wa (x : Int32) (s : Nat × Option Nat) : Int32 := match s.2 with
  | none => -4
  | some c => if x = 0 then nI c else nI s.1
theorem v_swap_o (hI : q_I τ) {x1 : Int32} : ∀ (m a f : Nat) (s : Nat × Option Nat) (σ : k_Mem), a + m = 8 → m < f → (s.1 ≤ 184 ∧ ∀ c, s.2 = some c → c < 2 ^ 31) → q_C 6 τ σ → q_C 14 τ σ → ∃ σ1, l_X6_swap_48 f x1 (nI s.1) (q_e4 s.2) (nI a) σ = some (q_wa x1 (q_nu (q_ws τ) a m s), σ1) := by
  intro m
  induction m with
  | zero =>
    intro a f s σ h1 h2 hs hC hC2
    obtain ⟨f, rfl⟩ : ∃ g, f = g + 1 := ⟨f - 1, by omega⟩
    rw [l_X6_swap_48, show (8 : Int32) = nI 8 from rfl, if_pos (nI_le (by omega) (by omega)), show q_nu (q_ws τ) a 0 s = s from rfl]
    refine ⟨σ, ?_⟩
    obtain ⟨s1, s2⟩ := s
    cases s2 with
    | none =>
      unfold q_wa
      by_cases h : x1 = 0
      · rw [if_pos h]; rfl
      · rw [if_neg h, if_pos (show q_e4 none = -4 from rfl)]; rfl
    | some c =>
      have hc := hs.2 c rfl
      unfold q_wa
      by_cases h : x1 = 0
      · rw [if_pos h]; simp only [if_pos h]; rfl
      · rw [if_neg h, if_neg (show ¬ q_e4 (some c) = -4 by show ¬ nI c = -4; rw [q_m4 hc]; exact id)]; simp only [if_neg h]
  | succ m ih =>
    intro a f s σ h1 h2 hs hC hC2
    obtain ⟨f, rfl⟩ : ∃ g, f = g + 1 := ⟨f - 1, by omega⟩
    obtain ⟨σ1, e1, e2, e3⟩ := v_swap_i hI (x1 := x1) (show a < 8 by omega) (fun x1 x2 x3 x4 σ => l_X6_swap_48 f x1 x2 x3 x4 σ) (7 - a) (a + 1) 1000 s σ (by omega) (by omega) (by omega) hs hC hC2
    rw [l_X6_swap_48, show (8 : Int32) = nI 8 from rfl, if_neg (nI_ge (by omega) (by omega)), show nI a + 1 = nI (a + 1) from nI_1 a, e1]
    exact ih (a + 1) f _ σ1 (by omega) (by omega) (q_ni_p (P := fun s => s.1 ≤ 184 ∧ ∀ c, s.2 = some c → c < 2 ^ 31) (q_wsB hI) (7 - a) (a + 1) s hs) e2 e3
theorem w_sum {σ : k_Mem} (hI : q_I τ) (hN : q_N τ σ) (hM : q_M 0 τ σ) : ∃ σ1, f_X7_askingNow 0 σ = some ((), σ1) ∧ (∀ σ2 : k_Mem, (∀ k, k ≠ 68 → σ2 k = σ1 k) → f_X7_likesInAll σ2 = some (nI (q_sl τ), σ2)) ∧ k_Sm [73, 74, 75] σ σ1 := by
  obtain ⟨σ1, e1, e2, e3, e4⟩ := w_askingNow hI hN hM (s := 0) (by omega)
  have hMt := q_Mt_g (g := 0) hI (s := 0) (by omega)
  rw [show q_pa (q_cg τ 0) (q_lk τ) 0 = q_pa (q_can τ) (q_lk τ) 0 by rw [q_cg0]] at hMt
  exact ⟨σ1, e1, fun σ2 h => w_likesInAll (fun a c ha hc => by rw [h 73 (by decide)]; exact e2 a c ha hc) (fun x hx => by rw [h 74 (by decide)]; exact e3 x hx) hMt, e4⟩
theorem w_swap_i (hI : q_I τ) {x1 : Int32} {a : Nat} (ha : a < 8) (k28 : Int32 → Int32 → Int32 → Int32 → k_Mem → Option (Int32 × k_Mem)) : ∀ (m b f : Nat) (s : Nat × Option Nat) (σ : k_Mem), b + m = 8 → m < f → a < b → (s.1 ≤ 184 ∧ ∀ c, s.2 = some c → c < 2 ^ 31) → q_N τ σ → q_M 0 τ σ → ∃ σ1, l_X7_swap_41 k28 f x1 (nI s.1) (q_e4 s.2) (nI a) (nI b) σ = k28 x1 (nI (q_ni (q_ws τ) a b m s).1) (q_e4 (q_ni (q_ws τ) a b m s).2) (nI (a + 1)) σ1 ∧ (∀ i, σ1 68 i = σ 68 i) ∧ k_Sm [68, 73, 74, 75] σ σ1 := by
  intro m
  induction m with
  | zero =>
    intro b f s σ h1 h2 hab hs hN hM
    obtain ⟨f, rfl⟩ : ∃ g, f = g + 1 := ⟨f - 1, by omega⟩
    rw [l_X7_swap_41, show (8 : Int32) = nI 8 from rfl, if_pos (nI_le (by omega) (by omega)), show nI a + 1 = nI (a + 1) from nI_1 a]
    exact ⟨σ, rfl, fun _ => rfl, sm_rf⟩
  | succ m ih =>
    intro b f s σ h1 h2 hab hs hN hM
    obtain ⟨f, rfl⟩ : ∃ g, f = g + 1 := ⟨f - 1, by omega⟩
    rw [l_X7_swap_41, show (8 : Int32) = nI 8 from rfl, if_neg (nI_ge (by omega) (by omega)), w_isHand hI hN (by omega), q_bd]
    simp only [q_b0, j_X7_swap_185, show nI b + 1 = nI (b + 1) from nI_1 b]
    rw [show q_ni (q_ws τ) a b (m + 1) s = q_ni (q_ws τ) a (b + 1) m (q_ws τ a b s) from rfl]
    have hih := fun σ' hN' hM' => ih (b + 1) f (q_ws τ a b s) σ' (by omega) (by omega) (by omega) (q_wsB hI a b s hs) hN' hM'
    cases hA : q_H τ a
    · rw [if_pos rfl]
      rw [show q_ws τ a b s = s by simp [q_ws, hA]] at hih ⊢
      exact hih σ hN hM
    · rw [if_neg (by decide), w_isHand hI hN (by omega), q_bd]
      simp only [q_b0]
      cases hB : q_H τ b
      · rw [if_pos rfl]
        rw [show q_ws τ a b s = s by simp [q_ws, hB]] at hih ⊢
        exact hih σ hN hM
      · have hI1 := q_I_sw hI hA hB
        have b8 := q_H8 hI hB
        have ea : σ 68 (32 + a) = nI (τ 4 a) - nI a := by have := (hM.1 a hA).2.2.2.2; rwa [show 0 + 32 + a = 32 + a by omega] at this
        have eb : σ 68 (32 + b) = nI (τ 4 b) - nI b := by have := (hM.1 b hB).2.2.2.2; rwa [show 0 + 32 + b = 32 + b by omega] at this
        have hIa : q_I (q_up τ 4 a (τ 4 b)) := q_I_up hI (by omega) ⟨by omega, by omega, by omega, by omega, fun _ => (hI.2.2.2.2.2.1 b hB).2.2.2.2⟩
        have hM1 : q_M 0 (q_sw τ a b) (k_mset (k_mset σ 68 (32 + a) (nI (τ 4 b) - nI a)) 68 (32 + b) (nI (τ 4 a) - nI b)) := by
          have h1 := q_M_pen (v := τ 4 b) (a := a) hI hM ha
          have h2 := q_M_pen (v := τ 4 a) (a := b) hIa h1 b8
          rw [show 0 + 32 + a = 32 + a by omega, show 0 + 32 + b = 32 + b by omega] at h2
          exact h2
        have hN1 : q_N (q_sw τ a b) (k_mset (k_mset σ 68 (32 + a) (nI (τ 4 b) - nI a)) 68 (32 + b) (nI (τ 4 a) - nI b)) := by
          unfold q_N
          rw [show q_sw τ a b 7 0 = τ 7 0 from q_u2_t (by omega), show q_sw τ a b 7 1 = τ 7 1 from q_u2_t (by omega), q_ms_ne _ _ (by omega), q_ms_ne _ _ (by omega)]; exact hN
        obtain ⟨σ1, e1, e2, e3⟩ := w_sum hI1 hN1 hM1
        have hfin : ∀ i, (k_mset (k_mset σ1 68 (32 + a) (nI (τ 4 a) - nI a)) 68 (32 + b) (nI (τ 4 b) - nI b)) 68 i = σ 68 i := fun i => by
          rw [q_ms, q_ms]
          by_cases i1 : i = 32 + b
          · rw [if_pos ⟨rfl, i1⟩, i1, eb]
          · rw [if_neg (fun h => i1 h.2)]
            by_cases i2 : i = 32 + a
            · rw [if_pos ⟨rfl, i2⟩, i2, ea]
            · rw [if_neg (fun h => i2 h.2), e3 68 (by decide), q_ms, if_neg (fun h => i1 h.2), q_ms, if_neg (fun h => i2 h.2)]
        have hsm : k_Sm [68, 73, 74, 75] σ (k_mset (k_mset σ1 68 (32 + a) (nI (τ 4 a) - nI a)) 68 (32 + b) (nI (τ 4 b) - nI b)) := fun k hk => by
          simp only [List.mem_cons, List.not_mem_nil, or_false, not_or] at hk
          rw [q_ms_ne _ _ hk.1, q_ms_ne _ _ hk.1, e3 k (by simp; exact ⟨hk.2.1, hk.2.2⟩), q_ms_ne _ _ hk.1, q_ms_ne _ _ hk.1]
        have h184 := q_slB hI1
        rw [if_neg (by decide), w_penOf hI hM hA, q_bd, w_penOf hI hM hB, q_bd, show (32 : Int32) = nI 32 from rfl, q_add, q_add]
        simp only [q_inT (show 32 + a < 250 by omega) (by omega : 250 < 2 ^ 31), q_inT (show 32 + b < 250 by omega) (by omega : 250 < 2 ^ 31), if_true, q_n (show 32 + a < 2 ^ 31 by omega), q_n (show 32 + b < 2 ^ 31 by omega)]
        rw [e1, q_bd, e2 _ (fun k hk => by rw [q_ms_ne _ _ hk, q_ms_ne _ _ hk]), q_bd, show (10 : Int32) = nI 10 from rfl, q_mul, q_add]
        simp only [j_X7_swap_171, j_X7_swap_184, j_X7_swap_185, show nI b + 1 = nI (b + 1) from nI_1 b]
        generalize hσ : k_mset (k_mset σ1 68 (32 + a) (nI (τ 4 a) - nI a)) 68 (32 + b) (nI (τ 4 b) - nI b) = σ3 at hfin hsm ⊢
        have hN3 : q_N τ σ3 := q_N_sm hN (hsm 67 (by decide))
        have hM3 : q_M 0 τ σ3 := q_M_of hI hM (fun i _ _ => hfin i)
        simp (disch := omega) only [q_le]
        by_cases hlt : s.1 < q_sl (q_sw τ a b)
        · have hn : ¬ q_sl (q_sw τ a b) ≤ s.1 := by omega
          rw [if_neg hn, if_neg hn]
          rw [show q_ws τ a b s = (q_sl (q_sw τ a b), some (10 * a + b)) by simp [q_ws, hA, hB, hlt]] at hih ⊢
          obtain ⟨σ4, g1, g2, g3⟩ := hih σ3 hN3 hM3
          exact ⟨σ4, g1, fun i => by rw [g2 i, hfin i], k_Sm_tr hsm g3⟩
        · have hn : q_sl (q_sw τ a b) ≤ s.1 := by omega
          rw [if_pos hn, if_pos hn]
          rw [show q_ws τ a b s = s by simp [q_ws, hA, hB, hlt]] at hih ⊢
          obtain ⟨σ4, g1, g2, g3⟩ := hih σ3 hN3 hM3
          exact ⟨σ4, g1, fun i => by rw [g2 i, hfin i], k_Sm_tr hsm g3⟩
theorem w_swap_o (hI : q_I τ) {x1 : Int32} : ∀ (m a f : Nat) (s : Nat × Option Nat) (σ : k_Mem), a + m = 8 → m < f → (s.1 ≤ 184 ∧ ∀ c, s.2 = some c → c < 2 ^ 31) → q_N τ σ → q_M 0 τ σ → ∃ σ1, l_X7_swap_28 f x1 (nI s.1) (q_e4 s.2) (nI a) σ = some (q_wa x1 (q_nu (q_ws τ) a m s), σ1) ∧ (∀ i, σ1 68 i = σ 68 i) ∧ k_Sm [68, 73, 74, 75] σ σ1 := by
  intro m
  induction m with
  | zero =>
    intro a f s σ h1 h2 hs hN hM
    obtain ⟨f, rfl⟩ : ∃ g, f = g + 1 := ⟨f - 1, by omega⟩
    rw [l_X7_swap_28, show (8 : Int32) = nI 8 from rfl, if_pos (nI_le (by omega) (by omega)), show q_nu (q_ws τ) a 0 s = s from rfl]
    refine ⟨σ, ?_, fun _ => rfl, sm_rf⟩
    obtain ⟨s1, s2⟩ := s
    cases s2 with
    | none =>
      unfold q_wa
      rw [if_pos (show q_e4 none = -4 from rfl)]; rfl
    | some c =>
      have hc := hs.2 c rfl
      unfold q_wa
      rw [if_neg (show ¬ q_e4 (some c) = -4 by show ¬ nI c = -4; rw [q_m4 hc]; exact id)]
      by_cases h : x1 = 0
      · rw [if_pos h]; simp only [if_pos h]; rfl
      · rw [if_neg h]; simp only [if_neg h]
  | succ m ih =>
    intro a f s σ h1 h2 hs hN hM
    obtain ⟨f, rfl⟩ : ∃ g, f = g + 1 := ⟨f - 1, by omega⟩
    obtain ⟨σ1, e1, e2, e3⟩ := w_swap_i hI (x1 := x1) (show a < 8 by omega) (fun x1 x2 x3 x4 σ => l_X7_swap_28 f x1 x2 x3 x4 σ) (7 - a) (a + 1) 1000 s σ (by omega) (by omega) (by omega) hs hN hM
    rw [l_X7_swap_28, show (8 : Int32) = nI 8 from rfl, if_neg (nI_ge (by omega) (by omega)), show nI a + 1 = nI (a + 1) from nI_1 a, e1]
    obtain ⟨σ2, f1, f2, f3⟩ := ih (a + 1) f _ σ1 (by omega) (by omega) (q_ni_p (P := fun s => s.1 ≤ 184 ∧ ∀ c, s.2 = some c → c < 2 ^ 31) (q_wsB hI) (7 - a) (a + 1) s hs) (q_N_sm hN (e3 67 (by decide))) (q_M_of hI hM (fun i _ _ => e2 i))
    exact ⟨σ2, f1, fun i => by rw [f2 i, e2 i], k_Sm_tr e3 f3⟩
end SW
theorem o_swap (x : Int32) : q_Op (fun σ => f_X6_swap x σ) (fun σ => f_X7_swap x σ) := q_qr (fun τ im σ h => by
  obtain ⟨hI, hC, hN, hM, -⟩ := h
  have fr6 := fr_f_X6_swap x σ
  unfold f_X6_swap at fr6 ⊢
  unfold f_X7_swap
  rw [q_gd] at fr6 ⊢
  by_cases hx : 0 ≤ x ∧ x ≤ nI 1
  · obtain ⟨σ1, e1, e2, e3⟩ := v_become (b0 := 14) (b1 := 6) hI (by omega) hC
    obtain ⟨σ2, f1, f2, f3, f4⟩ := v_sum hI e2
    have hC2 : q_C 6 τ σ2 := q_C_sm hC (fun k k1 k2 => by rw [f4 k (by simp; omega), e3 k (by simp; omega)])
    have h184 := q_slB hI
    obtain ⟨σ3, g1⟩ := v_swap_o (x1 := x) hI 8 0 1000 (q_sl τ, none) σ2 (by omega) (by omega) ⟨h184, fun c h => by cases h⟩ hC2 f2
    rw [show q_e4 (q_sl τ, (none : Option Nat)).2 = -4 from rfl, show nI 0 = 0 from rfl] at g1
    rw [if_pos (show 0 ≤ x ∧ x ≤ 1 from hx), e1, q_bd, f1, q_bd, f3 σ2 (fun _ _ => rfl), q_bd, g1] at fr6 ⊢
    refine ⟨_, σ3, rfl, k_Sm_mono (fr6 _ σ3 rfl) (by decide), fun σ' h' => ?_⟩
    have hR' := h'
    obtain ⟨-, hC', hN', hM', -⟩ := h'
    obtain ⟨σ4, k1, k2, k3⟩ := w_sum hI hN' hM'
    obtain ⟨σ5, m1, m2, m3⟩ := w_swap_o (x1 := x) hI 8 0 1000 (q_sl τ, none) σ4 (by omega) (by omega) ⟨h184, fun c h => by cases h⟩ (q_N_sm hN' (k3 67 (by decide))) (q_M_sm hM' (k3 68 (by decide)))
    rw [show q_e4 (q_sl τ, (none : Option Nat)).2 = -4 from rfl, show nI 0 = 0 from rfl] at m1
    rw [w_in x 1 (by omega) 1 (by decide), q_bd, if_pos hx, if_neg q_10, k1, q_bd, k2 σ4 (fun _ _ => rfl), q_bd, m1]
    refine ⟨σ5, rfl, q_R_68 hR' (fun k hk => ?_) (fun i hi => by rw [m2 i, k3 68 (by decide)])⟩
    rw [m3 k (fun h => hk (by
      simp only [List.mem_cons, List.not_mem_nil, or_false] at h
      rcases h with rfl | rfl | rfl | rfl <;> decide)), k3 k (fun h => hk (by
      simp only [List.mem_cons, List.not_mem_nil, or_false] at h
      rcases h with rfl | rfl | rfl <;> decide))]
  · rw [if_neg (show ¬ (0 ≤ x ∧ x ≤ 1) from hx)] at fr6 ⊢
    refine ⟨_, _, rfl, sm_rf, fun σ' h' => ?_⟩
    rw [w_in x 1 (by omega) 1 (by decide), q_bd, if_neg hx, if_pos rfl]
    exact ⟨_, rfl, h'⟩)
