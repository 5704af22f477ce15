/-! PURE: weigh -/
theorem v_fill_l {o n : Nat} {v : Int32} (hn : n < 900) : ∀ (m i f : Nat) (σ : k_Mem), i + m = n → m < f → ∃ σ1, l_J7_fill_53178_5 o n f v (nI i) (nI n) σ = some ((), σ1) ∧ (∀ j, i ≤ j → j < n → σ1 o j = v) ∧ (∀ j, j < i → σ1 o j = σ o j) ∧ ∀ k, k ≠ o → σ1 k = σ k := by
  intro m
  induction m with
  | zero =>
    intro i f σ h1 h2
    obtain ⟨f, rfl⟩ : ∃ g, f = g + 1 := ⟨f - 1, by omega⟩
    rw [l_J7_fill_53178_5]
    have hi : i = n := by omega
    subst hi
    rw [if_pos (nI_le (Nat.le_refl _) (by omega))]
    exact ⟨σ, rfl, fun j h1 h2 => absurd h2 (by omega), fun j _ => rfl, fun k _ => rfl⟩
  | succ m ih =>
    intro i f σ h1 h2
    obtain ⟨f, rfl⟩ : ∃ g, f = g + 1 := ⟨f - 1, by omega⟩
    rw [l_J7_fill_53178_5]
    simp (disch := omega) only [q_le, q_inT, eq_self, if_true, q_n]
    rw [if_neg (by omega), show nI i + 1 = nI (i + 1) from nI_1 i]
    obtain ⟨σ1, e1, e2, e3, e4⟩ := ih (i + 1) f (k_mset σ o i v) (by omega) (by omega)
    refine ⟨σ1, e1, fun j g1 g2 => ?_, fun j g1 => ?_, fun k hk => by rw [e4 k hk, q_ms_ne _ _ hk]⟩
    · by_cases c : j = i
      · subst c
        rw [e3 j (by omega), q_ms, if_pos ⟨rfl, rfl⟩]
      · exact e2 j (by omega) g2
    · rw [e3 j (by omega), q_ms, if_neg (by omega)]
theorem v_fill {o n : Nat} (v : Int32) (σ : k_Mem) (hn : n < 900) : ∃ σ1, f_J7_fill_53178 o n v σ = some ((), σ1) ∧ (∀ j, j < n → σ1 o j = v) ∧ ∀ k, k ≠ o → σ1 k = σ k := by
  obtain ⟨σ1, e1, e2, -, e4⟩ := v_fill_l (o := o) (v := v) hn n 0 1000 σ (by omega) (by omega)
  exact ⟨σ1, e1, fun j hj => e2 j (by omega) hj, e4⟩
def q_hb (τ : k_TW) : Nat := 2 ^ τ 7 0 - 1 + 16 * (2 ^ τ 7 1 - 1)
theorem q_hbl : ∀ l, l < 5 → ∀ r, r < 5 → (((k_shl 1 (nI l)) - 1) ||| (k_shl ((k_shl 1 (nI r)) - 1) 4)) = nI (2 ^ l - 1 + 16 * (2 ^ r - 1)) := by decide +kernel
theorem q_hbt {τ : k_TW} (hI : q_I τ) {a : Nat} (ha : a < 8) : (q_hb τ).testBit a = q_H τ a := by
  have h : ∀ l, l < 5 → ∀ r, r < 5 → ∀ a, a < 8 → (2 ^ l - 1 + 16 * (2 ^ r - 1)).testBit a = (decide (a < 4 ∧ a < l) || decide (4 ≤ a ∧ a < 4 + r)) := by decide +kernel
  exact h _ (by have := hI.1; omega) _ (by have := hI.2.1; omega) a ha
theorem q_hb256 {τ : k_TW} (hI : q_I τ) : q_hb τ < 256 := by
  have h : ∀ l, l < 5 → ∀ r, r < 5 → 2 ^ l - 1 + 16 * (2 ^ r - 1) < 256 := by decide +kernel
  exact h _ (by have := hI.1; omega) _ (by have := hI.2.1; omega)
theorem v_handBits {b : Nat} {τ : k_TW} {σ : k_Mem} (hI : q_I τ) (hC : q_C b τ σ) : f_X5_handBits b σ = some (nI (q_hb τ), σ) := by
  unfold f_X5_handBits
  rw [hC.1, hC.2.1, q_hbl _ (by have := hI.1; omega) _ (by have := hI.2.1; omega)]
  rfl
/-- the class's tables are those of τ -/
def q_W (τ : k_TW) (σ : k_Mem) : Prop := σ 46 8 = nI (q_hb τ) ∧ (∀ a c, q_H τ a = true → q_H τ c = true → a / 4 ≠ c / 4 → σ 50 (a * 8 + c) = nI (q_lk τ a c)) ∧ ∀ a c, a < 8 → c < 8 → σ 51 (a * 8 + c) = q_wi τ a c
section WG
variable {b : Nat} {τ : k_TW}
theorem v_weighOne {σ : k_Mem} (hb : b ≤ 38) (hI : q_I τ) (hC : q_C b τ σ) {a c : Nat} (ha : q_H τ a = true) (hc : q_H τ c = true) (hs : a / 4 ≠ c / 4) (h0 : σ 47 c = nI (q_sh τ c 0)) (h1 : σ 48 c = nI (q_sh τ c 1)) (h2 : σ 49 c = nI (q_sh τ c 2)) (hw : σ 51 (a * 8 + c) = -2) :
    ∃ σ1, f_X0_weighOne b (nI a) (nI c) σ = some ((), σ1) ∧ σ1 50 (a * 8 + c) = nI (q_lk τ a c) ∧ σ1 51 (a * 8 + c) = q_wi τ a c ∧ (∀ i, i ≠ a * 8 + c → σ1 50 i = σ 50 i ∧ σ1 51 i = σ 51 i) ∧ ∀ k, k ≠ 50 → k ≠ 51 → σ1 k = σ k := by
  have a8 := q_H8 hI ha
  have c8 := q_H8 hI hc
  have l23 := q_lk23 hI ha hc
  have e1 := v_likingIn hI hC ha hc h0 h1 h2
  have hC2 : q_C b τ (k_mset σ 50 (a * 8 + c) (nI (q_lk τ a c))) := q_C_sm hC (fun k _ hk => q_ms_ne _ _ (by omega))
  have e2 := v_areFolded hI hC2 (a := a) (c := c) a8 (by omega)
  unfold f_X0_weighOne
  rw [e1, q_bd]
  simp only [show (8 : Int32) = nI 8 from rfl, q_mul, q_add]
  simp (disch := omega) only [q_inT, eq_self, if_true, q_n, e2, q_bd, q_b0]
  cases hf : (τ 6 a).testBit c
  · have hcan : q_can τ a c = true := by simp [q_can, ha, hc, hs, hf]
    simp (disch := omega) only [q_inT, eq_self, if_true, q_n]
    refine ⟨_, rfl, ?_, ?_, fun i hi => ⟨?_, ?_⟩, fun k k1 k2 => ?_⟩
    · rw [q_ms_ne _ _ (by decide), q_ms, if_pos ⟨rfl, rfl⟩]
    · rw [q_ms, if_pos ⟨rfl, rfl⟩, q_ms, if_pos ⟨rfl, rfl⟩]
      simp only [q_wi, hcan, if_true]
      rw [q_mul, q_add, show (1 : Int32) = nI 1 from rfl, q_sub (by omega), q_sub (by omega)]
      congr 1
    · rw [q_ms_ne _ _ (by decide), q_ms, if_neg (by omega)]
    · rw [q_ms, if_neg (by omega), q_ms_ne _ _ (by decide)]
    · rw [q_ms_ne _ _ k2, q_ms_ne _ _ k1]
  · have hcan : q_can τ a c = false := by simp [q_can, hf]
    refine ⟨_, rfl, ?_, ?_, fun i hi => ⟨?_, ?_⟩, fun k k1 k2 => ?_⟩
    · rw [q_ms, if_pos ⟨rfl, rfl⟩]
    · rw [q_ms_ne _ _ (by decide), hw]; simp [q_wi, hcan]
    · rw [q_ms, if_neg (by omega)]
    · rw [q_ms_ne _ _ (by decide)]
    · rw [q_ms_ne _ _ k1]
/-- which pairs are through at the left i and the right j -/
def q_pr (i j a c : Nat) : Prop := (a < 4 ∧ 4 ≤ c ∧ (a < i ∨ (a = i ∧ c < j))) ∨ (c < 4 ∧ 4 ≤ a ∧ (c < i ∨ (c = i ∧ a < j)))
/-- the state of the second loops -/
def q_J (b : Nat) (τ : k_TW) (i j : Nat) (σ : k_Mem) : Prop := q_C b τ σ ∧ σ 46 8 = nI (q_hb τ) ∧ (∀ c, q_H τ c = true → σ 47 c = nI (q_sh τ c 0) ∧ σ 48 c = nI (q_sh τ c 1) ∧ σ 49 c = nI (q_sh τ c 2)) ∧
  (∀ a c, q_H τ a = true → q_H τ c = true → q_pr i j a c → σ 50 (a * 8 + c) = nI (q_lk τ a c) ∧ σ 51 (a * 8 + c) = q_wi τ a c) ∧ ∀ a c, a < 8 → c < 8 → ¬ (q_H τ a = true ∧ q_H τ c = true ∧ q_pr i j a c) → σ 51 (a * 8 + c) = -2
theorem v_weigh_in (hb : b ≤ 38) (hI : q_I τ) {i : Nat} (hi : q_H τ i = true) (hi4 : i < 4) {k77 : Int32 → k_Mem → Option (Unit × k_Mem)} : ∀ (m j f : Nat) (σ : k_Mem), j + m = 4 + τ 7 1 → 4 ≤ j → m < f → q_J b τ i j σ → ∃ σ1, l_X0_weigh_87 b k77 f (nI i) (nI j) σ = k77 (nI (i + 1)) σ1 ∧ q_J b τ i (4 + τ 7 1) σ1 := by
  have hl := hI.1
  have hr := hI.2.1
  intro m
  induction m with
  | zero =>
    intro j f σ h1 h2 h3 hJ
    obtain ⟨f, rfl⟩ : ∃ g, f = g + 1 := ⟨f - 1, by omega⟩
    have hj : j = 4 + τ 7 1 := by omega
    subst hj
    rw [l_X0_weigh_87, hJ.1.2.1, show (4 : Int32) = nI 4 from rfl, q_add, if_pos (nI_le (Nat.le_refl _) (by omega)), show nI i + 1 = nI (i + 1) from nI_1 i]
    exact ⟨σ, rfl, hJ⟩
  | succ m ih =>
    intro j f σ h1 h2 h3 hJ
    obtain ⟨f, rfl⟩ : ∃ g, f = g + 1 := ⟨f - 1, by omega⟩
    obtain ⟨hC, hh, hsh, hd, hu⟩ := hJ
    have hjH : q_H τ j = true := by rw [q_Hb]; omega
    have i8 := q_H8 hI hi
    have j8 := q_H8 hI hjH
    rw [l_X0_weigh_87, hC.2.1, show (4 : Int32) = nI 4 from rfl, q_add, if_neg (nI_ge (by omega) (by omega))]
    obtain ⟨σ1, e1, f1, f2, f3, f4⟩ := v_weighOne hb hI hC hi hjH (by omega) (hsh j hjH).1 (hsh j hjH).2.1 (hsh j hjH).2.2 (hu i j i8 j8 (fun h => by have := h.2.2; unfold q_pr at this; omega))
    rw [e1, q_bd]
    have hC1 : q_C b τ σ1 := q_C_sm hC (fun k _ hk => f4 k (by omega) (by omega))
    obtain ⟨s1, s2, s3⟩ := hsh i hi
    obtain ⟨σ2, e2, g1, g2, g3, g4⟩ := v_weighOne hb hI hC1 hjH hi (by omega) (by rw [f4 47 (by decide) (by decide)]; exact s1) (by rw [f4 48 (by decide) (by decide)]; exact s2) (by rw [f4 49 (by decide) (by decide)]; exact s3) (by rw [(f3 (j * 8 + i) (by omega)).2]; exact hu j i j8 i8 (fun h => by have := h.2.2; unfold q_pr at this; omega))
    rw [e2, q_bd, show nI j + 1 = nI (j + 1) from nI_1 j]
    refine ih (j + 1) f σ2 (by omega) (by omega) (by omega) ⟨q_C_sm hC1 (fun k _ hk => g4 k (by omega) (by omega)), ?_, ?_, ?_, ?_⟩
    · rw [g4 46 (by decide) (by decide), f4 46 (by decide) (by decide)]; exact hh
    · intro c hc
      rw [g4 47 (by decide) (by decide), f4 47 (by decide) (by decide), g4 48 (by decide) (by decide), f4 48 (by decide) (by decide), g4 49 (by decide) (by decide), f4 49 (by decide) (by decide)]
      exact hsh c hc
    · intro a c ha hc hp
      have a8 := q_H8 hI ha
      have c8 := q_H8 hI hc
      by_cases c1 : a = j ∧ c = i
      · obtain ⟨rfl, rfl⟩ := c1
        exact ⟨g1, g2⟩
      · rw [(g3 (a * 8 + c) (by omega)).1, (g3 (a * 8 + c) (by omega)).2]
        by_cases c2 : a = i ∧ c = j
        · obtain ⟨rfl, rfl⟩ := c2
          exact ⟨f1, f2⟩
        · rw [(f3 (a * 8 + c) (by omega)).1, (f3 (a * 8 + c) (by omega)).2]
          exact hd a c ha hc (by unfold q_pr at hp ⊢; omega)
    · intro a c a8 c8 hn
      have n1 : ¬ (a = j ∧ c = i) := fun h => hn (by obtain ⟨rfl, rfl⟩ := h; exact ⟨hjH, hi, by unfold q_pr; omega⟩)
      have n2 : ¬ (a = i ∧ c = j) := fun h => hn (by obtain ⟨rfl, rfl⟩ := h; exact ⟨hi, hjH, by unfold q_pr; omega⟩)
      rw [(g3 (a * 8 + c) (by omega)).2, (f3 (a * 8 + c) (by omega)).2]
      exact hu a c a8 c8 (fun h => hn ⟨h.1, h.2.1, by have := h.2.2; unfold q_pr at this ⊢; omega⟩)
theorem v_weigh_out (hb : b ≤ 38) (hI : q_I τ) : ∀ (m i f : Nat) (σ : k_Mem), i + m = τ 7 0 → m < f → q_J b τ i 4 σ → ∃ σ1, l_X0_weigh_77 b f (nI i) σ = some ((), σ1) ∧ q_J b τ (τ 7 0) 4 σ1 := by
  have hl := hI.1
  have hr := hI.2.1
  intro m
  induction m with
  | zero =>
    intro i f σ h1 h2 hJ
    obtain ⟨f, rfl⟩ : ∃ g, f = g + 1 := ⟨f - 1, by omega⟩
    have hi : i = τ 7 0 := by omega
    rw [l_X0_weigh_77, hJ.1.1, if_pos (nI_le (by omega) (by omega))]
    exact ⟨σ, rfl, hi ▸ hJ⟩
  | succ m ih =>
    intro i f σ h1 h2 hJ
    obtain ⟨f, rfl⟩ : ∃ g, f = g + 1 := ⟨f - 1, by omega⟩
    have hiH : q_H τ i = true := by rw [q_Hb]; omega
    rw [l_X0_weigh_77, hJ.1.1, if_neg (nI_ge (by omega) (by omega))]
    obtain ⟨σ1, e1, e2⟩ := v_weigh_in hb hI hiH (by omega) (k77 := fun x2 σ => l_X0_weigh_77 b f x2 σ) (τ 7 1) 4 1000 σ (by omega) (by omega) (by omega) hJ
    rw [show (4 : Int32) = nI 4 from rfl, e1]
    refine ih (i + 1) f σ1 (by omega) (by omega) ?_
    obtain ⟨hC, hh, hsh, hd, hu⟩ := e2
    refine ⟨hC, hh, hsh, fun a c ha hc hp => hd a c ha hc ?_, fun a c a8 c8 hn => hu a c a8 c8 (fun h => hn ⟨h.1, h.2.1, ?_⟩)⟩
    · rw [q_Hb] at ha hc
      unfold q_pr at hp ⊢
      omega
    · have := h.2.2
      unfold q_pr at this ⊢
      omega
theorem v_weigh_sh (hb : b ≤ 38) (hI : q_I τ) : ∀ (m i f : Nat) (σ : k_Mem), i + m = 8 → m < f → q_C b τ σ → (∀ c, c < i → q_H τ c = true → σ 47 c = nI (q_sh τ c 0) ∧ σ 48 c = nI (q_sh τ c 1) ∧ σ 49 c = nI (q_sh τ c 2)) → ∃ σ1, l_X0_weigh_19 b f (nI i) σ = l_X0_weigh_77 b 1000 0 σ1 ∧ q_C b τ σ1 ∧ (∀ c, q_H τ c = true → σ1 47 c = nI (q_sh τ c 0) ∧ σ1 48 c = nI (q_sh τ c 1) ∧ σ1 49 c = nI (q_sh τ c 2)) ∧ ∀ k, k ≠ 47 → k ≠ 48 → k ≠ 49 → σ1 k = σ k := by
  intro m
  induction m with
  | zero =>
    intro i f σ h1 h2 hC hs
    obtain ⟨f, rfl⟩ : ∃ g, f = g + 1 := ⟨f - 1, by omega⟩
    rw [l_X0_weigh_19, show (8 : Int32) = nI 8 from rfl, if_pos (nI_le (by omega) (by omega))]
    exact ⟨σ, rfl, hC, fun c hc => hs c (by have := q_H8 hI hc; omega) hc, fun _ _ _ _ => rfl⟩
  | succ m ih =>
    intro i f σ h1 h2 hC hs
    obtain ⟨f, rfl⟩ : ∃ g, f = g + 1 := ⟨f - 1, by omega⟩
    rw [l_X0_weigh_19, show (8 : Int32) = nI 8 from rfl, if_neg (nI_ge (by omega) (by omega)), v_isHand hI hC (by omega), q_bd]
    simp only [q_b0, j_X0_weigh_69, show nI i + 1 = nI (i + 1) from nI_1 i]
    cases hH : q_H τ i
    · rw [if_pos rfl]
      exact ih (i + 1) f σ (by omega) (by omega) hC (fun c h3 h4 => by
        by_cases c1 : c = i
        · subst c1; rw [hH] at h4; cases h4
        · exact hs c (by omega) h4)
    · rw [if_neg (by decide), show (0 : Int32) = nI 0 from rfl, v_shows hI hC hH (by omega), q_bd]
      have hC1 : q_C b τ (k_mset σ 47 i (nI (q_sh τ i 0))) := q_C_sm hC (fun k _ hk => q_ms_ne _ _ (by omega))
      have hC2 : q_C b τ (k_mset (k_mset σ 47 i (nI (q_sh τ i 0))) 48 i (nI (q_sh τ i 1))) := q_C_sm hC1 (fun k _ hk => q_ms_ne _ _ (by omega))
      have hC3 : q_C b τ (k_mset (k_mset (k_mset σ 47 i (nI (q_sh τ i 0))) 48 i (nI (q_sh τ i 1))) 49 i (nI (q_sh τ i 2))) := q_C_sm hC2 (fun k _ hk => q_ms_ne _ _ (by omega))
      simp (disch := omega) only [q_inT, eq_self, if_true, q_n]
      rw [show (1 : Int32) = nI 1 from rfl, v_shows hI hC1 hH (by omega), q_bd]
      try simp (disch := omega) only [q_inT, eq_self, if_true, q_n]
      rw [show (2 : Int32) = nI 2 from rfl, v_shows hI hC2 hH (by omega), q_bd]
      try simp (disch := omega) only [q_inT, eq_self, if_true, q_n]
      obtain ⟨σ1, e1, e2, e3, e4⟩ := ih (i + 1) f _ (by omega) (by omega) hC3 (fun c h3 h4 => by
        by_cases c1 : c = i
        · subst c1
          refine ⟨?_, ?_, ?_⟩
          · rw [q_ms_ne _ _ (by decide), q_ms_ne _ _ (by decide), q_ms, if_pos ⟨rfl, rfl⟩]
          · rw [q_ms_ne _ _ (by decide), q_ms, if_pos ⟨rfl, rfl⟩]
          · rw [q_ms, if_pos ⟨rfl, rfl⟩]
        · obtain ⟨g1, g2, g3⟩ := hs c (by omega) h4
          refine ⟨?_, ?_, ?_⟩
          · rw [q_ms_ne _ _ (by decide), q_ms_ne _ _ (by decide), q_ms, if_neg (by omega)]; exact g1
          · rw [q_ms_ne _ _ (by decide), q_ms, if_neg (by omega), q_ms_ne _ _ (by decide)]; exact g2
          · rw [q_ms, if_neg (by omega), q_ms_ne _ _ (by decide), q_ms_ne _ _ (by decide)]; exact g3)
      exact ⟨σ1, e1, e2, e3, fun k k1 k2 k3 => by rw [e4 k k1 k2 k3, q_ms_ne _ _ k3, q_ms_ne _ _ k2, q_ms_ne _ _ k1]⟩
/-- weigh: the tables are τ's -/
theorem v_weigh {σ : k_Mem} (hb : b ≤ 38) (hI : q_I τ) (hC : q_C b τ σ) : ∃ σ1, f_X0_weigh b σ = some ((), σ1) ∧ q_C b τ σ1 ∧ q_W τ σ1 ∧ k_Sm [46, 47, 48, 49, 50, 51] σ σ1 := by
  have hfr := fr_f_X0_weigh b σ
  unfold f_X0_weigh at hfr ⊢
  rw [v_handBits hI hC, q_bd] at hfr ⊢
  obtain ⟨σ1, e1, e2, e3⟩ := v_fill (o := 51) (n := 64) (-2) (k_mset σ 46 8 (nI (q_hb τ))) (by omega)
  rw [e1, q_bd] at hfr ⊢
  have hC1 : q_C b τ σ1 := q_C_sm hC (fun k _ hk => by rw [e3 k (by omega), q_ms_ne _ _ (by omega)])
  obtain ⟨σ2, f1, f2, f3, f4⟩ := v_weigh_sh hb hI 8 0 1000 σ1 (by omega) (by omega) hC1 (fun c h => absurd h (by omega))
  rw [show (0 : Int32) = nI 0 from rfl, f1] at hfr ⊢
  have hJ : q_J b τ 0 4 σ2 := by
    refine ⟨f2, ?_, f3, fun a c _ _ h => absurd h (by unfold q_pr; omega), fun a c a8 c8 _ => ?_⟩
    · rw [f4 46 (by decide) (by decide) (by decide), e3 46 (by decide), q_ms, if_pos ⟨rfl, rfl⟩]
    · rw [f4 51 (by decide) (by decide) (by decide)]; exact e2 _ (by omega)
  obtain ⟨σ3, g1, g2⟩ := v_weigh_out hb hI (τ 7 0) 0 1000 σ2 (by omega) (by have := hI.1; omega) hJ
  rw [show (0 : Int32) = nI 0 from rfl, g1] at hfr ⊢
  obtain ⟨hC3, hh, -, hd, hu⟩ := g2
  have hp : ∀ a c, q_H τ a = true → q_H τ c = true → a / 4 ≠ c / 4 → q_pr (τ 7 0) 4 a c := by
    intro a c ha hc hs
    have b1 := hI.1
    have b2 := hI.2.1
    rw [q_Hb] at ha hc
    unfold q_pr
    omega
  refine ⟨σ3, rfl, hC3, ⟨hh, fun a c ha hc hs => (hd a c ha hc (hp a c ha hc hs)).1, fun a c a8 c8 => ?_⟩, hfr () σ3 rfl⟩
  by_cases hq : q_H τ a = true ∧ q_H τ c = true ∧ q_pr (τ 7 0) 4 a c
  · exact (hd a c hq.1 hq.2.1 hq.2.2).2
  · rw [hu a c a8 c8 hq]
    have : q_can τ a c = false := by
      rw [← Bool.not_eq_true]
      intro h
      simp only [q_can, Bool.and_eq_true, decide_eq_true_eq] at h
      exact hq ⟨h.1.1.1, h.1.1.2, hp a c h.1.1.1 h.1.1.2 h.1.2⟩
    simp [q_wi, this]
end WG
