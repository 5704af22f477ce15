/-! PURE: a year goes -/
section YR
variable {τ : k_TW}
/-- a pair's row comes nearer: the class -/
theorem q_Cy_nr {b t a c : Nat} {σ σ1 : k_Mem} (ht : t < 2) (hI : q_I τ) (ha : q_H τ a = true) (hc : q_H τ c = true) (hne : a ≠ c) (hC : q_Cy b τ σ) (e1 : ∀ x, σ1 (b + 2 + t) x = if x = c then nI (q_na (τ (t + 1) c) (τ (t + 1) a)) else if x = a then nI (q_na (τ (t + 1) a) (τ (t + 1) c)) else σ (b + 2 + t) x) (e2 : ∀ k, k ≠ b + 2 + t → σ1 k = σ k) : q_Cy b (q_nr τ (t + 1) a c) σ1 := by
  refine ⟨fun t' x ht' hx => ?_, fun x hx => ?_⟩
  · rw [q_H_nr (by omega)] at hx
    by_cases h : t' = t
    · subst h
      rw [e1 x]
      unfold q_nr
      by_cases x1 : x = c
      · rw [if_pos x1, x1, q_u2_b]
      · rw [if_neg x1]
        by_cases x2 : x = a
        · rw [if_pos x2, x2, q_u2_a hne]
        · rw [if_neg x2, q_u2_n x2 x1]; exact hC.1 t' x ht' hx
    · rw [e2 _ (by omega), q_nr_t (by omega)]; exact hC.1 t' x ht' hx
  · rw [e2 _ (by omega), hC.2 x hx]
    unfold q_so; rw [q_nr_t (by omega)]
theorem q_My_nr {t a c : Nat} {σ σ1 : k_Mem} (ht : t < 2) (hI : q_I τ) (ha : q_H τ a = true) (hc : q_H τ c = true) (hne : a ≠ c) (hM : q_My τ σ) (e1 : ∀ x, σ1 68 x = if x = 8 * (t + 1) + c then nI (q_na (τ (t + 1) c) (τ (t + 1) a)) else if x = 8 * (t + 1) + a then nI (q_na (τ (t + 1) a) (τ (t + 1) c)) else σ 68 x) : q_My (q_nr τ (t + 1) a c) σ1 := by
  have a8 := q_H8 hI ha
  have c8 := q_H8 hI hc
  refine ⟨fun t' x ht' hx => ?_, fun x hx => ?_⟩
  · rw [q_H_nr (by omega)] at hx
    have x8 := q_H8 hI hx
    rw [e1]
    by_cases h : t' = t
    · subst h
      unfold q_nr
      by_cases x1 : x = c
      · rw [if_pos (by rw [x1]), x1, q_u2_b]
      · rw [if_neg (by omega)]
        by_cases x2 : x = a
        · rw [if_pos (by rw [x2]), x2, q_u2_a hne]
        · rw [if_neg (by omega), q_u2_n x2 x1]; exact hM.1 t' x ht' hx
    · rw [if_neg (by omega), if_neg (by omega), q_nr_t (by omega)]; exact hM.1 t' x ht' hx
  · rw [e1, if_neg (by omega), if_neg (by omega), q_nr_t (by omega)]; exact hM.2 x hx
theorem v_isWedy {b : Nat} {σ : k_Mem} (hI : q_I τ) (hC : q_Cy b τ σ) {a : Nat} (ha : a < 8) : f_X5_isWed b (nI a) σ = some (q_b (q_so τ a).isSome, σ) := by
  unfold f_X5_isWed
  simp (disch := omega) only [q_inT, eq_self, if_true, q_n]
  rw [hC.2 a ha]
  simp only [q_e1_n (q_so8 hI ha)]
  cases q_so τ a <;> rfl
theorem v_passYear_l {b : Nat} (hI : q_I τ) : ∀ (m a f : Nat) (σ : k_Mem), a + m = 4 → m < f → q_Cy b (q_yn τ a) σ → ∃ σ1, l_X5_passYear_2 b f (nI a) σ = some ((), k_mset σ1 b 10 (σ1 b 10 + 1)) ∧ q_Cy b (q_yn τ 4) σ1 ∧ ∀ k, k ≠ b + 2 → k ≠ b + 3 → σ1 k = σ k := by
  intro m
  induction m with
  | zero =>
    intro a f σ h1 h2 hC
    obtain ⟨f, rfl⟩ : ∃ g, f = g + 1 := ⟨f - 1, by omega⟩
    have : a = 4 := by omega
    subst this
    rw [l_X5_passYear_2, if_pos (show (4 : Int32) ≤ nI 4 by decide)]
    exact ⟨σ, rfl, hC, fun _ _ _ => rfl⟩
  | succ m ih =>
    intro a f σ h1 h2 hC
    obtain ⟨f, rfl⟩ : ∃ g, f = g + 1 := ⟨f - 1, by omega⟩
    have hIa := q_I_yn hI a (by omega)
    rw [l_X5_passYear_2, if_neg (show ¬ (4 : Int32) ≤ nI a from nI_ge (b := 4) (by omega) (by omega)), v_isWedy hIa hC (by omega), q_bd]
    simp only [q_b0, j_X5_passYear_43, show nI a + 1 = nI (a + 1) from nI_1 a]
    cases hs : q_so (q_yn τ a) a with
    | none =>
      rw [if_pos (show (none : Option Nat).isSome = false from rfl)]
      refine ih (a + 1) f σ (by omega) (by omega) ?_
      rw [q_yn, q_y1, if_pos (by rw [q_so_n] at hs; exact hs)]; exact hC
    | some c =>
      obtain ⟨ha, hc, hsd, -, c8⟩ := q_so_in hIa (show a < 8 by omega) hs
      have hne : a ≠ c := fun e => hsd (by rw [e])
      have h5 : q_yn τ a 5 a = c + 1 := by rw [q_so_s] at hs; exact hs
      rw [if_neg (by simp)]
      simp only [q_inT (show a < 8 by omega) (by omega : 8 < 2 ^ 31), if_true, q_n (show a < 2 ^ 31 by omega)]
      obtain ⟨-, a1, a2, -⟩ := hIa.2.2.2.2.2.1 a ha
      obtain ⟨-, b1, b2, -⟩ := hIa.2.2.2.2.2.1 c hc
      obtain ⟨σ1, e1, e2, e3⟩ := v_nearer (o := b + 2) (σ := σ) (show a < 8 by omega) c8 hne a1 b1 (hC.1 0 a (by omega) ha) (hC.1 0 c (by omega) hc)
      have hC1 : q_Cy b (q_nr (q_yn τ a) 1 a c) σ1 := q_Cy_nr (t := 0) (by omega) hIa ha hc hne hC e2 e3
      have hI1 := q_I_nr hIa (t := 1) (Or.inl rfl) ha hc
      have hs1 : σ1 (b + 6) a = nI c := by rw [e3 _ (by omega), hC.2 a (by omega), hs]; rfl
      rw [hC.2 a (by omega), hs, show q_e1 (some c) = nI c from rfl, e1, q_bd, hs1]
      have ha1 : q_H (q_nr (q_yn τ a) 1 a c) a = true := by rw [q_H_nr (Or.inl rfl)]; exact ha
      have hc1 : q_H (q_nr (q_yn τ a) 1 a c) c = true := by rw [q_H_nr (Or.inl rfl)]; exact hc
      obtain ⟨-, -, a2', -⟩ := hI1.2.2.2.2.2.1 a ha1
      obtain ⟨-, -, b2', -⟩ := hI1.2.2.2.2.2.1 c hc1
      obtain ⟨σ2, f1, f2, f3⟩ := v_nearer (o := b + 3) (σ := σ1) (show a < 8 by omega) c8 hne a2' b2' (hC1.1 1 a (by omega) ha1) (hC1.1 1 c (by omega) hc1)
      have hC2 : q_Cy b (q_nr (q_nr (q_yn τ a) 1 a c) 2 a c) σ2 := q_Cy_nr (t := 1) (by omega) hI1 ha1 hc1 hne hC1 f2 f3
      rw [f1, q_bd]
      have hy : q_yn τ (a + 1) = q_nr (q_nr (q_yn τ a) 1 a c) 2 a c := by rw [q_yn, q_y1, if_neg (by omega), h5, Nat.add_sub_cancel]
      obtain ⟨σ3, g1, g2, g3⟩ := ih (a + 1) f σ2 (by omega) (by omega) (by rw [hy]; exact hC2)
      exact ⟨σ3, g1, g2, fun k k1 k2 => by rw [g3 k k1 k2, f3 k k2, e3 k k1]⟩
theorem v_passYear {b : Nat} {σ : k_Mem} (hI : q_I τ) (hC : q_Cy b τ σ) : ∃ σ1, f_X5_passYear b σ = some ((), k_mset σ1 b 10 (σ1 b 10 + 1)) ∧ q_Cy b (q_yn τ 4) σ1 ∧ ∀ k, k ≠ b + 2 → k ≠ b + 3 → σ1 k = σ k := v_passYear_l hI 4 0 1000 σ (by omega) (by omega) hC
theorem w_yearGoes_l (hI : q_I τ) : ∀ (m a f : Nat) (σ : k_Mem), a + m = 4 → m < f → q_My (q_yn τ a) σ → ∃ σ1, l_X7_yearGoes_2 f (nI a) σ = some ((), k_mset σ1 68 49 (σ1 68 49 + 1)) ∧ q_My (q_yn τ 4) σ1 ∧ (∀ i, i < 8 ∨ 24 ≤ i → σ1 68 i = σ 68 i) ∧ ∀ k, k ≠ 68 → σ1 k = σ k := by
  intro m
  induction m with
  | zero =>
    intro a f σ h1 h2 hM
    obtain ⟨f, rfl⟩ : ∃ g, f = g + 1 := ⟨f - 1, by omega⟩
    have : a = 4 := by omega
    subst this
    rw [l_X7_yearGoes_2, if_pos (show (4 : Int32) ≤ nI 4 by decide), if_pos (by decide), if_pos (by decide), show k_n 49 = 49 by decide]
    exact ⟨σ, rfl, hM, fun _ _ => rfl, fun _ _ => rfl⟩
  | succ m ih =>
    intro a f σ h1 h2 hM
    obtain ⟨f, rfl⟩ : ∃ g, f = g + 1 := ⟨f - 1, by omega⟩
    have hIa := q_I_yn hI a (by omega)
    have b5 := (hIa.2.2.2.2.2.2.1 a (by omega)).1
    rw [l_X7_yearGoes_2, if_neg (show ¬ (4 : Int32) ≤ nI a from nI_ge (b := 4) (by omega) (by omega)), show (45 : Int32) = nI 45 from rfl, q_add]
    simp only [q_inT (show 45 + a < 250 by omega) (by omega : 250 < 2 ^ 31), if_true, q_n (show 45 + a < 2 ^ 31 by omega), hM.2 a (by omega), j_X7_yearGoes_51, show nI a + 1 = nI (a + 1) from nI_1 a]
    rw [show (0 : Int32) = nI 0 from rfl]
    simp (disch := omega) only [q_eq]
    cases hs : q_so (q_yn τ a) a with
    | none =>
      have h0 : q_yn τ a 5 a = 0 := by rw [q_so_n] at hs; exact hs
      rw [if_pos (by omega)]
      refine ih (a + 1) f σ (by omega) (by omega) ?_
      rw [q_yn, q_y1, if_pos h0]; exact hM
    | some c =>
      obtain ⟨ha, hc, hsd, -, c8⟩ := q_so_in hIa (show a < 8 by omega) hs
      have hne : a ≠ c := fun e => hsd (by rw [e])
      have h5 : q_yn τ a 5 a = c + 1 := by rw [q_so_s] at hs; exact hs
      rw [if_neg (by omega), h5, Nat.add_sub_cancel]
      obtain ⟨-, a1, a2, -⟩ := hIa.2.2.2.2.2.1 a ha
      obtain ⟨-, b1, b2, -⟩ := hIa.2.2.2.2.2.1 c hc
      obtain ⟨σ1, e1, e2, e3⟩ := w_nearer (o := 8) (σ := σ) (by omega) (show a < 8 by omega) c8 hne a1 b1 (hM.1 0 a (by omega) ha) (hM.1 0 c (by omega) hc)
      have hM1 : q_My (q_nr (q_yn τ a) 1 a c) σ1 := q_My_nr (t := 0) (by omega) hIa ha hc hne hM e2
      have hI1 := q_I_nr hIa (t := 1) (Or.inl rfl) ha hc
      have hs1 : σ1 68 (45 + a) = nI c := by rw [e2, if_neg (by omega), if_neg (by omega), hM.2 a (by omega), h5, Nat.add_sub_cancel]
      rw [show (8 : Int32) = nI 8 from rfl, e1, q_bd, hs1]
      have ha1 : q_H (q_nr (q_yn τ a) 1 a c) a = true := by rw [q_H_nr (Or.inl rfl)]; exact ha
      have hc1 : q_H (q_nr (q_yn τ a) 1 a c) c = true := by rw [q_H_nr (Or.inl rfl)]; exact hc
      obtain ⟨-, -, a2', -⟩ := hI1.2.2.2.2.2.1 a ha1
      obtain ⟨-, -, b2', -⟩ := hI1.2.2.2.2.2.1 c hc1
      obtain ⟨σ2, f1, f2, f3⟩ := w_nearer (o := 16) (σ := σ1) (by omega) (show a < 8 by omega) c8 hne a2' b2' (hM1.1 1 a (by omega) ha1) (hM1.1 1 c (by omega) hc1)
      have hM2 : q_My (q_nr (q_nr (q_yn τ a) 1 a c) 2 a c) σ2 := q_My_nr (t := 1) (by omega) hI1 ha1 hc1 hne hM1 f2
      rw [show (16 : Int32) = nI 16 from rfl, f1, q_bd]
      have hy : q_yn τ (a + 1) = q_nr (q_nr (q_yn τ a) 1 a c) 2 a c := by rw [q_yn, q_y1, if_neg (by omega), h5, Nat.add_sub_cancel]
      obtain ⟨σ3, g1, g2, g3, g4⟩ := ih (a + 1) f σ2 (by omega) (by omega) (by rw [hy]; exact hM2)
      refine ⟨σ3, g1, g2, fun i hi => ?_, fun k hk => by rw [g4 k hk, f3 k hk, e3 k hk]⟩
      rw [g3 i hi, f2 i, if_neg (by omega), if_neg (by omega), e2 i, if_neg (by omega), if_neg (by omega)]
theorem w_yearGoes {σ : k_Mem} (hI : q_I τ) (hM : q_My τ σ) : ∃ σ1, f_X7_yearGoes σ = some ((), k_mset σ1 68 49 (σ1 68 49 + 1)) ∧ q_My (q_yn τ 4) σ1 ∧ (∀ i, i < 8 ∨ 24 ≤ i → σ1 68 i = σ 68 i) ∧ ∀ k, k ≠ 68 → σ1 k = σ k := w_yearGoes_l hI 4 0 1000 σ (by omega) (by omega) hM
theorem q_C_Cy {b : Nat} {σ : k_Mem} (hC : q_C b τ σ) : q_Cy b τ σ := by
  refine ⟨fun t a ht ha => ?_, fun a ha => q_C_so hC ha⟩
  have := q_row hC (t := t + 1) (by omega) ha
  rw [show b + 1 + (t + 1) = b + 2 + t by omega] at this
  exact this
theorem q_M_My {σ : k_Mem} (hM : q_M 0 τ σ) : q_My τ σ := by
  refine ⟨fun t a ht ha => q_srow hM (t := t + 1) (by omega) ha, fun a ha => ?_⟩
  have := (hM.2.1 a ha).2; rwa [show 0 + 45 + a = 45 + a by omega] at this
/-- a town a year on -/
def q_yr (τ : k_TW) : k_TW := q_up (q_yn τ 4) 7 3 (τ 7 3 + 1)
theorem q_yr_73 : q_yr τ 7 3 = τ 7 3 + 1 := q_up_s _ _ _ _
theorem q_yr_7 {c : Nat} (h : c ≠ 3) : q_yr τ 7 c = τ 7 c := by unfold q_yr; rw [q_up_a h, q_yn_t (by omega) (by omega)]
theorem q_I_yr (hI : q_I τ) (h : τ 7 3 + 1 < 1000) : q_I (q_yr τ) := by
  have hI4 := q_I_yn hI 4 (by omega)
  obtain ⟨i1, i2, i3, i4, i5, i6, i7, i8⟩ := hI4
  have hH : ∀ c, q_H (q_yr τ) c = q_H (q_yn τ 4) c := fun c => q_H_eq (q_up_a (by omega)) (q_up_a (by omega)) c
  have hx : ∀ t c, t ≠ 7 → q_yr τ t c = q_yn τ 4 t c := fun t c ht => q_up_t ht
  refine ⟨by rw [q_yr_7 (by omega)]; rw [q_yn_t (by omega) (by omega)] at i1; exact i1, by rw [q_yr_7 (by omega)]; rw [q_yn_t (by omega) (by omega)] at i2; exact i2, by rw [q_yr_7 (by omega)]; rw [q_yn_t (by omega) (by omega)] at i3; exact i3, by rw [q_yr_73]; exact h, fun c hc => ?_, fun c hc => ?_, fun c hc => ?_, fun c hc => ?_⟩
  · rw [hH]
    refine i5 c ?_
    unfold q_run at hc ⊢
    rw [q_yr_7 (by omega)] at hc
    rw [q_yn_t (by omega) (by omega)]; exact hc
  · rw [hH] at hc
    rw [hx 0 c (by omega), hx 1 c (by omega), hx 2 c (by omega), hx 3 c (by omega), hx 4 c (by omega), hH]
    exact i6 c hc
  · rw [hx 5 c (by omega), hH, hH, hx 5 _ (by omega)]; exact i7 c hc
  · rw [hx 6 c (by omega)]
    refine ⟨(i8 c hc).1, fun d hd => ?_⟩
    rw [hH, hH, hx 6 d (by omega)]; exact (i8 c hc).2 d hd
theorem v_yr {σ : k_Mem} (hI : q_I τ) (hC : q_C 6 τ σ) : ∃ σ1, f_X5_passYear 6 σ = some ((), σ1) ∧ q_C 6 (q_yr τ) σ1 ∧ k_Sm [6, 8, 9] σ σ1 := by
  obtain ⟨σ1, e1, e2, e3⟩ := v_passYear hI (q_C_Cy hC)
  have hx : ∀ t c, t ≠ 7 → q_yr τ t c = q_yn τ 4 t c := fun t c ht => q_up_t ht
  have hH : ∀ c, q_H (q_yr τ) c = q_H τ c := fun c => q_H_eq (q_yr_7 (by omega)) (q_yr_7 (by omega)) c
  have e6 : σ1 6 = σ 6 := e3 6 (by omega) (by omega)
  refine ⟨_, e1, ?_, fun k hk => ?_⟩
  · refine q_C_mk ?_ ?_ ?_ ?_ (fun t a ht ha => ?_) (fun a ha => ?_)
    · rw [q_ms, if_neg (by omega), e6, q_yr_7 (by omega)]; exact hC.1
    · rw [q_ms, if_neg (by omega), e6, q_yr_7 (by omega)]; exact hC.2.1
    · rw [q_ms, if_neg (by omega), e6, q_yr_7 (by omega)]; exact hC.2.2.1
    · rw [q_ms, if_pos ⟨rfl, rfl⟩, e6, hC.2.2.2.1, q_yr_73, show nI (τ 7 3) + 1 = nI (τ 7 3 + 1) from nI_1 _]
    · rw [hH] at ha
      rw [q_ms_ne _ _ (by omega), hx t a (by omega)]
      have : t = 0 ∨ t = 1 ∨ t = 2 ∨ t = 3 ∨ t = 4 := by omega
      rcases this with rfl | rfl | rfl | rfl | rfl
      · rw [e3 _ (by omega) (by omega), q_yn_t (by omega) (by omega)]; exact q_row hC (t := 0) (by omega) ha
      · exact e2.1 0 a (by omega) (by rw [q_H_yn]; exact ha)
      · exact e2.1 1 a (by omega) (by rw [q_H_yn]; exact ha)
      · rw [e3 _ (by omega) (by omega), q_yn_t (by omega) (by omega)]; exact q_row hC (t := 3) (by omega) ha
      · rw [e3 _ (by omega) (by omega), q_yn_t (by omega) (by omega)]; exact q_row hC (t := 4) (by omega) ha
    · rw [q_ms_ne _ _ (by omega), q_ms_ne _ _ (by omega), e3 _ (by omega) (by omega), e3 _ (by omega) (by omega), hx 5 a (by omega), hx 6 a (by omega), q_yn_t (by omega) (by omega), q_yn_t (by omega) (by omega)]
      exact hC.2.2.2.2.2 a ha
  · simp only [List.mem_cons, List.not_mem_nil, or_false, not_or] at hk
    rw [q_ms_ne _ _ hk.1, e3 k hk.2.1 hk.2.2]
theorem w_yr {σ : k_Mem} (hI : q_I τ) (hM : q_M 0 τ σ) : ∃ σ1, f_X7_yearGoes σ = some ((), σ1) ∧ q_M 0 (q_yr τ) σ1 ∧ (∀ i, 50 ≤ i → σ1 68 i = σ 68 i) ∧ ∀ k, k ≠ 68 → σ1 k = σ k := by
  obtain ⟨σ1, e1, e2, e3, e4⟩ := w_yearGoes hI (q_M_My hM)
  have hx : ∀ t c, t ≠ 7 → q_yr τ t c = q_yn τ 4 t c := fun t c ht => q_up_t ht
  have hH : ∀ c, q_H (q_yr τ) c = q_H τ c := fun c => q_H_eq (q_yr_7 (by omega)) (q_yr_7 (by omega)) c
  refine ⟨_, e1, ?_, fun i hi => by rw [q_ms, if_neg (by omega), e3 i (by omega)], fun k hk => by rw [q_ms_ne _ _ hk, e4 k hk]⟩
  refine q_M_mk (fun t a ht ha => ?_) (fun a ha => ?_) (fun a ha => ?_) ?_ ?_
  · rw [hH] at ha
    have a8 := q_H8 hI ha
    rw [q_ms, if_neg (by omega), hx t a (by omega)]
    have : t = 0 ∨ t = 1 ∨ t = 2 ∨ t = 3 := by omega
    rcases this with rfl | rfl | rfl | rfl
    · rw [e3 _ (by omega), q_yn_t (by omega) (by omega)]; exact q_Mrow hM (t := 0) (by omega) ha
    · have := e2.1 0 a (by omega) (by rw [q_H_yn]; exact ha)
      rw [show 0 + 8 * 1 + a = 8 * (0 + 1) + a by omega]; exact this
    · have := e2.1 1 a (by omega) (by rw [q_H_yn]; exact ha)
      rw [show 0 + 8 * 2 + a = 8 * (1 + 1) + a by omega]; exact this
    · rw [e3 _ (by omega), q_yn_t (by omega) (by omega)]; exact q_Mrow hM (t := 3) (by omega) ha
  · rw [hH] at ha
    have a8 := q_H8 hI ha
    rw [q_ms, if_neg (by omega), e3 _ (by omega), hx 4 a (by omega), q_yn_t (by omega) (by omega)]; exact (hM.1 a ha).2.2.2.2
  · rw [q_ms, if_neg (by omega), q_ms, if_neg (by omega), e3 _ (by omega), e3 _ (by omega), hx 5 a (by omega), hx 6 a (by omega), q_yn_t (by omega) (by omega), q_yn_t (by omega) (by omega)]; exact hM.2.1 a ha
  · rw [q_ms, if_neg (by omega), e3 _ (by omega), q_yr_7 (by omega)]; exact hM.2.2.1
  · rw [q_ms, if_pos ⟨rfl, rfl⟩, e3 49 (by omega), show σ 68 49 = nI (τ 7 3) from hM.2.2.2, q_yr_73, show nI (τ 7 3) + 1 = nI (τ 7 3 + 1) from nI_1 _]
def q_ys (τ : k_TW) : Nat → k_TW
  | 0 => τ
  | n + 1 => q_yr (q_ys τ n)
theorem q_ys_73 : ∀ n, q_ys τ n 7 3 = τ 7 3 + n
  | 0 => rfl
  | n + 1 => by rw [q_ys, q_yr_73, q_ys_73 n]; omega
theorem q_ys_7 {c : Nat} (h : c ≠ 3) : ∀ n, q_ys τ n 7 c = τ 7 c
  | 0 => rfl
  | n + 1 => by rw [q_ys, q_yr_7 h, q_ys_7 h n]
theorem q_I_ys (hI : q_I τ) : ∀ n, τ 7 3 + n < 1000 → q_I (q_ys τ n)
  | 0, _ => hI
  | n + 1, h => q_I_yr (q_I_ys hI n (by omega)) (by rw [q_ys_73]; omega)
end YR
theorem o_years (x : Int32) : q_Op (fun σ => f_X6_years x σ) (fun σ => f_X7_years x σ) := by
  intro σ hr
  obtain ⟨τ, im, hR⟩ := hr
  have hR0 := hR
  obtain ⟨hI, hC, hN, hM, -⟩ := hR
  have hy := hI.2.2.2.1
  dsimp only
  unfold f_X6_years f_X7_years
  rw [show (20 : Int32) = nI 20 from rfl, q_gd]
  rcases q_rng x (n := 20) (by omega) with ⟨n, hn, rfl⟩ | hn
  · have hQ := q_rng_t (n := 20) (by omega) hn
    rw [if_pos hQ, show σ 6 10 = nI (τ 7 3) from hC.2.2.2.1, q_add, show (1000 : Int32) = nI 1000 from rfl]
    simp (disch := omega) only [q_lt]
    by_cases h : τ 7 3 + n < 1000
    · rw [if_pos h]
      have cls : ∀ (m i f : Nat) (σ1 : k_Mem), i + m = n → m < f → q_C 6 (q_ys τ i) σ1 → ∃ σ2, l_X6_years_32 f (nI n) (nI i) σ1 = some (nI (τ 7 3 + n), σ2) ∧ q_C 6 (q_ys τ n) σ2 ∧ k_Sm [6, 8, 9] σ1 σ2 := by
        intro m
        induction m with
        | zero =>
          intro i f σ1 h1 h2 hC1
          obtain ⟨f, rfl⟩ : ∃ g, f = g + 1 := ⟨f - 1, by omega⟩
          have : i = n := by omega
          subst this
          rw [l_X6_years_32, if_pos (nI_le (Nat.le_refl _) (by omega)), show σ1 6 10 = nI (q_ys τ i 7 3) from hC1.2.2.2.1, q_ys_73]
          exact ⟨σ1, rfl, hC1, sm_rf⟩
        | succ m ih =>
          intro i f σ1 h1 h2 hC1
          obtain ⟨f, rfl⟩ : ∃ g, f = g + 1 := ⟨f - 1, by omega⟩
          obtain ⟨σ2, e1, e2, e3⟩ := v_yr (q_I_ys hI i (by omega)) hC1
          rw [l_X6_years_32, if_neg (nI_ge (by omega) (by omega)), e1, q_bd, show nI i + 1 = nI (i + 1) from nI_1 i]
          obtain ⟨σ3, f1, f2, f3⟩ := ih (i + 1) f σ2 (by omega) (by omega) e2
          exact ⟨σ3, f1, f2, k_Sm_tr e3 f3⟩
      have ref : ∀ (m i f : Nat) (σ1 : k_Mem), i + m = n → m < f → q_M 0 (q_ys τ i) σ1 → ∃ σ2, l_X7_years_34 f (nI n) (nI i) σ1 = some (nI (τ 7 3 + n), σ2) ∧ q_M 0 (q_ys τ n) σ2 ∧ (∀ i, 50 ≤ i → σ2 68 i = σ1 68 i) ∧ ∀ k, k ≠ 68 → σ2 k = σ1 k := by
        intro m
        induction m with
        | zero =>
          intro i f σ1 h1 h2 hM1
          obtain ⟨f, rfl⟩ : ∃ g, f = g + 1 := ⟨f - 1, by omega⟩
          have : i = n := by omega
          subst this
          rw [l_X7_years_34, if_pos (nI_le (Nat.le_refl _) (by omega)), if_pos (by decide), show k_n 49 = 49 by decide, show σ1 68 49 = nI (q_ys τ i 7 3) from hM1.2.2.2, q_ys_73]
          exact ⟨σ1, rfl, hM1, fun _ _ => rfl, fun _ _ => rfl⟩
        | succ m ih =>
          intro i f σ1 h1 h2 hM1
          obtain ⟨f, rfl⟩ : ∃ g, f = g + 1 := ⟨f - 1, by omega⟩
          obtain ⟨σ2, e1, e2, e3, e4⟩ := w_yr (q_I_ys hI i (by omega)) hM1
          rw [l_X7_years_34, if_neg (nI_ge (by omega) (by omega)), e1, q_bd, show nI i + 1 = nI (i + 1) from nI_1 i]
          obtain ⟨σ3, f1, f2, f3, f4⟩ := ih (i + 1) f σ2 (by omega) (by omega) e2
          exact ⟨σ3, f1, f2, fun i hi => by rw [f3 i hi, e3 i hi], fun k hk => by rw [f4 k hk, e4 k hk]⟩
      obtain ⟨σ1, e1, e2, e3⟩ := cls n 0 1000 σ (by omega) (by omega) hC
      have hM1 : q_M 0 τ σ1 := q_M_sm hM (e3 68 (by decide))
      obtain ⟨σ2, f1, f2, f3, f4⟩ := ref n 0 1000 σ1 (by omega) (by omega) hM1
      refine ⟨_, σ1, σ2, e1, ?_, q_ys τ n, im, q_Re_t hR0 (q_ys_7 (by omega) n) (q_ys_7 (by omega) n) (q_I_ys hI n h) (q_C_sm e2 (fun k k1 k2 => f4 k (by omega))) f2 (fun k hk => ?_) (fun i h3 h4 => by rw [f3 i h3, e3 68 (by decide)])⟩
      · rw [w_in (nI n) 20 (by omega) 20 (by decide), q_bd, if_pos hQ, if_neg q_10, if_pos (by decide), show k_n 49 = 49 by decide, show σ1 68 49 = nI (τ 7 3) from hM1.2.2.2, q_add, if_pos (show nI (τ 7 3 + n) ≤ (999 : Int32) from nI_le (b := 999) (by omega) (by omega))]
        exact f1
      · rw [f4 k (fun e => hk (by rw [e]; decide)), e3 k (fun e => hk (by
          simp only [List.mem_cons, List.not_mem_nil, or_false] at e
          rcases e with rfl | rfl | rfl <;> decide))]
    · rw [if_neg h]
      refine ⟨_, _, _, rfl, ?_, τ, im, hR0⟩
      rw [w_in (nI n) 20 (by omega) 20 (by decide), q_bd, if_pos hQ, if_neg q_10, if_pos (by decide), show k_n 49 = 49 by decide, show σ 68 49 = nI (τ 7 3) from hM.2.2.2, q_add, if_neg (show ¬ nI (τ 7 3 + n) ≤ (999 : Int32) from nI_ge (a := 999) (by omega) (by omega))]
  · rw [if_neg hn]
    refine ⟨_, _, _, rfl, ?_, τ, im, hR0⟩
    rw [w_in x 20 (by omega) 20 (by decide), q_bd, if_neg hn, if_pos rfl]
