/-! PURE: fits -/
/-- a look at a page, against what a pen would show -/
def q_ck (τ : k_TW) (a : Nat) (sa st sv : Nat → Nat) (p j : Nat) : Bool := decide (sa j ≠ a) || decide (q_sh (q_up τ 4 a p) a (st j) = sv j)
def q_ft (τ : k_TW) (a m : Nat) (sa st sv : Nat → Nat) (p : Nat) : Bool := q_H τ p && decide (∀ j, j < m → q_ck τ a sa st sv p j = true)
def q_sC (τ : k_TW) (m : Nat) (sa st sv : Nat → Nat) (σ : k_Mem) : Prop := σ 55 3 = nI m ∧ ∀ i, i < m → σ 56 i = nI (sa i) ∧ σ 57 i = nI (st i) ∧ σ 58 i = nI (sv i)
def q_sM (τ : k_TW) (m : Nat) (sa st sv : Nat → Nat) (σ : k_Mem) : Prop := σ 67 25 = nI m ∧ ∀ i, i < m → σ 77 (3 * i) = nI (sa i) ∧ σ 77 (3 * i + 1) = nI (st i) ∧ σ 77 (3 * i + 2) = nI (sv i)
theorem q_sn_f {τ : k_TW} {σ : k_Mem} (hI : q_I τ) (h : q_sn τ σ) : ∃ m sa st sv, m ≤ 6 ∧ (∀ i, i < m → sa i < 8 ∧ st i < 3 ∧ sv i < 10) ∧ q_sC τ m sa st sv σ ∧ ((∀ i, i < m → q_H τ (sa i) = true)) ∧ q_sM τ m sa st sv σ := by
  obtain ⟨m, hm, h1, h2, h3⟩ := h
  have key : ∀ i, i < m → ∃ t v, q_H τ (k_n (σ 56 i)) = true ∧ t < 3 ∧ v < 10 ∧ σ 56 i = nI (k_n (σ 56 i)) ∧ k_n (σ 57 i) = t ∧ k_n (σ 58 i) = v ∧ σ 57 i = nI t ∧ σ 58 i = nI v ∧ σ 77 (3 * i) = nI (k_n (σ 56 i)) ∧ σ 77 (3 * i + 1) = nI t ∧ σ 77 (3 * i + 2) = nI v ∧ k_n (σ 56 i) < 2 ^ 31 := by
    intro i hi
    obtain ⟨a, t, v, e1, e2, e3, e4, e5, e6, e7, e8, e9⟩ := h3 i hi
    have ha : a < 2 ^ 31 := by have := q_H8 hI e1; omega
    refine ⟨t, v, ?_⟩
    rw [e4, e5, e6, q_n ha, q_n (by omega), q_n (by omega)]
    exact ⟨e1, e2, e3, rfl, rfl, rfl, rfl, rfl, e7, e8, e9, ha⟩
  refine ⟨m, fun i => k_n (σ 56 i), fun i => k_n (σ 57 i), fun i => k_n (σ 58 i), hm, fun i hi => ?_, ⟨h1, fun i hi => ?_⟩, fun i hi => ?_, h2, fun i hi => ?_⟩
  all_goals
    obtain ⟨t, v, e1, e2, e3, e4, e5, e6, e7, e8, e9, e10, e11, e12⟩ := key i hi
    dsimp only
  · refine ⟨?_, by rw [e5]; exact e2, by rw [e6]; exact e3⟩
    exact q_H8 hI e1
  · exact ⟨e4, by rw [e5]; exact e7, by rw [e6]; exact e8⟩
  · exact e1
  · exact ⟨e9, by rw [e5]; exact e10, by rw [e6]; exact e11⟩
section
variable {τ : k_TW} {a m : Nat} {sa st sv : Nat → Nat}
theorem q_upI (hI : q_I τ) {p : Nat} (hp : q_H τ p = true) : q_I (q_up τ 4 a p) := q_I_up hI (by omega) ⟨by omega, by omega, by omega, by omega, fun _ => hp⟩
theorem q_upH {p : Nat} (ha : q_H τ a = true) : q_H (q_up τ 4 a p) a = true := by rw [q_H_up (by omega)]; exact ha
theorem q_shu (hI : q_I τ) (ha : q_H τ a = true) {p t : Nat} (hp : q_H τ p = true) (ht : t < 3) : q_sh (q_up τ 4 a p) a t < 10 := by
  by_cases h : t = 2
  · have hI2 := q_upI (a := a) hI hp
    have := (hI2.2.2.2.2.2.1 _ ((hI2.2.2.2.2.2.1 a (q_upH ha)).2.2.2.2)).2.2.2.1
    unfold q_sh
    rw [if_pos h]; omega
  · have := q_sh9 (q_upI (a := a) hI hp) (q_upH ha) (show t < 2 by omega)
    omega
theorem v_agree (hI : q_I τ) (ha : q_H τ a = true) {p : Nat} (hp : q_H τ p = true) (hm : m ≤ 6) (hs : ∀ i, i < m → sa i < 8 ∧ st i < 3 ∧ sv i < 10) {σ : k_Mem} (hC : q_C 14 (q_up τ 4 a p) σ) (hS : q_sC τ m sa st sv σ) : ∀ (r i f : Nat), i + r = m → r < f → ∃ v, l_X3_agreeWith_2 14 f (nI a) (nI i) σ = some (v, σ) ∧ ((v = 1 ∧ ∀ j, i ≤ j → j < m → q_ck τ a sa st sv p j = true) ∨ (v = 0 ∧ ∃ j, j < m ∧ q_ck τ a sa st sv p j = false)) := by
  have a8 := q_H8 hI ha
  have hI2 := q_upI (a := a) hI hp
  intro r
  induction r with
  | zero =>
    intro i f h1 h2
    obtain ⟨f, rfl⟩ : ∃ g, f = g + 1 := ⟨f - 1, by omega⟩
    rw [l_X3_agreeWith_2, hS.1, if_pos (nI_le (by omega) (by omega))]
    exact ⟨1, rfl, Or.inl ⟨rfl, fun j h1 h2 => absurd h2 (by omega)⟩⟩
  | succ r ih =>
    intro i f h1 h2
    obtain ⟨f, rfl⟩ : ∃ g, f = g + 1 := ⟨f - 1, by omega⟩
    obtain ⟨s1, s2, s3⟩ := hs i (by omega)
    obtain ⟨e1, e2, e3⟩ := hS.2 i (by omega)
    rw [l_X3_agreeWith_2, hS.1, if_neg (nI_ge (by omega) (by omega)), q_inT (show i < 6 by omega) (by omega), if_pos rfl, if_pos rfl, q_n (by omega), e1, e2, v_shows hI2 hC (q_upH ha) s2, q_bd, if_pos rfl, e3]
    unfold j_X3_agreeWith_42
    rw [show nI i + 1 = nI (i + 1) from nI_1 _]
    obtain ⟨v, g1, g2⟩ := ih (i + 1) f (by omega) (by omega)
    have g1' := g1
    by_cases hsa : sa i = a
    · rw [if_pos (by rw [hsa])]
      by_cases hsv : q_sh (q_up τ 4 a p) a (st i) = sv i
      · rw [if_pos (by rw [hsv])]
        refine ⟨v, g1, ?_⟩
        rcases g2 with ⟨g2, g3⟩ | g2
        · refine Or.inl ⟨g2, fun j h1 h2 => ?_⟩
          by_cases h : j = i
          · subst h; unfold q_ck; simp [hsv]
          · exact g3 j (by omega) h2
        · exact Or.inr g2
      · have := q_shu hI ha hp s2
        rw [if_neg (by rw [q_eq (by omega) (by omega)]; exact hsv)]
        exact ⟨0, rfl, Or.inr ⟨rfl, i, by omega, by unfold q_ck; simp [hsa, hsv]⟩⟩
    · rw [if_neg (by rw [q_eq (by omega) (by omega)]; exact hsa)]
      refine ⟨v, g1, ?_⟩
      rcases g2 with ⟨g2, g3⟩ | g2
      · refine Or.inl ⟨g2, fun j h1 h2 => ?_⟩
        by_cases h : j = i
        · subst h; unfold q_ck; simp [hsa]
        · exact g3 j (by omega) h2
      · exact Or.inr g2
theorem v_fit_l (hI : q_I τ) (ha : q_H τ a = true) (hm : m ≤ 6) (hs : ∀ i, i < m → sa i < 8 ∧ st i < 3 ∧ sv i < 10) : ∀ (r p f p0 : Nat) (σ : k_Mem), p + r = 8 → r < f → q_C 6 τ σ → q_C 14 (q_up τ 4 a p0) σ → q_sC τ m sa st sv σ → ∃ σ1, l_X6_fittingPens_15 f (nI a) (nI (q_bb (q_ft τ a m sa st sv) p)) (nI p) σ = some (nI (q_bb (q_ft τ a m sa st sv) 8), σ1) ∧ k_Sm [19] σ σ1 := by
  have a8 := q_H8 hI ha
  intro r
  induction r with
  | zero =>
    intro p f p0 σ h1 h2 h3 h4 h5
    obtain ⟨f, rfl⟩ : ∃ g, f = g + 1 := ⟨f - 1, by omega⟩
    obtain rfl : p = 8 := by omega
    rw [l_X6_fittingPens_15, if_pos (by decide)]
    exact ⟨σ, rfl, sm_rf⟩
  | succ r ih =>
    intro p f p0 σ h1 h2 h3 h4 h5
    obtain ⟨f, rfl⟩ : ∃ g, f = g + 1 := ⟨f - 1, by omega⟩
    rw [l_X6_fittingPens_15, show (8 : Int32) = nI 8 from rfl, if_neg (nI_ge (by omega) (by omega)), v_isHand hI h3 (by omega), q_bd]
    unfold j_X6_fittingPens_66
    rw [show nI p + 1 = nI (p + 1) from nI_1 _]
    cases hp : q_H τ p
    · rw [if_pos (show q_b false = 0 from rfl)]
      have hF : q_ft τ a m sa st sv p = false := by unfold q_ft; rw [hp]; rfl
      have := ih (p + 1) f p0 σ (by omega) (by omega) h3 h4 h5
      rwa [q_bb_0 hF] at this
    · rw [if_neg (show ¬ q_b true = 0 by decide), q_inT a8 (by omega), if_pos rfl, q_n (by omega)]
      have hC : q_C 14 (q_up τ 4 a p) (k_mset σ 19 a (nI p)) := by
        have := q_C_up (t := 4) (a := a) (v := p) h4 (by omega)
        rwa [q_up_up] at this
      have hS : q_sC τ m sa st sv (k_mset σ 19 a (nI p)) := by
        unfold q_sC
        rw [q_ms_ne _ _ (by decide), q_ms_ne _ _ (by decide), q_ms_ne _ _ (by decide), q_ms_ne _ _ (by decide)]; exact h5
      obtain ⟨v, g1, g2⟩ := v_agree hI ha hp hm hs hC hS m 0 1000 (by omega) (by omega)
      rw [show f_X3_agreeWith 14 (nI a) (k_mset σ 19 a (nI p)) = some (v, k_mset σ 19 a (nI p)) from g1, q_bd]
      have hC6 : q_C 6 τ (k_mset σ 19 a (nI p)) := q_C_sm h3 (fun c _ _ => q_ms_ne _ _ (by omega))
      have nx := ih (p + 1) f p (k_mset σ 19 a (nI p)) (by omega) (by omega) hC6 hC hS
      rcases g2 with ⟨rfl, g2⟩ | ⟨rfl, j, hj, g2⟩
      · rw [if_neg q_10]
        have hF : q_ft τ a m sa st sv p = true := by unfold q_ft; rw [hp]; simp; exact fun j hj => g2 j (by omega) hj
        rw [q_bb_or1 (by omega) hF]
        obtain ⟨σ1, f1, f2⟩ := nx
        exact ⟨σ1, f1, fun c hc => by rw [f2 c hc, q_ms_ne _ _ (by simpa using hc)]⟩
      · rw [if_pos rfl]
        have hF : q_ft τ a m sa st sv p = false := by unfold q_ft; rw [hp]; simp; exact ⟨j, hj, g2⟩
        rw [q_bb_0 hF] at nx
        obtain ⟨σ1, f1, f2⟩ := nx
        exact ⟨σ1, f1, fun c hc => by rw [f2 c hc, q_ms_ne _ _ (by simpa using hc)]⟩
theorem w_fit50 (hI : q_I τ) (ha : q_H τ a = true) {p : Nat} (hp : q_H τ p = true) (hm : m ≤ 6) (hs : ∀ i, i < m → sa i < 8 ∧ st i < 3 ∧ sv i < 10) {σ : k_Mem} (hN : q_N τ σ) (hM : q_M 0 (q_up τ 4 a p) σ) (hS : q_sM τ m sa st sv σ) {k15 : Int32 → Int32 → Int32 → Int32 → k_Mem → Option (Int32 × k_Mem)} {x2 x3 x4 : Int32} : ∀ (r i f : Nat) (b : Bool), i + r = m → r < f → ∃ b', l_X7_pensFor_50 k15 f (nI a) x2 x3 x4 (q_b b) (nI i) σ = l_X7_pensFor_123 k15 1000 (nI a) x2 x3 x4 (q_b b') 0 σ ∧ (b' = true ↔ b = true ∧ ∀ j, i ≤ j → j < m → q_ck τ a sa st sv p j = true) := by
  have a8 := q_H8 hI ha
  have hI2 := q_upI (a := a) hI hp
  have hN2 : q_N (q_up τ 4 a p) σ := ⟨by rw [q_up_t (by omega)]; exact hN.1, by rw [q_up_t (by omega)]; exact hN.2⟩
  intro r
  induction r with
  | zero =>
    intro i f b h1 h2
    obtain ⟨f, rfl⟩ : ∃ g, f = g + 1 := ⟨f - 1, by omega⟩
    rw [l_X7_pensFor_50, hS.1, if_pos (nI_le (by omega) (by omega))]
    exact ⟨b, rfl, fun h => ⟨h, fun j h1 h2 => absurd h2 (by omega)⟩, fun h => h.1⟩
  | succ r ih =>
    intro i f b h1 h2
    obtain ⟨f, rfl⟩ : ∃ g, f = g + 1 := ⟨f - 1, by omega⟩
    obtain ⟨s1, s2, s3⟩ := hs i (by omega)
    obtain ⟨e1, e2, e3⟩ := hS.2 i (by omega)
    have nx : ∀ b, ∃ b', l_X7_pensFor_50 k15 f (nI a) x2 x3 x4 (q_b b) (nI (i + 1)) σ = l_X7_pensFor_123 k15 1000 (nI a) x2 x3 x4 (q_b b') 0 σ ∧ (b' = true ↔ b = true ∧ ∀ j, i + 1 ≤ j → j < m → q_ck τ a sa st sv p j = true) := fun b => ih (i + 1) f b (by omega) (by omega)
    rw [l_X7_pensFor_50, hS.1, if_neg (nI_ge (by omega) (by omega)), show (3 : Int32) = nI 3 from rfl, q_mul, show nI (3 * i) + 1 = nI (3 * i + 1) from nI_1 _, show (2 : Int32) = nI 2 from rfl, q_add, q_inT (show 3 * i < 18 by omega) (by omega), q_inT (show 3 * i + 1 < 18 by omega) (by omega), q_inT (show 3 * i + 2 < 18 by omega) (by omega), if_pos rfl, if_pos rfl, q_n (by omega), q_n (by omega), q_n (by omega), e1, e2, w_shows hI2 hN2 hM (q_upH ha) s2, q_bd, if_pos rfl, e3]
    unfold j_X7_pensFor_111 j_X7_pensFor_107 j_X7_pensFor_112
    rw [show nI i + 1 = nI (i + 1) from nI_1 _]
    cases b
    · rw [if_pos (show q_b false = 0 from rfl)]
      obtain ⟨b', g1, g2⟩ := nx false
      refine ⟨b', g1, fun h => absurd (g2.mp h).1 (by decide), fun h => absurd h.1 (by decide)⟩
    · rw [if_neg (show ¬ q_b true = 0 by decide)]
      by_cases hsa : sa i = a
      · rw [if_pos (by rw [hsa])]
        by_cases hsv : q_sh (q_up τ 4 a p) a (st i) = sv i
        · rw [if_pos (by rw [hsv])]
          obtain ⟨b', g1, g2⟩ := nx true
          refine ⟨b', g1, g2.trans ⟨fun h => ⟨rfl, fun j h1 h2 => ?_⟩, fun h => ⟨rfl, fun j h1 h2 => h.2 j (by omega) h2⟩⟩⟩
          by_cases hji : j = i
          · subst hji; unfold q_ck; simp [hsv]
          · exact h.2 j (by omega) h2
        · have := q_shu hI ha hp s2
          rw [if_neg (by rw [q_eq (by omega) (by omega)]; exact hsv)]
          obtain ⟨b', g1, g2⟩ := nx false
          refine ⟨b', g1, fun h => absurd (g2.mp h).1 (by decide), fun h => ?_⟩
          have := h.2 i (by omega) (by omega)
          unfold q_ck at this; simp [hsa, hsv] at this
      · rw [if_neg (by rw [q_eq (by omega) (by omega)]; exact hsa)]
        obtain ⟨b', g1, g2⟩ := nx true
        refine ⟨b', g1, g2.trans ⟨fun h => ⟨rfl, fun j h1 h2 => ?_⟩, fun h => ⟨rfl, fun j h1 h2 => h.2 j (by omega) h2⟩⟩⟩
        by_cases hji : j = i
        · subst hji; unfold q_ck; simp [hsa]
        · exact h.2 j (by omega) h2
theorem w_fit123 (hI : q_I τ) (ha : q_H τ a = true) {p : Nat} (hp : q_H τ p = true) {k15 : Int32 → Int32 → Int32 → Int32 → k_Mem → Option (Int32 × k_Mem)} {x2 x3 x5 : Int32} {σ : k_Mem} (hN : q_N τ σ) (hM : q_M 0 (q_up τ 4 a p) σ) : ∃ σ1, l_X7_pensFor_123 k15 1000 (nI a) x2 x3 (nI p) x5 0 σ = (if x5 = 0 then j_X7_pensFor_168 k15 (nI a) x3 (nI p) x2 0 σ1 else j_X7_pensFor_168 k15 (nI a) x3 (nI p) x2 (k_shl 1 (nI p)) σ1) ∧ k_Sm [78] σ σ1 ∧ (∀ t, t < 3 → σ1 78 (3 * p + t) = nI (q_sh (q_up τ 4 a p) a t)) ∧ ∀ i, i < 3 * p → σ1 78 i = σ 78 i := by
  have p8 := q_H8 hI hp
  have hI2 := q_upI (a := a) hI hp
  have one : ∀ (σ' : k_Mem) f t, t < 3 → σ' 67 = σ 67 → σ' 68 = σ 68 → l_X7_pensFor_123 k15 (f + 1) (nI a) x2 x3 (nI p) x5 (nI t) σ' = l_X7_pensFor_123 k15 f (nI a) x2 x3 (nI p) x5 (nI (t + 1)) (k_mset σ' 78 (3 * p + t) (nI (q_sh (q_up τ 4 a p) a t))) := by
    intro σ' f t ht h67 h68
    have hN' : q_N τ σ' := q_N_sm hN h67
    have hN2 : q_N (q_up τ 4 a p) σ' := ⟨by rw [q_up_t (by omega)]; exact hN'.1, by rw [q_up_t (by omega)]; exact hN'.2⟩
    rw [l_X7_pensFor_123, show (3 : Int32) = nI 3 from rfl, if_neg (nI_ge (by omega) (by omega)), w_shows hI2 hN2 (q_M_sm hM h68) (q_upH ha) ht, q_bd, q_mul, q_add, q_inT (show 3 * p + t < 24 by omega) (by omega), if_pos rfl, q_n (by omega), show nI t + 1 = nI (t + 1) from nI_1 _]
  have o0 := one σ 999 0 (by omega) rfl rfl
  have o1 := one (k_mset σ 78 (3 * p + 0) (nI (q_sh (q_up τ 4 a p) a 0))) 998 1 (by omega) (q_ms_ne _ _ (by decide)) (q_ms_ne _ _ (by decide))
  have o2 := one (k_mset (k_mset σ 78 (3 * p + 0) (nI (q_sh (q_up τ 4 a p) a 0))) 78 (3 * p + 1) (nI (q_sh (q_up τ 4 a p) a 1))) 997 2 (by omega) (by rw [q_ms_ne _ _ (by decide), q_ms_ne _ _ (by decide)]) (by rw [q_ms_ne _ _ (by decide), q_ms_ne _ _ (by decide)])
  rw [show (0 : Int32) = nI 0 from rfl] at *
  rw [o0, o1, o2, l_X7_pensFor_123, if_pos (by decide)]
  refine ⟨_, rfl, fun c hc => ?_, fun t ht => ?_, fun i hi => ?_⟩
  · have : c ≠ 78 := by simpa using hc
    rw [q_ms_ne _ _ this, q_ms_ne _ _ this, q_ms_ne _ _ this]
  · have : t = 0 ∨ t = 1 ∨ t = 2 := by omega
    rcases this with rfl | rfl | rfl
    · rw [q_ms, if_neg (by omega), q_ms, if_neg (by omega), q_ms, if_pos ⟨rfl, rfl⟩]
    · rw [q_ms, if_neg (by omega), q_ms, if_pos ⟨rfl, rfl⟩]
    · rw [q_ms, if_pos ⟨rfl, rfl⟩]
  · rw [q_ms, if_neg (by omega), q_ms, if_neg (by omega), q_ms, if_neg (by omega)]
theorem w_fit_l (hI : q_I τ) (ha : q_H τ a = true) (hm : m ≤ 6) (hs : ∀ i, i < m → sa i < 8 ∧ st i < 3 ∧ sv i < 10) {had : Int32} : ∀ (r p f p0 : Nat) (σ : k_Mem), p + r = 8 → r < f → q_N τ σ → q_M 0 (q_up τ 4 a p0) σ → q_sM τ m sa st sv σ → (∀ q, q < p → q_H τ q = true → ∀ t, t < 3 → σ 78 (3 * q + t) = nI (q_sh (q_up τ 4 a q) a t)) → ∃ σ1, l_X7_pensFor_15 f (nI a) (nI (q_bb (q_ft τ a m sa st sv) p)) had (nI p) σ = some (nI (q_bb (q_ft τ a m sa st sv) 8), k_mset σ1 68 (32 + a) had) ∧ (∀ i, i ≠ 32 + a → σ1 68 i = σ 68 i) ∧ k_Sm [68, 78] σ σ1 ∧ (∀ q, q < 8 → q_H τ q = true → ∀ t, t < 3 → σ1 78 (3 * q + t) = nI (q_sh (q_up τ 4 a q) a t)) := by
  have a8 := q_H8 hI ha
  intro r
  induction r with
  | zero =>
    intro p f p0 σ h1 h2 h3 h4 h5 h6
    obtain ⟨f, rfl⟩ : ∃ g, f = g + 1 := ⟨f - 1, by omega⟩
    obtain rfl : p = 8 := by omega
    rw [l_X7_pensFor_15, if_pos (by decide), show (32 : Int32) = nI 32 from rfl, q_add, q_inT (show 32 + a < 250 by omega) (by omega), if_pos rfl, q_n (by omega)]
    exact ⟨σ, rfl, fun _ _ => rfl, sm_rf, h6⟩
  | succ r ih =>
    intro p f p0 σ h1 h2 h3 h4 h5 h6
    obtain ⟨f, rfl⟩ : ∃ g, f = g + 1 := ⟨f - 1, by omega⟩
    rw [l_X7_pensFor_15, show (8 : Int32) = nI 8 from rfl, if_neg (nI_ge (by omega) (by omega)), w_isHand hI h3 (by omega), q_bd]
    cases hp : q_H τ p
    · rw [if_pos (show q_b false = 0 from rfl)]
      unfold j_X7_pensFor_170
      rw [show nI p + 1 = nI (p + 1) from nI_1 _]
      have hF : q_ft τ a m sa st sv p = false := by unfold q_ft; rw [hp]; rfl
      have := ih (p + 1) f p0 σ (by omega) (by omega) h3 h4 h5 (fun q hq hq2 t ht => by
        by_cases h : q = p
        · subst h; rw [hp] at hq2; cases hq2
        · exact h6 q (by omega) hq2 t ht)
      rwa [q_bb_0 hF] at this
    · rw [if_neg (show ¬ q_b true = 0 by decide), show (32 : Int32) = nI 32 from rfl, q_add, q_inT (show 32 + a < 250 by omega) (by omega), if_pos rfl, q_n (by omega)]
      generalize hσ2 : k_mset σ 68 (32 + a) (nI p - nI a) = σ2
      have hM2 : q_M 0 (q_up τ 4 a p) σ2 := by
        by_cases h0 : True
        · rw [← hσ2]
          have hu : q_up (q_up τ 4 a p0) 4 a p = q_up τ 4 a p := q_up_up _ _ _ _ _
          have h7 : ∀ b, q_H (q_up τ 4 a p0) b = q_H τ b := fun b => q_H_up (by omega) b
          have h8 : ∀ b, q_H (q_up τ 4 a p) b = q_H τ b := fun b => q_H_up (by omega) b
          refine q_M_mk (fun t c ht hc => ?_) (fun c hc => ?_) (fun c hc => ?_) ?_ ?_
          · rw [h8] at hc
            have c8 := q_H8 hI hc
            rw [q_ms, if_neg (by omega), q_Mrow h4 ht (by rw [h7]; exact hc), q_up_t (by omega), q_up_t (by omega)]
          · rw [h8] at hc
            have c8 := q_H8 hI hc
            rw [q_ms]
            by_cases hca : c = a
            · subst hca; rw [if_pos ⟨rfl, by omega⟩, q_up_s]
            · rw [if_neg (by omega), (h4.1 c (by rw [h7]; exact hc)).2.2.2.2, q_up_a hca, q_up_a hca]
          · rw [q_ms, if_neg (by omega), q_ms, if_neg (by omega)]
            have := h4.2.1 c hc
            rw [q_up_t (by omega), q_up_t (by omega)] at this ⊢
            exact this
          · rw [q_ms, if_neg (by omega)]
            have := h4.2.2.1
            rw [q_up_t (by omega)] at this ⊢
            exact this
          · rw [q_ms, if_neg (by omega)]
            have := h4.2.2.2
            rw [q_up_t (by omega)] at this ⊢
            exact this
        · exact absurd trivial h0
      have e2 : ∀ c, c ≠ 68 → σ2 c = σ c := fun c hc => by rw [← hσ2, q_ms_ne _ _ hc]
      have hN2 : q_N τ σ2 := q_N_sm h3 (e2 67 (by decide))
      have hS2 : q_sM τ m sa st sv σ2 := by unfold q_sM; rw [e2 67 (by decide), e2 77 (by decide)]; exact h5
      obtain ⟨b', g1, g2⟩ := w_fit50 hI ha hp hm hs hN2 hM2 hS2 (k15 := fun x1 x2 x3 x4 σ => l_X7_pensFor_15 f x1 x2 x3 x4 σ) (x2 := nI (q_bb (q_ft τ a m sa st sv) p)) (x3 := had) (x4 := nI p) m 0 1000 true (by omega) (by omega)
      rw [show l_X7_pensFor_50 (fun x1 x2 x3 x4 σ => l_X7_pensFor_15 f x1 x2 x3 x4 σ) 1000 (nI a) (nI (q_bb (q_ft τ a m sa st sv) p)) had (nI p) 1 0 σ2 = _ from g1]
      obtain ⟨σ3, k1, k2, k3, k4⟩ := w_fit123 hI ha hp hN2 hM2 (k15 := fun x1 x2 x3 x4 σ => l_X7_pensFor_15 f x1 x2 x3 x4 σ) (x2 := nI (q_bb (q_ft τ a m sa st sv) p)) (x3 := had) (x5 := q_b b')
      rw [k1]
      unfold j_X7_pensFor_168 j_X7_pensFor_170
      have hFb : q_ft τ a m sa st sv p = b' := by
        cases b'
        · cases hq : q_ft τ a m sa st sv p
          · rfl
          · exfalso
            unfold q_ft at hq
            rw [hp] at hq
            simp at hq
            exact absurd (g2.mpr ⟨rfl, fun j _ hj => hq j hj⟩) (by decide)
        · have := (g2.mp rfl).2
          unfold q_ft; rw [hp]; simp; exact fun j hj => this j (by omega) hj
      have s68 : σ3 68 = σ2 68 := k2 68 (by decide)
      have nx := ih (p + 1) f p σ3 (by omega) (by omega) (q_N_sm hN2 (k2 67 (by decide))) (q_M_sm hM2 s68) (by unfold q_sM; rw [k2 67 (by decide), k2 77 (by decide)]; exact hS2) (fun q hq hq2 t ht => by
        by_cases h : q = p
        · subst h; exact k3 t ht
        · rw [k4 _ (by omega), e2 78 (by decide)]; exact h6 q (by omega) hq2 t ht)
      have fin : ∀ σ1, (∀ i, i ≠ 32 + a → σ1 68 i = σ3 68 i) → k_Sm [68, 78] σ3 σ1 → (∀ i, i ≠ 32 + a → σ1 68 i = σ 68 i) ∧ k_Sm [68, 78] σ σ1 := fun σ1 q1 q2 => by
        refine ⟨fun i hi => by rw [q1 i hi, s68, ← hσ2, q_ms, if_neg (fun h => hi h.2)], fun c hc => ?_⟩
        have h68 : c ≠ 68 := fun e => hc (by rw [e]; decide)
        have h78 : c ≠ 78 := fun e => hc (by rw [e]; decide)
        rw [q2 c hc, k2 c (by simpa using h78), e2 c h68]
      cases b'
      · rw [if_pos (show q_b false = 0 from rfl), Int32.or_zero, show nI p + 1 = nI (p + 1) from nI_1 _]
        rw [q_bb_0 hFb] at nx
        obtain ⟨σ1, f1, f2, f3, f4⟩ := nx
        exact ⟨σ1, f1, (fin σ1 f2 f3).1, (fin σ1 f2 f3).2, f4⟩
      · rw [if_neg (show ¬ q_b true = 0 by decide), q_bb_or1 (by omega) hFb, show nI p + 1 = nI (p + 1) from nI_1 _]
        obtain ⟨σ1, f1, f2, f3, f4⟩ := nx
        exact ⟨σ1, f1, (fin σ1 f2 f3).1, (fin σ1 f2 f3).2, f4⟩
/-- both sides' pens that fit -/
theorem v_fitting (hI : q_I τ) (ha : q_H τ a = true) (hm : m ≤ 6) (hs : ∀ i, i < m → sa i < 8 ∧ st i < 3 ∧ sv i < 10) {σ : k_Mem} (hC : q_C 6 τ σ) (hS : q_sC τ m sa st sv σ) : ∃ σ1, f_X6_fittingPens (nI a) σ = some (nI (q_bb (q_ft τ a m sa st sv) 8), σ1) ∧ ∀ c, c < 14 ∨ 21 < c → σ1 c = σ c := by
  obtain ⟨σ1, e1, e2, e3⟩ := v_become (b0 := 14) (b1 := 6) hI (by omega) hC
  have e3' : ∀ c, c < 14 ∨ 21 < c → σ1 c = σ c := fun c hc => e3 c (by simp; omega)
  obtain ⟨σ2, f1, f2⟩ := v_fit_l hI ha hm hs 8 0 1000 (τ 4 a) σ1 (by omega) (by omega) (q_C_sm hC (fun c _ _ => e3' c (by omega))) (by rw [q_up_id]; exact e2) (by unfold q_sC; rw [e3' 55 (by omega), e3' 56 (by omega), e3' 57 (by omega), e3' 58 (by omega)]; exact hS)
  unfold f_X6_fittingPens
  rw [e1, q_bd]
  exact ⟨σ2, f1, fun c hc => by rw [f2 c (by simp; omega), e3' c hc]⟩
theorem w_fitting (hI : q_I τ) (ha : q_H τ a = true) (hm : m ≤ 6) (hs : ∀ i, i < m → sa i < 8 ∧ st i < 3 ∧ sv i < 10) {σ : k_Mem} (hN : q_N τ σ) (hM : q_M 0 τ σ) (hS : q_sM τ m sa st sv σ) : ∃ σ1, f_X7_pensFor (nI a) σ = some (nI (q_bb (q_ft τ a m sa st sv) 8), σ1) ∧ k_Sm [68, 78] σ σ1 ∧ (∀ i, σ1 68 i = σ 68 i) ∧ (∀ q, q < 8 → q_H τ q = true → ∀ t, t < 3 → σ1 78 (3 * q + t) = nI (q_sh (q_up τ 4 a q) a t)) := by
  have a8 := q_H8 hI ha
  obtain ⟨σ1, f1, f2, f3, f4⟩ := w_fit_l (had := σ 68 (32 + a)) hI ha hm hs 8 0 1000 (τ 4 a) σ (by omega) (by omega) hN (by rw [q_up_id]; exact hM) hS (fun q hq => absurd hq (by omega))
  unfold f_X7_pensFor
  rw [show (32 : Int32) = nI 32 from rfl, q_add, q_inT (show 32 + a < 250 by omega) (by omega), if_pos rfl, q_n (by omega)]
  refine ⟨_, f1, fun c hc => ?_, fun i => ?_, fun q hq hq2 t ht => ?_⟩
  · rw [q_ms_ne _ _ (fun e => hc (by rw [e]; decide)), f3 c hc]
  · rw [q_ms]
    by_cases h : i = 32 + a
    · rw [if_pos ⟨rfl, h⟩, h]
    · rw [if_neg (fun g => h g.2), f2 i h]
  · rw [q_ms_ne _ _ (by decide)]; exact f4 q hq hq2 t ht
end
theorem q_sc14 {c : Nat} (hc : c ∉ q_sc) : c < 14 ∨ 21 < c := by
  by_cases h : c < 14 ∨ 21 < c
  · exact h
  · exfalso
    have : c = 14 ∨ c = 15 ∨ c = 16 ∨ c = 17 ∨ c = 18 ∨ c = 19 ∨ c = 20 ∨ c = 21 := by omega
    exact hc (by rcases this with rfl | rfl | rfl | rfl | rfl | rfl | rfl | rfl <;> decide)
theorem q_R_78 {τ : k_TW} {im : Nat → Option k_TW} {σ σ1 : k_Mem} (h : q_R τ im σ) (hs : k_Sm [68, 78] σ σ1) (e68 : ∀ i, σ1 68 i = σ 68 i) : q_R τ im σ1 := q_R_68 h (k_Sm_mono hs (by decide)) (fun i _ => e68 i)
theorem o_fits (x : Int32) : q_Op (fun σ => f_X6_fits x σ) (fun σ => f_X7_fits x σ) := by
  intro σ hr
  obtain ⟨τ, im, hR⟩ := hr
  have hR0 := hR
  obtain ⟨hI, hC, hN, hM, him, htp, hsn, hss, hot⟩ := hR
  dsimp only
  unfold f_X6_fits f_X7_fits
  rcases q_hand x (im := im) hI with ⟨a, a8, rfl, ha⟩ | ⟨h1, h2⟩
  · obtain ⟨m, sa, st, sv, hm, hs, s1, s2, s3⟩ := q_sn_f hI hsn
    obtain ⟨σ1, e1, e2⟩ := v_fitting hI ha hm hs hC s1
    have hR1 : q_R τ im σ1 := q_R_sc hR0 (fun c hc => e2 c (q_sc14 hc))
    obtain ⟨σ2, f1, f2, f3, f4⟩ := w_fitting hI ha hm hs (σ := σ1) hR1.2.2.1 hR1.2.2.2.1 (by unfold q_sM; rw [e2 67 (by omega), e2 77 (by omega)]; exact s3)
    rw [v_isH1 hI hC ha, q_bd, if_neg q_10, e1, q_bd]
    refine ⟨_, σ1, σ2, rfl, ?_, τ, im, q_R_78 hR1 f2 f3⟩
    rw [w_isH1 hI hR1.2.2.1 ha, q_bd, if_neg q_10, f1, q_bd]
  · rw [h1 6 σ hC, q_bd, if_pos rfl]
    refine ⟨_, _, _, rfl, ?_, τ, im, hR0⟩
    rw [h2 σ hN, q_bd, if_pos rfl]
