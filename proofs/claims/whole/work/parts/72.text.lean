/-! PURE: text -/
def q_t0 : k_TW := fun t a => if t = 4 then a else 0
theorem q_t0_H (c : Nat) : q_H q_t0 c = false := by
  cases h : q_H q_t0 c
  · rfl
  · rw [q_Hb] at h
    have h1 : q_t0 7 0 = 0 := rfl
    have h2 : q_t0 7 1 = 0 := rfl
    omega
theorem q_t0_P : q_PI q_t0 0 := by
  refine ⟨by decide, by decide, by decide, rfl, by decide, fun a ha => ?_, fun a ha => ⟨ha, fun _ => rfl⟩, fun a ha => ⟨Nat.zero_le _, fun h => absurd rfl h⟩, fun a ha => ⟨Nat.zero_lt_succ _, fun b hb => ?_⟩⟩
  · rw [q_t0_H] at ha; cases ha
  · rw [show q_t0 6 a = 0 from rfl, Nat.zero_testBit] at hb; cases hb
theorem v_clear38 (σ : k_Mem) : ∃ σ1, f_X5_clear 38 σ = some ((), σ1) ∧ (σ1 38 7 = 0 ∧ σ1 38 8 = 0 ∧ σ1 38 9 = 0 ∧ σ1 38 10 = 0) ∧ (∀ a, a < 8 → σ1 43 a = nI a ∧ σ1 44 a = -1 ∧ σ1 45 a = 0) ∧ ∀ k, k < 38 ∨ 45 < k → σ1 k = σ k := by
  have key : ∀ m i f (σ' : k_Mem), i + m = 8 → m < f → (∀ a, a < i → σ' 43 a = nI a ∧ σ' 44 a = -1 ∧ σ' 45 a = 0) → ∃ σ1, l_X5_clear_2 38 f (nI i) σ' = some ((), σ1) ∧ (σ1 38 7 = 0 ∧ σ1 38 8 = 0 ∧ σ1 38 9 = 0 ∧ σ1 38 10 = 0) ∧ (∀ a, a < 8 → σ1 43 a = nI a ∧ σ1 44 a = -1 ∧ σ1 45 a = 0) ∧ ∀ k, k < 38 ∨ 45 < k → σ1 k = σ' k := by
    intro m
    induction m with
    | zero =>
      intro i f σ' h1 h2 h3
      obtain ⟨f, rfl⟩ : ∃ g, f = g + 1 := ⟨f - 1, by omega⟩
      obtain rfl : i = 8 := by omega
      rw [l_X5_clear_2, if_pos (by decide)]
      refine ⟨_, rfl, ⟨by simp [q_ms], by simp [q_ms], by simp [q_ms], by simp [q_ms]⟩, fun a ha => ?_, fun k hk => by rw [q_ms_ne _ _ (by omega), q_ms_ne _ _ (by omega), q_ms_ne _ _ (by omega), q_ms_ne _ _ (by omega)]⟩
      have e : ∀ k, k ≠ 38 → (k_mset (k_mset (k_mset (k_mset σ' 38 7 0) 38 8 0) 38 9 0) 38 10 0) k = σ' k := fun k hk => by rw [q_ms_ne _ _ hk, q_ms_ne _ _ hk, q_ms_ne _ _ hk, q_ms_ne _ _ hk]
      rw [e 43 (by omega), e 44 (by omega), e 45 (by omega)]; exact h3 a ha
    | succ m ih =>
      intro i f σ' h1 h2 h3
      obtain ⟨f, rfl⟩ : ∃ g, f = g + 1 := ⟨f - 1, by omega⟩
      rw [l_X5_clear_2, show (8 : Int32) = nI 8 from rfl, if_neg (nI_ge (by omega) (by omega)), q_inT (show i < 8 by omega) (by omega), if_pos rfl, if_pos rfl, if_pos rfl, q_n (by omega), show nI i + 1 = nI (i + 1) from nI_1 _, show (38 : Nat) + 5 = 43 from rfl, show (38 : Nat) + 6 = 44 from rfl, show (38 : Nat) + 7 = 45 from rfl]
      obtain ⟨σ1, e1, e2, e3, e4⟩ := ih (i + 1) f (k_mset (k_mset (k_mset σ' 43 i (nI i)) 44 i (-1)) 45 i 0) (by omega) (by omega) (fun a ha => by
        by_cases h : a = i
        · subst h
          exact ⟨by rw [q_ms_ne _ _ (by decide), q_ms_ne _ _ (by decide), q_ms, if_pos ⟨rfl, rfl⟩], by rw [q_ms_ne _ _ (by decide), q_ms, if_pos ⟨rfl, rfl⟩], by rw [q_ms, if_pos ⟨rfl, rfl⟩]⟩
        · obtain ⟨g1, g2, g3⟩ := h3 a (by omega)
          exact ⟨by rw [q_ms_ne _ _ (by decide), q_ms_ne _ _ (by decide), q_ms, if_neg (fun g => h g.2)]; exact g1, by rw [q_ms_ne _ _ (by decide), q_ms, if_neg (fun g => h g.2), q_ms_ne _ _ (by decide)]; exact g2, by rw [q_ms, if_neg (fun g => h g.2), q_ms_ne _ _ (by decide), q_ms_ne _ _ (by decide)]; exact g3⟩)
      exact ⟨σ1, e1, e2, e3, fun k hk => by rw [e4 k hk, q_ms_ne _ _ (by omega), q_ms_ne _ _ (by omega), q_ms_ne _ _ (by omega)]⟩
  exact key 8 0 1000 σ (by omega) (by omega) (fun a ha => absurd ha (by omega))
/-- the class's text -/
theorem v_parse {cb : Nat → Nat} {n : Nat} (hn : n ≤ 160) {σ : k_Mem} (hT : q_TP cb n σ) {code place l : Nat} {τ' : k_TW} {T' : Nat} (hk : ∀ σ f, n + 1 < f → q_TP cb n σ → q_TA cb n 0 σ → q_DC q_t0 0 σ → σ 3 2 = 0 → σ 3 4 = nI 0 → ∃ σ1, l_X1_parse_43 f (nI 0) σ = some ((), σ1) ∧ q_gC σ σ1 ∧ (code = 0 → σ1 3 2 = 0 ∧ σ1 3 4 = nI l ∧ q_DC τ' T' σ1) ∧ (code ≠ 0 → σ1 3 2 = nI code ∧ σ1 3 3 = nI place)) : ∃ σ1, f_X1_parse σ = some ((), σ1) ∧ q_gC σ σ1 ∧ (code = 0 → σ1 3 2 = 0 ∧ σ1 3 4 = nI l ∧ q_DC τ' T' σ1) ∧ (code ≠ 0 → σ1 3 2 = nI code ∧ σ1 3 3 = nI place) := by
  obtain ⟨σ1, e1, e2, e3, e4⟩ := v_clear38 σ
  unfold f_X1_parse f_X4_rewind
  rw [e1, q_bd, q_bd]
  generalize hσ2 : k_mset (k_mset (k_mset (k_mset (k_mset (k_mset (k_mset σ1 3 2 0) 3 3 0) 3 4 0) 3 5 0) 1 2 0) 1 3 0) 1 4 0 = σ2
  have s : ∀ k, k ≠ 1 → k ≠ 3 → σ2 k = σ1 k := fun k k1 k3 => by rw [← hσ2, q_ms_ne _ _ k1, q_ms_ne _ _ k1, q_ms_ne _ _ k1, q_ms_ne _ _ k3, q_ms_ne _ _ k3, q_ms_ne _ _ k3, q_ms_ne _ _ k3]
  have s11 : σ2 1 1 = σ 1 1 := by rw [← hσ2]; simp [q_ms, e4 1 (by omega)]
  have s14 : σ2 1 4 = nI 0 := by rw [← hσ2]; simp [q_ms]; rfl
  have s32 : σ2 3 2 = 0 := by rw [← hσ2]; simp [q_ms]
  have s34 : σ2 3 4 = nI 0 := by rw [← hσ2]; simp [q_ms]; rfl
  have s35 : σ2 3 5 = nI 0 := by rw [← hσ2]; simp [q_ms]; rfl
  have hT2 : q_TP cb n σ2 := q_TP_f hT s11 (by rw [s 2 (by omega) (by omega), e4 2 (by omega)])
  obtain ⟨σ3, f1, f2, f3, f4⟩ := v_advance hn hT2 (p := 0) (by omega) s14
  rw [f1, q_bd]
  have hDC : q_DC q_t0 0 σ2 := by
    refine ⟨by rw [s 38 (by omega) (by omega)]; exact e2.1, by rw [s 38 (by omega) (by omega)]; exact e2.2.1, by rw [s 38 (by omega) (by omega)]; exact e2.2.2.1, by rw [s 38 (by omega) (by omega)]; exact e2.2.2.2, fun a ha => absurd ha (by rw [q_t0_H]; decide), fun a ha => ?_, s35⟩
    rw [s 43 (by omega) (by omega), s 44 (by omega) (by omega), s 45 (by omega) (by omega)]
    obtain ⟨g1, g2, g3⟩ := e3 a ha
    exact ⟨g1, g2, g3⟩
  obtain ⟨σ4, g1, g2, g3, g4⟩ := hk σ3 1000 (by omega) (q_TP_f hT2 f3 (f2 2 (by omega))) f4 (q_DC_sm hDC (fun k k1 k2 => f2 k (by omega)) (by rw [f2 3 (by omega)])) (by rw [f2 3 (by omega)]; exact s32) (by rw [f2 3 (by omega)]; exact s34)
  refine ⟨σ4, g1, ⟨fun k k1 k3 kk => by rw [g2.1 k k1 k3 kk, f2 k k1, s k k1 k3, e4 k kk], by rw [g2.2, f3, s11]⟩, g3, g4⟩
/-- the reference's text, up to its last step -/
theorem w_text {cb : Nat → Nat} {n : Nat} (hn : n ≤ 160) {σ : k_Mem} (hM : q_MP cb n σ) (h71 : σ 71 = k_σ0 71) (h72 : σ 72 = k_σ0 72) {code place l : Nat} {τ' : k_TW} {T' : Nat} (hk : ∀ σ f, n + 1 < f → q_MP cb n σ → q_LA cb n 0 σ → q_DM q_t0 0 σ → σ 71 = k_σ0 71 → σ 72 = k_σ0 72 → ∃ σ1 x, l_X7_text_62 f (nI 0) σ = j_X7_text_120 x σ1 ∧ q_fM σ σ1 ∧ (code = 0 → x = nI l ∧ σ1 67 12 = 0 ∧ q_DM τ' T' σ1) ∧ (code ≠ 0 → σ1 67 12 = nI code ∧ σ1 67 13 = nI place)) : ∃ σ1 x, f_X7_text σ = j_X7_text_120 x σ1 ∧ q_fM σ σ1 ∧ (code = 0 → x = nI l ∧ σ1 67 12 = 0 ∧ q_DM τ' T' σ1) ∧ (code ≠ 0 → σ1 67 12 = nI code ∧ σ1 67 13 = nI place) := by
  unfold f_X7_text
  generalize hσ1 : k_mset (k_mset (k_mset (k_mset (k_mset (k_mset (k_mset σ 67 12 0) 67 14 0) 67 4 0) 67 5 0) 67 6 0) 67 7 0) 67 8 0 = σ1
  have f1 : q_fM σ σ1 := by
    rw [← hσ1]
    exact q_fM_tr (q_fM_tr (q_fM_tr (q_fM_tr (q_fM_tr (q_fM_tr (q_fM_set (Or.inr ⟨rfl, by omega⟩)) (q_fM_set (Or.inr ⟨rfl, by omega⟩))) (q_fM_set (Or.inr ⟨rfl, by omega⟩))) (q_fM_set (Or.inr ⟨rfl, by omega⟩))) (q_fM_set (Or.inr ⟨rfl, by omega⟩))) (q_fM_set (Or.inr ⟨rfl, by omega⟩))) (q_fM_set (Or.inr ⟨rfl, by omega⟩))
  have z12 : σ1 67 12 = 0 := by rw [← hσ1]; simp [q_ms]
  have z14 : σ1 67 14 = nI 0 := by rw [← hσ1]; simp [q_ms]; rfl
  have z4 : σ1 67 4 = 0 := by rw [← hσ1]; simp [q_ms]
  have z5 : σ1 67 5 = 0 := by rw [← hσ1]; simp [q_ms]
  have z6 : σ1 67 6 = 0 := by rw [← hσ1]; simp [q_ms]
  have z7 : σ1 67 7 = 0 := by rw [← hσ1]; simp [q_ms]
  have z8 : σ1 67 8 = 0 := by rw [← hσ1]; simp [q_ms]
  have key : ∀ m i f (σ' : k_Mem), i + m = 50 → m < f → (∀ j, j < i → σ' 69 j = 0) → ∃ σ2, l_X7_text_39 f 0 (nI i) σ' = k_bd (f_X7_step σ2) (fun _ σ3 => l_X7_text_62 1000 0 σ3) ∧ (∀ j, j < 50 → σ2 69 j = 0) ∧ ∀ k, k ≠ 69 → σ2 k = σ' k := by
    intro m
    induction m with
    | zero =>
      intro i f σ' h1 h2 h3
      obtain ⟨f, rfl⟩ : ∃ g, f = g + 1 := ⟨f - 1, by omega⟩
      obtain rfl : i = 50 := by omega
      rw [l_X7_text_39, if_pos (by decide)]
      exact ⟨σ', rfl, h3, fun _ _ => rfl⟩
    | succ m ih =>
      intro i f σ' h1 h2 h3
      obtain ⟨f, rfl⟩ : ∃ g, f = g + 1 := ⟨f - 1, by omega⟩
      rw [l_X7_text_39, show (50 : Int32) = nI 50 from rfl, if_neg (nI_ge (by omega) (by omega)), q_inT (show i < 50 by omega) (by omega), if_pos rfl, q_n (by omega), show nI i + 1 = nI (i + 1) from nI_1 _]
      obtain ⟨σ2, e1, e2, e3⟩ := ih (i + 1) f (k_mset σ' 69 i 0) (by omega) (by omega) (fun j hj => by
        rw [q_ms]
        by_cases h : j = i
        · rw [if_pos ⟨rfl, h⟩]
        · rw [if_neg (fun g => h g.2)]; exact h3 j (by omega))
      exact ⟨σ2, e1, e2, fun k hk => by rw [e3 k hk, q_ms_ne _ _ hk]⟩
  obtain ⟨σ2, e1, e2, e3⟩ := key 50 0 1000 σ1 (by omega) (by omega) (fun j hj => absurd hj (by omega))
  rw [show nI 0 = 0 from rfl] at e1
  have f2 : q_fM σ σ2 := q_fM_tr f1 ⟨fun k k1 k2 => e3 k k2, fun j _ => by rw [e3 67 (by omega)]⟩
  obtain ⟨σ3, g1, g2, g3, g4⟩ := w_step hn (q_MP_f hM f2) (p := 0) (by omega) (by rw [e3 67 (by omega)]; exact z12) (by rw [e3 67 (by omega)]; exact z14)
  have f3 : q_fM σ σ3 := q_fM_tr f2 ⟨fun k k1 _ => g3 k k1, fun j hj => g4 j (by omega)⟩
  have hDM : q_DM q_t0 0 σ3 := by
    refine q_DM_sm (σ := σ2) ?_ (fun j j1 j2 => g4 j (by omega)) (g3 69 (by omega))
    unfold q_DM
    rw [e3 67 (by omega)]
    refine ⟨z4, z5, z6, ⟨0, by omega, z7, fun c hc => ?_⟩, ⟨0, by omega, z8, fun c hc => ?_⟩, fun a ha => absurd ha (by rw [q_t0_H]; decide), fun a ha => ?_, fun a ha => ⟨e2 _ (by omega), e2 _ (by omega)⟩, e2 _ (by omega), e2 _ (by omega)⟩
    · rw [Nat.zero_testBit]; exact ⟨fun h => absurd h (by decide), fun h => absurd rfl h⟩
    · rw [Nat.zero_testBit]
      refine ⟨fun h => absurd h (by decide), fun h => ?_⟩
      unfold q_NM at h
      rcases h with h | h | h | ⟨x, x1, x2⟩ | ⟨x, x1, x2, x3⟩
      · rw [Nat.zero_testBit] at h; cases h
      · rw [show q_t0 7 2 = 0 from rfl, Nat.zero_testBit] at h; cases h
      · exact absurd rfl h
      · rw [show q_t0 6 x = 0 from rfl, Nat.zero_testBit] at x2; cases x2
      · rw [Nat.zero_testBit] at x2; cases x2
    · rw [e2 _ (by omega), show q_t0 4 a = a from rfl, Int32.sub_self]
  obtain ⟨σ4, x, t1, t2, t3, t4⟩ := hk σ3 1000 (by omega) (q_MP_f hM f3) g2 hDM (by rw [f3.1 71 (by omega) (by omega)]; exact h71) (by rw [f3.1 72 (by omega) (by omega)]; exact h72)
  refine ⟨σ4, x, ?_, q_fM_tr f3 t2, t3, t4⟩
  rw [e1, g1, q_bd]
  exact t1
theorem w_150 {σ : k_Mem} (x : Int32) : ∃ σ1, l_X7_text_150 1000 x 0 σ = some (x, σ1) ∧ (∀ i, σ1 68 i = if i < 50 then σ 69 i else σ 68 i) ∧ σ1 67 1 = σ 67 4 ∧ σ1 67 2 = σ 67 5 ∧ σ1 67 25 = 0 ∧ (∀ j, j ≠ 1 → j ≠ 2 → j ≠ 25 → σ1 67 j = σ 67 j) ∧ σ1 79 0 = 0 ∧ σ1 79 1 = 0 ∧ ∀ k, k ≠ 67 → k ≠ 68 → k ≠ 79 → σ1 k = σ k := by
  have key : ∀ m i f (σ' : k_Mem), i + m = 50 → m < f → ∃ σ1, l_X7_text_150 f x (nI i) σ' = some (x, σ1) ∧ (∀ j, σ1 68 j = if i ≤ j ∧ j < 50 then σ' 69 j else σ' 68 j) ∧ σ1 67 1 = σ' 67 4 ∧ σ1 67 2 = σ' 67 5 ∧ σ1 67 25 = 0 ∧ (∀ j, j ≠ 1 → j ≠ 2 → j ≠ 25 → σ1 67 j = σ' 67 j) ∧ σ1 79 0 = 0 ∧ σ1 79 1 = 0 ∧ ∀ k, k ≠ 67 → k ≠ 68 → k ≠ 79 → σ1 k = σ' k := by
    intro m
    induction m with
    | zero =>
      intro i f σ' h1 h2
      obtain ⟨f, rfl⟩ : ∃ g, f = g + 1 := ⟨f - 1, by omega⟩
      obtain rfl : i = 50 := by omega
      rw [l_X7_text_150, if_pos (by decide), if_pos (by decide), if_pos (by decide)]
      unfold k_ct
      rw [show k_n 0 = 0 by decide, show k_n 1 = 1 by decide, show vp_nar .boolean 0 = 0 from rfl]
      refine ⟨_, rfl, fun j => ?_, by simp [q_ms], by simp [q_ms], by simp [q_ms], fun j j1 j2 j3 => ?_, by simp [q_ms], by simp [q_ms], fun k k1 k2 k3 => ?_⟩
      · rw [if_neg (by omega), q_ms_ne _ _ (by decide), q_ms_ne _ _ (by decide), q_ms_ne _ _ (by decide), q_ms_ne _ _ (by decide), q_ms_ne _ _ (by decide)]
      · rw [q_ms_ne _ _ (by decide), q_ms_ne _ _ (by decide), q_ms, if_neg (fun g => j3 g.2), q_ms, if_neg (fun g => j2 g.2), q_ms, if_neg (fun g => j1 g.2)]
      · rw [q_ms_ne _ _ k3, q_ms_ne _ _ k3, q_ms_ne _ _ k1, q_ms_ne _ _ k1, q_ms_ne _ _ k1]
    | succ m ih =>
      intro i f σ' h1 h2
      obtain ⟨f, rfl⟩ : ∃ g, f = g + 1 := ⟨f - 1, by omega⟩
      rw [l_X7_text_150, show (50 : Int32) = nI 50 from rfl, if_neg (nI_ge (by omega) (by omega)), q_inT (show i < 50 by omega) (by omega), q_inT (show i < 250 by omega) (by omega), if_pos rfl, if_pos rfl, q_n (by omega), show nI i + 1 = nI (i + 1) from nI_1 _]
      obtain ⟨σ1, e1, e2, e3, e4, e5, e6, e7, e8, e9⟩ := ih (i + 1) f (k_mset σ' 68 i (σ' 69 i)) (by omega) (by omega)
      have s : ∀ k, k ≠ 68 → (k_mset σ' 68 i (σ' 69 i)) k = σ' k := fun k hk => q_ms_ne _ _ hk
      rw [s 67 (by decide)] at e3 e4 e6
      refine ⟨σ1, e1, fun j => ?_, e3, e4, e5, e6, e7, e8, fun k k1 k2 k3 => by rw [e9 k k1 k2 k3, s k k2]⟩
      rw [e2 j, s 69 (by decide), q_ms]
      by_cases hj : j = i
      · subst hj; rw [if_neg (by omega), if_pos ⟨rfl, rfl⟩, if_pos (by omega)]
      · rw [if_neg (show ¬ (68 = 68 ∧ j = i) from fun g => hj g.2)]
        by_cases h : i ≤ j ∧ j < 50
        · rw [if_pos (by omega), if_pos h]
        · rw [if_neg (by omega), if_neg h]
  obtain ⟨σ1, e1, e2, e3⟩ := key 50 0 1000 σ (by omega) (by omega)
  refine ⟨σ1, e1, fun i => ?_, e3⟩
  rw [e2 i]
  by_cases h : i < 50
  · rw [if_pos ⟨by omega, h⟩, if_pos h]
  · rw [if_neg (by omega), if_neg h]
theorem o_text : q_Op (fun σ => f_X6_text σ) (fun σ => f_X7_text σ) := by
  intro σ hr
  obtain ⟨τ, im, hR⟩ := hr
  obtain ⟨hI, hC, hN, hM, him, htp, hsn, hss, hot⟩ := hR
  obtain ⟨n, hn, t1, t2, t3⟩ := htp
  have cbx : ∀ i, i < n → k_n (σ 2 i) < 128 ∧ σ 2 i = nI (k_n (σ 2 i)) ∧ σ 70 i = nI (k_n (σ 2 i)) := fun i hi => by
    obtain ⟨c, c1, c2, c3⟩ := t3 i hi
    rw [c2, c3, q_n (by omega)]; exact ⟨c1, rfl, rfl⟩
  have hT : q_TP (fun i => k_n (σ 2 i)) n σ := ⟨t1, fun i hi => ⟨(cbx i hi).1, (cbx i hi).2.1⟩⟩
  obtain ⟨code, place, l, τ', T', k1, k2, k3, k4⟩ := q_lines (cb := fun i => k_n (σ 2 i)) hn n 0 0 q_t0 0 (by omega) (by omega) (by omega) q_t0_P
  obtain ⟨σ1, e1, e2, e3, e4⟩ := v_parse hn hT k3
  have c12 : ∀ k, k ≠ 1 → (k_mset σ1 1 1 0) k = σ1 k := fun k hk => q_ms_ne _ _ hk
  dsimp only
  unfold f_X6_text
  rw [e1, q_bd, c12 3 (by omega)]
  have mp : ∀ σ', σ' 67 = σ 67 → σ' 70 = σ 70 → q_MP (fun i => k_n (σ 2 i)) n σ' := fun σ' h1 h2 => ⟨by rw [h1]; exact t2, fun i hi => by rw [h2]; exact ⟨(cbx i hi).1, (cbx i hi).2.2⟩⟩
  have ne0 : ∀ c : Nat, c ≠ 0 → c < 100 → ¬ nI c = 0 := fun c h1 h2 => by rw [show (0 : Int32) = nI 0 from rfl, q_eq (by omega) (by omega)]; exact h1
  by_cases hc : code = 0
  · obtain ⟨hI', hP'⟩ := k2 hc
    obtain ⟨g1, g2, g3⟩ := e3 hc
    have hC38 : q_C 38 τ' (k_mset σ1 1 1 0) := by
      obtain ⟨d1, d2, d3, d4, d5, d6, d7⟩ := g3
      unfold q_C
      rw [c12 38 (by omega), c12 (38 + 1) (by omega), c12 (38 + 2) (by omega), c12 (38 + 3) (by omega), c12 (38 + 4) (by omega), c12 (38 + 5) (by omega), c12 (38 + 6) (by omega), c12 (38 + 7) (by omega)]
      refine ⟨d1, d2, d3, d4, fun a ha => ?_, fun a ha => ⟨(d6 a ha).2.1, (d6 a ha).2.2⟩⟩
      obtain ⟨x1, x2, x3, x4⟩ := d5 a ha
      exact ⟨x1, x2, x3, x4, (d6 a (q_H8 hI' ha)).1⟩
    obtain ⟨σ3, b1, b2, b3⟩ := v_become (b0 := 6) (b1 := 38) hI' (by omega) hC38
    have b3' : ∀ c, c < 6 ∨ 13 < c → σ3 c = (k_mset σ1 1 1 0) c := fun c hc => b3 c (by simp; omega)
    rw [if_pos g1, b1, q_bd]
    generalize hσ4 : k_mset (k_mset σ3 55 3 0) 0 4 0 = σ4
    have s4 : ∀ k, k ≠ 55 → k ≠ 0 → σ4 k = σ3 k := fun k h1 h2 => by rw [← hσ4, q_ms_ne _ _ h2, q_ms_ne _ _ h1]
    have s4' : ∀ k, k ≠ 0 → k ≠ 1 → k ≠ 3 → k ≠ 55 → (k < 6 ∨ 13 < k) → (k < 38 ∨ 45 < k) → σ4 k = σ k := fun k h0 h1 h3 h5 h6 h7 => by rw [s4 k h5 h0, b3' k h6, c12 k h1, e2.1 k h1 h3 h7]
    obtain ⟨σ5, x, w1, w2, w3, w4⟩ := w_text hn (mp σ4 (s4' 67 (by omega) (by omega) (by omega) (by omega) (by omega) (by omega)) (s4' 70 (by omega) (by omega) (by omega) (by omega) (by omega) (by omega))) (by rw [s4' 71 (by omega) (by omega) (by omega) (by omega) (by omega) (by omega)]; exact hot.2.2.1) (by rw [s4' 72 (by omega) (by omega) (by omega) (by omega) (by omega) (by omega)]; exact hot.2.2.2) k4
    obtain ⟨rfl, w5, w6⟩ := w3 hc
    generalize hσ6 : k_mset (k_mset σ5 67 10 0) 67 11 ((k_mset σ5 67 10 0) 67 12) = σ6
    have s6 : ∀ j, j ≠ 10 → j ≠ 11 → σ6 67 j = σ5 67 j := fun j h1 h2 => by rw [← hσ6, q_ms, if_neg (fun g => h2 g.2), q_ms, if_neg (fun g => h1 g.2)]
    have s6k : ∀ k, k ≠ 67 → σ6 k = σ5 k := fun k hk => by rw [← hσ6, q_ms_ne _ _ hk, q_ms_ne _ _ hk]
    have z10 : σ6 67 10 = 0 := by rw [← hσ6]; simp [q_ms]
    have z11 : σ6 67 11 = 0 := by rw [← hσ6]; simp [q_ms, w5]
    obtain ⟨σ7, y1, y2, y3, y4, y5, y6, y7, y8, y9⟩ := w_150 (σ := σ6) (nI l)
    have a34 : σ4 3 4 = nI l := by rw [s4 3 (by omega) (by omega), b3' 3 (by omega), c12 3 (by omega)]; exact g2
    refine ⟨nI l, σ4, σ7, by rw [a34], ?_, τ', fun _ => none, hI', ?_, ?_, ?_, ⟨?_, ?_, ?_, fun k hk τ'' h => absurd h (by simp)⟩, ⟨0, by omega, ?_, ?_, fun i hi => by omega⟩, ⟨0, by omega, ?_, ?_, fun i hi => by omega⟩, ?_, ?_⟩
    · rw [w1]
      unfold j_X7_text_120
      rw [hσ6, s6 12 (by omega) (by omega), w5, if_pos (by decide)]
      exact y1
    · refine q_C_sm b2 (fun k h1 h2 => ?_)
      rw [y9 k (by omega) (by omega) (by omega), s6k k (by omega), w2.1 k (by omega) (by omega), s4 k (by omega) (by omega)]
    · exact ⟨by rw [y3, s6 4 (by omega) (by omega)]; exact w6.1, by rw [y4, s6 5 (by omega) (by omega)]; exact w6.2.1⟩
    · obtain ⟨d1, d2, d3, -, -, d6, d7, d8, d9, d10⟩ := w6
      have e69 : ∀ i, i < 50 → σ7 68 i = σ5 69 i := fun i hi => by rw [y2 i, if_pos hi, s6k 69 (by omega)]
      refine q_M_mk (fun t a ht ha => ?_) (fun a ha => ?_) (fun a ha => ?_) ?_ ?_
      · have a8 := q_H8 hI' ha
        obtain ⟨x1, x2, x3, x4⟩ := d6 a ha
        rw [e69 _ (by omega)]
        have : t = 0 ∨ t = 1 ∨ t = 2 ∨ t = 3 := by omega
        rcases this with rfl | rfl | rfl | rfl
        · rw [show 0 + 8 * 0 + a = a by omega]; exact x1
        · rw [show 0 + 8 * 1 + a = 8 + a by omega]; exact x2
        · rw [show 0 + 8 * 2 + a = 16 + a by omega]; exact x3
        · rw [show 0 + 8 * 3 + a = 24 + a by omega]; exact x4
      · have a8 := q_H8 hI' ha
        rw [e69 _ (by omega), show 0 + 32 + a = 32 + a by omega]; exact d7 a a8
      · rw [e69 _ (by omega), e69 _ (by omega), show 0 + 40 + a = 40 + a by omega, show 0 + 45 + a = 45 + a by omega]; exact d8 a ha
      · rw [e69 _ (by omega)]; exact d9
      · rw [e69 _ (by omega)]; exact d10
    · rw [y9 0 (by omega) (by omega) (by omega), s6k 0 (by omega), w2.1 0 (by omega) (by omega), ← hσ4, q_ms, if_pos ⟨rfl, rfl⟩]; rfl
    · rw [y7]; rfl
    · rw [y8]; rfl
    · rw [y9 1 (by omega) (by omega) (by omega), s6k 1 (by omega), w2.1 1 (by omega) (by omega), s4 1 (by omega) (by omega), b3' 1 (by omega), q_ms, if_pos ⟨rfl, rfl⟩]; rfl
    · rw [y6 10 (by omega) (by omega) (by omega), z10]; rfl
    · rw [y9 55 (by omega) (by omega) (by omega), s6k 55 (by omega), w2.1 55 (by omega) (by omega), ← hσ4, q_ms_ne _ _ (by decide), q_ms, if_pos ⟨rfl, rfl⟩]; rfl
    · rw [y5]; rfl
    · have s7 : ∀ k, 59 ≤ k → k ≠ 67 → k ≠ 68 → k ≠ 69 → k ≠ 79 → σ7 k = σ k := fun k h0 h1 h2 h3 h4 => by rw [y9 k h1 h2 h4, s6k k h1, w2.1 k h1 h3, s4' k (by omega) (by omega) (by omega) (by omega) (by omega) (by omega)]
      exact q_ss_of hss (fun c c1 c2 => s7 c c1 (by omega) (by omega) (by omega) (by omega)) (s7 80 (by omega) (by omega) (by omega) (by omega) (by omega)) (s7 81 (by omega) (by omega) (by omega) (by omega) (by omega)) (s7 82 (by omega) (by omega) (by omega) (by omega) (by omega))
    · refine ⟨?_, ?_, ?_, ?_⟩
      · rw [y9 3 (by omega) (by omega) (by omega), s6k 3 (by omega), w2.1 3 (by omega) (by omega), s4 3 (by omega) (by omega), b3' 3 (by omega), c12 3 (by omega), g1, y6 11 (by omega) (by omega) (by omega), z11]
      · rw [y9 0 (by omega) (by omega) (by omega), s6k 0 (by omega), w2.1 0 (by omega) (by omega), ← hσ4, q_ms, if_neg (by omega), q_ms_ne _ _ (by decide), b3' 0 (by omega), c12 0 (by omega), e2.1 0 (by omega) (by omega) (by omega), y6 32 (by omega) (by omega) (by omega), s6 32 (by omega) (by omega), w2.2 32 (by omega), s4' 67 (by omega) (by omega) (by omega) (by omega) (by omega) (by omega)]
        exact hot.2.1
      · rw [y9 71 (by omega) (by omega) (by omega), s6k 71 (by omega), w2.1 71 (by omega) (by omega), s4' 71 (by omega) (by omega) (by omega) (by omega) (by omega) (by omega)]; exact hot.2.2.1
      · rw [y9 72 (by omega) (by omega) (by omega), s6k 72 (by omega), w2.1 72 (by omega) (by omega), s4' 72 (by omega) (by omega) (by omega) (by omega) (by omega) (by omega)]; exact hot.2.2.2
  · obtain ⟨g1, g2⟩ := e4 hc
    rw [g1, if_neg (ne0 code hc (by omega)), g2]
    generalize hσ4 : k_mset σ1 1 1 0 = σ4
    have s4 : ∀ k, k ≠ 1 → σ4 k = σ1 k := fun k hk => by rw [← hσ4]; exact c12 k hk
    have s4' : ∀ k, k ≠ 1 → k ≠ 3 → (k < 38 ∨ 45 < k) → σ4 k = σ k := fun k h1 h3 h7 => by rw [s4 k h1, e2.1 k h1 h3 h7]
    obtain ⟨σ5, x, w1, w2, w3, w4⟩ := w_text hn (mp σ4 (s4' 67 (by omega) (by omega) (by omega)) (s4' 70 (by omega) (by omega) (by omega))) (by rw [s4' 71 (by omega) (by omega) (by omega)]; exact hot.2.2.1) (by rw [s4' 72 (by omega) (by omega) (by omega)]; exact hot.2.2.2) k4
    obtain ⟨w5, w6⟩ := w4 hc
    generalize hσ6 : k_mset (k_mset σ5 67 10 0) 67 11 ((k_mset σ5 67 10 0) 67 12) = σ6
    have s6 : ∀ j, j ≠ 10 → j ≠ 11 → σ6 67 j = σ5 67 j := fun j h1 h2 => by rw [← hσ6, q_ms, if_neg (fun g => h2 g.2), q_ms, if_neg (fun g => h1 g.2)]
    have s6k : ∀ k, k ≠ 67 → σ6 k = σ5 k := fun k hk => by rw [← hσ6, q_ms_ne _ _ hk, q_ms_ne _ _ hk]
    have z10 : σ6 67 10 = 0 := by rw [← hσ6]; simp [q_ms]
    have z11 : σ6 67 11 = nI code := by rw [← hσ6]; simp [q_ms, w5]
    have sk : ∀ k, k ≠ 1 → k ≠ 3 → k ≠ 67 → k ≠ 69 → (k < 38 ∨ 45 < k) → σ6 k = σ k := fun k h1 h3 h67 h69 h7 => by rw [s6k k h67, w2.1 k h67 h69, s4' k h1 h3 h7]
    have sj : ∀ j, (j < 4 ∨ 8 < j ∧ j < 10 ∨ 17 < j) → σ6 67 j = σ 67 j := fun j hj => by rw [s6 j (by omega) (by omega), w2.2 j (by omega), s4' 67 (by omega) (by omega) (by omega)]
    refine ⟨_, σ4, σ6, rfl, ?_, τ, im, hI, ?_, ?_, ?_, ?_, ⟨0, by omega, ?_, ?_, fun i hi => by omega⟩, ?_, ?_, ?_⟩
    · rw [w1]
      unfold j_X7_text_120
      rw [hσ6, s6 12 (by omega) (by omega), w5, if_neg (show ¬ nI code ≤ 0 from nI_ge (a := 0) (b := code) (by omega) (by omega)), s6 13 (by omega) (by omega), w6]
    · exact q_C_sm hC (fun k h1 h2 => sk k (by omega) (by omega) (by omega) (by omega) (by omega))
    · exact ⟨by rw [sj 1 (by omega)]; exact hN.1, by rw [sj 2 (by omega)]; exact hN.2⟩
    · exact q_M_sm hM (sk 68 (by omega) (by omega) (by omega) (by omega) (by omega))
    · exact q_im_of him rfl rfl (by rw [sk 0 (by omega) (by omega) (by omega) (by omega) (by omega)]) (sk 79 (by omega) (by omega) (by omega) (by omega) (by omega)) (fun i _ _ => by rw [sk 68 (by omega) (by omega) (by omega) (by omega) (by omega)]) (fun c c1 c2 => sk c (by omega) (by omega) (by omega) (by omega) (by omega))
    · rw [s6k 1 (by omega), w2.1 1 (by omega) (by omega), ← hσ4, q_ms, if_pos ⟨rfl, rfl⟩]; rfl
    · rw [z10]; rfl
    · exact q_sn_of hsn (fun a h => h) (by rw [sk 55 (by omega) (by omega) (by omega) (by omega) (by omega)]) (sj 25 (by omega)) (sk 56 (by omega) (by omega) (by omega) (by omega) (by omega)) (sk 57 (by omega) (by omega) (by omega) (by omega) (by omega)) (sk 58 (by omega) (by omega) (by omega) (by omega) (by omega)) (sk 77 (by omega) (by omega) (by omega) (by omega) (by omega))
    · exact q_ss_of hss (fun c c1 c2 => sk c (by omega) (by omega) (by omega) (by omega) (by omega)) (sk 80 (by omega) (by omega) (by omega) (by omega) (by omega)) (sk 81 (by omega) (by omega) (by omega) (by omega) (by omega)) (sk 82 (by omega) (by omega) (by omega) (by omega) (by omega))
    · refine ⟨?_, ?_, ?_, ?_⟩
      · rw [z11, s6k 3 (by omega), w2.1 3 (by omega) (by omega), s4 3 (by omega)]; exact g1
      · rw [sk 0 (by omega) (by omega) (by omega) (by omega) (by omega), sj 32 (by omega)]; exact hot.2.1
      · rw [sk 71 (by omega) (by omega) (by omega) (by omega) (by omega)]; exact hot.2.2.1
      · rw [sk 72 (by omega) (by omega) (by omega) (by omega) (by omega)]; exact hot.2.2.2
