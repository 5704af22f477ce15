/-! PURE: from pairs to the next; a code's pairs -/
section NX
variable {τ : k_TW}
/-- no code behind c that has c's lefts before n is feasible -/
def q_no (τ : k_TW) (c n : Nat) : Prop := ∀ e, c < e → e < 625 → (∀ i, i < n → q_dg e i = q_dg c i) → q_fe τ e = false
theorem q_rej {c a d : Nat} {mt : k_Mt} (hS : q_IS (fun i => decide (i < a)) c mt) (ha : a < 4) (hd0 : d ≠ 0) (hd : d < 5) (hr : ¬ (q_can τ a (d + 3) = true ∧ mt (d + 3) = none)) {e : Nat} (hp : ∀ i, i < a → q_dg e i = q_dg c i) (hea : q_dg e a = d) : q_fe τ e = false := by
  rw [← Bool.not_eq_true]
  intro h
  rw [q_fe_d] at h
  apply hr
  have h1 := h.1 a ha (by omega)
  rw [hea] at h1
  refine ⟨h1, ?_⟩
  cases hm : mt (d + 3) with
  | none => rfl
  | some y =>
    rcases (hS (d + 3) y (by omega)).mp hm with ⟨g1, g2, g3, g4⟩ | ⟨g1, g2, g3, g4⟩
    · simp at g2; omega
    · simp only [decide_eq_true_eq] at g2
      have := h.2 y g1 a ha g2 (by rw [hp y g2, hea]; omega)
      rw [hp y g2] at this; omega
theorem v_next_in (hI : q_I τ) {c a : Nat} (hc : c < 625) (hfe : q_fe τ c = true) (ha : a < 4) {mt : k_Mt} (hS : q_IS (fun i => decide (i < a)) c mt) {σ : k_Mem} (hw : ∀ a c, a < 8 → c < 8 → σ 51 (a * 8 + c) = q_wi τ a c) (hm : ∀ x, x < 8 → σ 52 x = q_e1 (mt x)) (k2 : Int32 → k_Mem → Option (Int32 × k_Mem)) (hno : q_no τ c (a + 1)) : ∀ (m d f : Nat), d + m = 5 → q_dg c a < d → m < f → (∀ d', q_dg c a < d' → d' < d → ¬ (q_can τ a (d' + 3) = true ∧ mt (d' + 3) = none)) →
    (l_X0_toNextPairs_45 k2 f (nI a) (nI (d + 3)) σ = k2 (nI a + (-1)) σ ∧ q_no τ c a) ∨ ∃ c' σ', l_X0_toNextPairs_45 k2 f (nI a) (nI (d + 3)) σ = some (1, σ') ∧ c < c' ∧ c' < 625 ∧ q_fe τ c' = true ∧ (∀ e, c < e → e < c' → q_fe τ e = false) ∧ (∀ x, x < 8 → σ' 52 x = q_e1 (q_cm c' x)) ∧ ∀ k, k ≠ 52 → σ' k = σ k := by
  have mt8 : ∀ x y, x < 8 → mt x = some y → y < 2 ^ 31 := fun x y hx h => by
    rcases (hS x y hx).mp h with ⟨g1, g2, g3, g4⟩ | ⟨g1, g2, g3, g4⟩
    · have := q_dg5 c x; omega
    · omega
  intro m
  induction m with
  | zero =>
    intro d f h1 h2 h3 h4
    obtain ⟨f, rfl⟩ : ∃ g, f = g + 1 := ⟨f - 1, by omega⟩
    left
    rw [l_X0_toNextPairs_45, show (8 : Int32) = nI 8 from rfl, if_pos (nI_le (by omega) (by omega))]
    refine ⟨rfl, fun e g1 g2 g3 => ?_⟩
    have hge := q_pf_ge hc g2 ha g1 g3
    by_cases he : q_dg e a = q_dg c a
    · exact hno e g1 g2 (fun i hi => by
        by_cases h : i = a
        · rw [h]; exact he
        · exact g3 i (by omega))
    · have := q_dg5 e a
      exact q_rej hS ha (d := q_dg e a) (by omega) (by omega) (h4 _ (by omega) (by omega)) g3 rfl
  | succ m ih =>
    intro d f h1 h2 h3 h4
    obtain ⟨f, rfl⟩ : ∃ g, f = g + 1 := ⟨f - 1, by omega⟩
    rw [l_X0_toNextPairs_45, show (8 : Int32) = nI 8 from rfl, if_neg (nI_ge (by omega) (by omega))]
    simp only [q_inT (show d + 3 < 8 by omega) (by omega : 8 < 2 ^ 31), q_inT (show a < 8 by omega) (by omega : 8 < 2 ^ 31), if_true, q_n (show d + 3 < 2 ^ 31 by omega), q_n (show a < 2 ^ 31 by omega), hm (d + 3) (by omega), q_e1_n (fun y => mt8 (d + 3) y (by omega)), j_X0_toNextPairs_87, show nI (d + 3) + 1 = nI (d + 1 + 3) by rw [show nI (d + 3) + 1 = nI (d + 3 + 1) from nI_1 _]]
    have skip : ¬ (q_can τ a (d + 3) = true ∧ mt (d + 3) = none) → (l_X0_toNextPairs_45 k2 f (nI a) (nI (d + 1 + 3)) σ = k2 (nI a + (-1)) σ ∧ q_no τ c a) ∨ ∃ c' σ', l_X0_toNextPairs_45 k2 f (nI a) (nI (d + 1 + 3)) σ = some (1, σ') ∧ c < c' ∧ c' < 625 ∧ q_fe τ c' = true ∧ (∀ e, c < e → e < c' → q_fe τ e = false) ∧ (∀ x, x < 8 → σ' 52 x = q_e1 (q_cm c' x)) ∧ ∀ k, k ≠ 52 → σ' k = σ k := by
      intro h
      refine ih (d + 1) f (by omega) (by omega) (by omega) (fun d' g1 g2 => ?_)
      by_cases e : d' = d
      · rw [e]; exact h
      · exact h4 d' g1 (by omega)
    by_cases hmn : mt (d + 3) = none
    · rw [if_pos hmn, v_wish1 hw (by omega) (by omega), q_bd, show (-1 : Int32) = q_lv τ a none from rfl]
      simp only [q_rt_c hI]
      cases hcan : q_can τ a (d + 3)
      · rw [if_pos (by simp [q_rt, hcan])]
        exact skip (fun h => by rw [hcan] at h; cases h.1)
      · rw [if_neg (by simp [q_rt, hcan])]
        right
        have hlt := q_nx_lt (d := d) hc ha (by omega) h2
        have hdg : ∀ i, i < 4 → q_dg (q_nx c a d) i = if i < a then q_dg c i else if i = a then d else 0 := fun i hi => q_nx_dg hc ha (by omega) hi
        have hda : q_dg (q_nx c a d) a = d := by rw [hdg a ha, if_neg (by omega), if_pos rfl]
        have hfe' : q_fe τ (q_nx c a d) = true := by
          rw [q_fe_d] at hfe ⊢
          refine ⟨fun i hi hne => ?_, fun i hi j hj hij hee => ?_⟩
          · rw [hdg i hi] at hne ⊢
            by_cases hia : i < a
            · rw [if_pos hia] at hne ⊢; exact hfe.1 i hi hne
            · rw [if_neg hia] at hne ⊢
              by_cases hia2 : i = a
              · rw [if_pos hia2, hia2]; exact hcan
              · rw [if_neg hia2] at hne; exact absurd rfl hne
          · rw [hdg i hi, hdg j hj] at hee
            rw [hdg i hi]
            by_cases hja : j < a
            · rw [if_pos hja, if_pos (by omega)] at hee
              rw [if_pos (by omega)]; exact hfe.2 i hi j hj hij hee
            · rw [if_neg hja] at hee
              by_cases hja2 : j = a
              · rw [if_pos hja2, if_pos (by omega)] at hee
                exfalso
                have := (hS (d + 3) i (by omega)).mpr (Or.inr ⟨hi, by simp; omega, by omega, by omega⟩)
                rw [hmn] at this; cases this
              · rw [if_neg hja2] at hee; exact hee
        refine ⟨q_nx c a d, _, rfl, hlt.1, hlt.2, hfe', fun e g1 g2 => ?_, fun x hx => ?_, fun k hk => by rw [q_ms_ne _ _ hk, q_ms_ne _ _ hk]⟩
        · obtain ⟨b1, b2, b3⟩ := q_nx_bt (d := d) hc (show e < 625 by omega) ha (by omega) g1 g2 h2
          by_cases he : q_dg e a = q_dg c a
          · exact hno e g1 (by omega) (fun i hi => by
              by_cases h : i = a
              · rw [h]; exact he
              · exact b1 i (by omega))
          · exact q_rej hS ha (d := q_dg e a) (by omega) (by omega) (h4 _ (by omega) (by omega)) b1 rfl
        · have hS2 : q_IS (fun i => decide (i < a)) (q_nx c a d) mt := q_IS_S hS (fun i hi => by
            simp only [decide_eq_true_eq]
            rw [hdg i hi]
            constructor
            · intro h; rw [if_pos h.1]; exact h
            · intro h; rw [if_pos h.1] at h; exact h) (fun i hi h1 _ => by
            simp only [decide_eq_true_eq] at h1
            rw [hdg i hi, if_pos h1])
          have hj := q_IS_jn (S' := fun i => decide (i < a) || decide (i = a)) hS2 ha (by simp) (fun x _ => rfl) (by rw [hda]; omega) (by rw [hda]; exact hmn)
          rw [hda] at hj
          have hj2 : q_IS (fun _ => true) (q_nx c a d) (q_jn mt a (d + 3)) := q_IS_S hj (fun i hi => by
            simp only [Bool.or_eq_true, decide_eq_true_eq, true_and]
            constructor
            · intro h; exact h.2
            · intro h
              refine ⟨?_, h⟩
              rw [hdg i hi] at h
              by_cases h5 : i < a
              · exact Or.inl h5
              · rw [if_neg h5] at h
                by_cases h6 : i = a
                · exact Or.inr h6
                · rw [if_neg h6] at h; exact absurd rfl h) (fun _ _ _ _ => rfl)
          rw [← q_IS_un hj2 (q_cm_IS hfe') hx]
          unfold q_jn
          rw [q_ms, q_ms]
          by_cases x1 : x = d + 3
          · rw [if_pos ⟨rfl, x1⟩, if_pos x1]; rfl
          · rw [if_neg (fun g => x1 g.2), if_neg x1]
            by_cases x2 : x = a
            · rw [if_pos ⟨rfl, x2⟩, if_pos x2]; rfl
            · rw [if_neg (fun g => x2 g.2), if_neg x2]; exact hm x hx
    · rw [if_neg hmn]
      exact skip (fun h => hmn h.2)
theorem v_next_l (hI : q_I τ) {c : Nat} (hc : c < 625) (hfe : q_fe τ c = true) : ∀ (n f : Nat) (σ : k_Mem) (mt : k_Mt), n ≤ 4 → n < f → (∀ a c, a < 8 → c < 8 → σ 51 (a * 8 + c) = q_wi τ a c) → (∀ x, x < 8 → σ 52 x = q_e1 (mt x)) → q_IS (fun i => decide (i < n)) c mt → q_no τ c n →
    (∃ σ', l_X0_toNextPairs_2 f (nI n - 1) σ = some (0, σ') ∧ (∀ k, k ≠ 52 → σ' k = σ k) ∧ ∀ e, c < e → e < 625 → q_fe τ e = false) ∨ ∃ c' σ', l_X0_toNextPairs_2 f (nI n - 1) σ = some (1, σ') ∧ c < c' ∧ c' < 625 ∧ q_fe τ c' = true ∧ (∀ e, c < e → e < c' → q_fe τ e = false) ∧ (∀ x, x < 8 → σ' 52 x = q_e1 (q_cm c' x)) ∧ ∀ k, k ≠ 52 → σ' k = σ k := by
  intro n
  induction n with
  | zero =>
    intro f σ mt h1 h2 hw hm hS hno
    obtain ⟨f, rfl⟩ : ∃ g, f = g + 1 := ⟨f - 1, by omega⟩
    left
    rw [l_X0_toNextPairs_2, if_pos (by decide)]
    exact ⟨σ, rfl, fun _ _ => rfl, fun e g1 g2 => hno e g1 g2 (fun i hi => absurd hi (by omega))⟩
  | succ a ih =>
    intro f σ mt h1 h2 hw hm hS hno
    obtain ⟨f, rfl⟩ : ∃ g, f = g + 1 := ⟨f - 1, by omega⟩
    have mt8 : ∀ x y, x < 8 → mt x = some y → y < 2 ^ 31 := fun x y hx h => by
      rcases (hS x y hx).mp h with ⟨g1, g2, g3, g4⟩ | ⟨g1, g2, g3, g4⟩
      · have := q_dg5 c x; omega
      · omega
    have h5 := q_dg5 c a
    rw [show nI (a + 1) - 1 = nI a from nI_pred a, l_X0_toNextPairs_2, if_neg (nI_pos (by omega))]
    simp only [q_inT (show a < 8 by omega) (by omega : 8 < 2 ^ 31), if_true, q_n (show a < 2 ^ 31 by omega), hm a (by omega)]
    have go : ∀ (σ1 : k_Mem) (mt1 : k_Mt), (∀ k, k ≠ 52 → σ1 k = σ k) → (∀ x, x < 8 → σ1 52 x = q_e1 (mt1 x)) → q_IS (fun i => decide (i < a)) c mt1 →
        (∃ σ', l_X0_toNextPairs_45 (fun x1 σ => l_X0_toNextPairs_2 f x1 σ) 1000 (nI a) (nI (q_dg c a + 1 + 3)) σ1 = some (0, σ') ∧ (∀ k, k ≠ 52 → σ' k = σ k) ∧ ∀ e, c < e → e < 625 → q_fe τ e = false) ∨ ∃ c' σ', l_X0_toNextPairs_45 (fun x1 σ => l_X0_toNextPairs_2 f x1 σ) 1000 (nI a) (nI (q_dg c a + 1 + 3)) σ1 = some (1, σ') ∧ c < c' ∧ c' < 625 ∧ q_fe τ c' = true ∧ (∀ e, c < e → e < c' → q_fe τ e = false) ∧ (∀ x, x < 8 → σ' 52 x = q_e1 (q_cm c' x)) ∧ ∀ k, k ≠ 52 → σ' k = σ k := by
      intro σ1 mt1 g1 g2 g3
      have hw1 : ∀ a c, a < 8 → c < 8 → σ1 51 (a * 8 + c) = q_wi τ a c := fun a c h h' => by rw [g1 51 (by decide)]; exact hw a c h h'
      rcases v_next_in hI hc hfe (show a < 4 by omega) g3 hw1 g2 (fun x1 σ => l_X0_toNextPairs_2 f x1 σ) hno (4 - q_dg c a) (q_dg c a + 1) 1000 (by omega) (by omega) (by omega) (fun d' k1 k2 => by omega) with ⟨e1, e2⟩ | ⟨c', σ', e1, e2, e3, e4, e5, e6, e7⟩
      · rw [e1]
        have hih := ih f σ1 mt1 (by omega) (by omega) hw1 g2 g3 e2
        rw [show nI a + (-1) = nI a - 1 by rw [Int32.sub_eq_add_neg]]
        rcases hih with ⟨σ', e1, e2, e3⟩ | ⟨c', σ', e1, e2, e3, e4, e5, e6, e7⟩
        · exact Or.inl ⟨σ', e1, fun k hk => by rw [e2 k hk, g1 k hk], e3⟩
        · exact Or.inr ⟨c', σ', e1, e2, e3, e4, e5, e6, fun k hk => by rw [e7 k hk, g1 k hk]⟩
      · rw [e1]
        exact Or.inr ⟨c', σ', rfl, e2, e3, e4, e5, e6, fun k hk => by rw [e7 k hk, g1 k hk]⟩
    by_cases hd : q_dg c a = 0
    · have hma : mt a = none := by
        cases e : mt a with
        | none => rfl
        | some y =>
          rcases (hS a y (by omega)).mp e with ⟨g1, g2, g3, g4⟩ | ⟨g1, g2, g3, g4⟩
          · exact absurd hd g3
          · omega
      rw [hma, if_pos (show q_e1 none = -1 from rfl)]
      unfold j_X0_toNextPairs_32 j_X0_toNextPairs_44
      rw [if_pos (show q_e1 none = -1 from rfl), show (4 : Int32) = nI (q_dg c a + 1 + 3) by rw [hd]; rfl]
      exact go σ mt (fun _ _ => rfl) hm (q_IS_S hS (fun i hi => by
        simp only [decide_eq_true_eq]
        constructor
        · intro h
          refine ⟨?_, h.2⟩
          have : i ≠ a := fun e => by rw [e, hd] at h; exact h.2 rfl
          omega
        · intro h; exact ⟨by omega, h.2⟩) (fun _ _ _ _ => rfl))
    · have hma : mt a = some (q_dg c a + 3) := (hS a _ (by omega)).mpr (Or.inl ⟨by omega, by simp, hd, rfl⟩)
      have hm1 : ¬ nI (q_dg c a + 3) = -1 := by rw [q_m1 (by omega)]; exact id
      rw [hma, show q_e1 (some (q_dg c a + 3)) = nI (q_dg c a + 3) from rfl]
      rw [if_neg hm1, q_inT (show q_dg c a + 3 < 8 by omega) (by omega), if_pos rfl, q_n (by omega)]
      unfold j_X0_toNextPairs_32 j_X0_toNextPairs_44
      rw [if_neg hm1, show nI (q_dg c a + 3) + 1 = nI (q_dg c a + 1 + 3) by rw [show nI (q_dg c a + 3) + 1 = nI (q_dg c a + 3 + 1) from nI_1 _]]
      refine go _ (q_cl mt a (q_dg c a + 3)) (fun k hk => by rw [q_ms_ne _ _ hk, q_ms_ne _ _ hk]) (fun x hx => ?_) (q_IS_cl hS (by omega) (by simp) (fun x _ => ?_) hd)
      · unfold q_cl
        rw [q_ms, q_ms]
        by_cases x1 : x = a
        · rw [if_pos ⟨rfl, x1⟩, if_pos (Or.inl x1)]; rfl
        · rw [if_neg (fun g => x1 g.2)]
          by_cases x2 : x = q_dg c a + 3
          · rw [if_pos ⟨rfl, x2⟩, if_pos (Or.inr x2)]; rfl
          · rw [if_neg (fun g => x2 g.2), if_neg (fun g => g.elim x1 x2)]; exact hm x hx
      · by_cases h : x = a
        · subst h; simp
        · have : decide (x < a) = decide (x < a + 1) := decide_eq_decide.mpr (by omega)
          rw [this]; simp [h]
/-- to the next pairs -/
theorem v_next (hI : q_I τ) {c : Nat} (hc : c < 625) (hfe : q_fe τ c = true) {σ : k_Mem} (hw : ∀ a c, a < 8 → c < 8 → σ 51 (a * 8 + c) = q_wi τ a c) (hm : ∀ x, x < 8 → σ 52 x = q_e1 (q_cm c x)) :
    (∃ σ', f_X0_toNextPairs σ = some (0, σ') ∧ (∀ k, k ≠ 52 → σ' k = σ k) ∧ ∀ e, c < e → e < 625 → q_fe τ e = false) ∨ ∃ c' σ', f_X0_toNextPairs σ = some (1, σ') ∧ c < c' ∧ c' < 625 ∧ q_fe τ c' = true ∧ (∀ e, c < e → e < c' → q_fe τ e = false) ∧ (∀ x, x < 8 → σ' 52 x = q_e1 (q_cm c' x)) ∧ ∀ k, k ≠ 52 → σ' k = σ k := by
  unfold f_X0_toNextPairs
  rw [show (3 : Int32) = nI 4 - 1 by decide]
  refine v_next_l hI hc hfe 4 1000 σ (q_cm c) (by omega) (by omega) hw hm (q_IS_S (q_cm_IS hfe) (fun i hi => by simp [hi]) (fun _ _ _ _ => rfl)) (fun e g1 g2 g3 => ?_)
  have := q_dg_eq hc g2 g3
  omega
end NX
