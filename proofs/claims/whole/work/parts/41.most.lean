/-! PURE: hold and most, the calls -/
theorem q_quf {ρ : Type} {A B : k_Mem → Option (ρ × k_Mem)} {fa fb : List Nat} (frA : ∀ σ, k_Fr fa σ (A σ)) (frB : ∀ σ, k_Fr fb σ (B σ)) (ha : ∀ c ∈ fa, c ∈ q_sc) (hb : ∀ c ∈ fb, c ∈ q_sc) (h : ∀ τ im σ, q_R τ im σ → ∃ v σ1, A σ = some (v, σ1) ∧ ∀ σ', q_R τ im σ' → ∃ σ2, B σ' = some (v, σ2)) : q_Op A B := q_qu (fun τ im σ hR => by
  obtain ⟨v, σ1, e1, e2⟩ := h τ im σ hR
  refine ⟨v, σ1, e1, k_Sm_mono (frA σ v σ1 e1) ha, fun σ' hR' => ?_⟩
  obtain ⟨σ2, f1⟩ := e2 σ' hR'
  exact ⟨σ2, f1, k_Sm_mono (frB σ' v σ2 f1) hb⟩)
section HO
variable {τ : k_TW}
theorem w_hold_l (hI : q_I τ) {pa : k_Mt} (hpa : ∀ x c, pa x = some c → c < 2 ^ 31) {x1 : Int32} (o : Option Nat) (ho : (o = none ∧ x1 = 0) ∨ ∃ a, o = some a ∧ a < 8 ∧ x1 ≠ 0 ∧ x1 - 10 = nI a) : ∀ (m k f : Nat) (σ : k_Mem), k + m = 625 → m < f → q_TB τ 0 σ → (∀ x, x < 8 → σ 74 x = q_e4 (pa x)) → ∃ σ', l_X7_hold_26 f x1 (nI (q_hn τ pa o k)) (nI k) σ = some (nI (q_hn τ pa o 625), σ') := by
  intro m
  induction m with
  | zero =>
    intro k f σ h1 h2 hT h74
    obtain ⟨f, rfl⟩ : ∃ g, f = g + 1 := ⟨f - 1, by omega⟩
    rw [l_X7_hold_26, show (625 : Int32) = nI 625 from rfl, if_pos (nI_le (by omega) (by omega)), show k = 625 by omega]
    exact ⟨σ, rfl⟩
  | succ m ih =>
    intro k f σ h1 h2 hT h74
    obtain ⟨f, rfl⟩ : ∃ g, f = g + 1 := ⟨f - 1, by omega⟩
    rw [l_X7_hold_26, show (625 : Int32) = nI 625 from rfl, if_neg (nI_ge (by omega) (by omega))]
    obtain ⟨σ1, e1, e2, e3⟩ := w_laysPairs hI (c := k) (by omega) hT
    have hT1 : q_TB τ 0 σ1 := fun a c ha hc => by rw [e3 73 (by decide)]; exact hT a c ha hc
    have h741 : ∀ x, x < 8 → σ1 74 x = q_e4 (pa x) := fun x hx => by rw [e3 74 (by decide)]; exact h74 x hx
    have hih := ih (k + 1) f σ1 (by omega) (by omega) hT1 h741
    rw [e1, q_bd]
    simp only [q_b0, j_X7_hold_52, j_X7_hold_53, j_X7_hold_90, j_X7_hold_86, j_X7_hold_91, show nI k + 1 = nI (k + 1) from nI_1 k, if_true, if_neg q_10]
    rw [show (0 : Int32) = nI 0 from rfl, show (1 : Int32) = nI 1 from rfl]
    simp only [q_add]
    have hz : q_hp τ pa o k = false → q_hn τ pa o k + 0 = q_hn τ pa o (k + 1) := fun h => by
      unfold q_hn; rw [q_sm, h]; rfl
    have hone : q_hp τ pa o k = true → q_hn τ pa o k + 1 = q_hn τ pa o (k + 1) := fun h => by
      unfold q_hn; rw [q_sm, h]; rfl
    cases hfe : q_fe τ k
    · rw [if_pos rfl, hz (by simp [q_hp, hfe])]; exact hih
    · rw [if_neg (by decide), w_quarrels hI hT1 (e2 hfe) (fun x y hx h => q_cm8 hx y h), q_bd]
      have hqn : q_qn τ (q_cm k) ≤ 16 * 1 := q_sm_le (fun c _ => by show (if q_qv τ (q_cm k) c = true then 1 else 0) ≤ 1; split <;> omega)
      have hqq : (q_qf τ (q_cm k) = none) = (q_qn τ (q_cm k) = 0) := by
        unfold q_qf q_qn
        rw [Option.map_eq_none_iff, q_fi_sm]
        simp
      simp (disch := omega) only [q_eq]
      by_cases hq : q_qn τ (q_cm k) = 0
      · rw [if_pos hq]
        rw [← hqq] at hq
        rcases ho with ⟨rfl, rfl⟩ | ⟨a, rfl, a8, hx, hxa⟩
        · rw [if_pos (show (0 : Int32) = nI 0 from rfl), hone (by unfold q_hp; rw [hfe, hq]; rfl)]; exact hih
        · rw [if_neg (show ¬ x1 = nI 0 from hx), hxa]
          simp only [q_inT a8 (by omega : 8 < 2 ^ 31), if_true, q_n (show a < 2 ^ 31 by omega), e2 hfe a a8, h741 a a8, q_e4_inj (fun y h => Nat.lt_trans (q_cm8 a8 y h) (by omega)) (hpa a)]
          by_cases he : q_cm k a = pa a
          · rw [if_pos he, hone (by unfold q_hp; rw [hfe, hq]; simp [q_mf, he])]; exact hih
          · rw [if_neg he, hz (by unfold q_hp; simp [q_mf, he])]; exact hih
      · rw [if_neg hq, hz (by
          rw [← hqq] at hq
          unfold q_hp
          cases h : q_qf τ (q_cm k) with
          | none => exact absurd h hq
          | some z => simp)]
        exact hih
end HO
theorem o_hold (x : Int32) : q_Op (fun σ => f_X6_hold x σ) (fun σ => f_X7_hold x σ) := q_quf (fun σ => fr_f_X6_hold x σ) (fun σ => fr_f_X7_hold x σ) (by decide) (by decide) (fun τ im σ h => by
  obtain ⟨hI, hC, hN, hM, -⟩ := h
  have hMt := q_Mt_g (g := 0) hI (s := 0) (by omega)
  rw [q_cg0] at hMt
  have core : ∀ (o : Option Nat), (o = none ∧ x = 0) ∨ (∃ a, o = some a ∧ a < 8 ∧ x ≠ 0 ∧ x - 10 = nI a) → ∃ v σ1, j_X6_hold_22 x (x - 10) σ = some (v, σ1) ∧ ∀ σ', q_R τ im σ' → ∃ σ2, j_X7_hold_17 x σ' = some (v, σ2) := by
    intro o ho
    obtain ⟨σ1, e1, e2, e3, e4, e5⟩ := v_court (b := 6) (by omega) hI hC (s := 0) (by omega)
    generalize hpa : q_pa (q_can τ) (q_lk τ) 0 = pa at e4 hMt
    obtain ⟨σ3, f1⟩ := v_countHolding (pa := pa) hI (fun x => q_Mt31 hMt) o (fun a h => by
      rcases ho with ⟨h1, -⟩ | ⟨b, h1, h2, -⟩
      · rw [h1] at h; cases h
      · rw [h1] at h; cases h; exact h2) e3.2.2
    refine ⟨nI (q_hn τ pa o 625), σ3, ?_, fun σ' h' => ?_⟩
    · unfold j_X6_hold_22
      rw [show f_X0_court 6 0 σ = some ((), σ1) from e1, q_bd]
      rcases ho with ⟨rfl, rfl⟩ | ⟨a, rfl, a8, hx, hxa⟩
      · rw [if_pos rfl]
        unfold f_X0_countHolding
        rw [show q_e1 none = -1 from rfl, show q_mx pa none = -1 from rfl] at f1
        rw [f1, q_bd, q_bd]
      · rw [if_neg hx, hxa, q_inT a8 (by omega), if_pos rfl, q_n (by omega), e4 a a8]
        rw [show q_e1 (some a) = nI a from rfl, show q_mx pa (some a) = q_e1 (pa a) from rfl] at f1
        rw [f1, q_bd]
    · obtain ⟨-, hC', hN', hM', -⟩ := h'
      obtain ⟨σ2, g1, g2, g3, g4⟩ := w_askingNow hI hN' hM' (s := 0) (by omega)
      rw [hpa] at g3
      unfold j_X7_hold_17
      rw [show f_X7_askingNow 0 σ' = some ((), σ2) from g1, q_bd]
      exact w_hold_l (pa := pa) hI (fun x => q_Mt31 hMt) o ho 625 0 1000 σ2 (by omega) (by omega) g2 g3
  unfold f_X6_hold f_X7_hold
  by_cases h0 : x = 0
  · rw [if_pos h0]
    simp only [if_pos h0]
    exact core none (Or.inl ⟨rfl, h0⟩)
  · rw [if_neg h0]
    simp only [if_neg h0]
    rcases q_hand (x - 10) (im := im) hI with ⟨a, a8, e, ha⟩ | ⟨h1, h2⟩
    · obtain ⟨v, σ1, e1, e2⟩ := core (some a) (Or.inr ⟨a, rfl, a8, h0, e⟩)
      refine ⟨v, σ1, ?_, fun σ' h' => ?_⟩
      · rw [e] at e1 ⊢
        rw [v_isH1 hI hC ha, q_bd, if_neg q_10]; exact e1
      · obtain ⟨σ2, f1⟩ := e2 σ' h'
        refine ⟨σ2, ?_⟩
        rw [e, w_isH1 hI h'.2.2.1 ha, q_bd, if_neg q_10]; exact f1
    · rw [h1 6 σ hC, q_bd]
      refine ⟨_, _, rfl, fun σ' h' => ?_⟩
      rw [h2 σ' h'.2.2.1]
      exact ⟨_, rfl⟩)
/-- most: the best of the codes below k, and which -/
def q_bm (τ : k_TW) : Nat → Nat × Nat
  | 0 => (0, 0)
  | k + 1 => if q_fe τ k = true ∧ (q_bm τ k).1 < q_al τ (q_cm k) then (q_al τ (q_cm k), k) else q_bm τ k
section MO
variable {τ : k_TW}
theorem q_bm_gap {c : Nat} : ∀ {c' : Nat}, c ≤ c' → (∀ e, c ≤ e → e < c' → q_fe τ e = false) → q_bm τ c' = q_bm τ c
  | 0, h, _ => by rw [show c = 0 by omega]
  | c' + 1, h, h2 => by
    by_cases e : c = c' + 1
    · rw [e]
    · rw [q_bm, if_neg (fun g => by rw [h2 c' (by omega) (by omega)] at g; cases g.1), q_bm_gap (by omega) (fun e h3 h4 => h2 e h3 (by omega))]
theorem q_al_c (hI : q_I τ) {c : Nat} (h : q_fe τ c = true) : q_al τ (fun x => if x < 8 then q_cm c x else none) = q_al τ (q_cm c) := q_sm_ext (fun x hx => by
  have e : (fun x => if x < 8 then q_cm c x else none) x = q_cm c x := if_pos hx
  unfold q_ll; rw [e])
theorem q_al_b (hI : q_I τ) {c : Nat} (h : q_fe τ c = true) : q_al τ (q_cm c) ≤ 8 * 23 := by
  have hM := q_cm_Mt hI h
  refine q_sm_le (fun x hx => ?_)
  unfold q_ll
  cases hq : q_cm c x with
  | none => exact Nat.zero_le _
  | some y =>
    have := hM x y ((if_pos hx).trans hq)
    exact q_lk23 hI (q_can_H this.2.2.1).1 (q_can_H this.2.2.1).2.1
theorem q_bm_in (hI : q_I τ) : ∀ k, k ≤ 625 → (q_bm τ k).1 ≤ 8 * 23 ∧ q_fe τ (q_bm τ k).2 = true ∧ (q_bm τ k).2 < 625
  | 0, _ => ⟨by simp [q_bm], q_fe0, by simp [q_bm]⟩
  | k + 1, hk => by
    rw [q_bm]
    by_cases h : q_fe τ k = true ∧ (q_bm τ k).1 < q_al τ (q_cm k)
    · rw [if_pos h]; exact ⟨q_al_b hI h.1, h.1, by show k < 625; omega⟩
    · rw [if_neg h]; exact q_bm_in hI k (by omega)
theorem v_most_l (hI : q_I τ) : ∀ (m c i f : Nat) (σ : k_Mem), 625 - c ≤ m → i ≤ c → c < 625 → m + 1 < f → q_fe τ c = true → q_W τ σ → (∀ x, x < 8 → σ 52 x = q_e1 (q_cm c x)) → (∀ x, x < 8 → σ 54 x = q_e1 (q_cm (q_bm τ c).2 x)) →
    ∃ σ', l_X0_findMost_22 f (nI (q_bm τ c).1) 1 (nI i) σ = some (nI (q_bm τ 625).1, σ') ∧ ∀ x, x < 8 → σ' 54 x = q_e1 (q_cm (q_bm τ 625).2 x) := by
  intro m
  induction m with
  | zero => intro c i f σ h1 h2 h3; omega
  | succ m ih =>
    intro c i f σ h1 h2 h3 h4 hfe hW hm hb
    obtain ⟨f, rfl⟩ : ∃ g, f = g + 1 := ⟨f - 1, by omega⟩
    have hMt := q_cm_Mt hI hfe
    have hal := v_allLikes hI hW (fun x hx => by rw [hm x hx, if_pos hx]) hMt
    rw [q_al_c hI hfe] at hal
    rw [l_X0_findMost_22, if_neg (show ¬ (10000 : Int32) ≤ nI i from nI_ge (b := 10000) (by omega) (by omega)), if_neg q_10, hal, q_bd]
    have go : ∀ σ1 : k_Mem, (∀ k, k ≠ 54 → σ1 k = σ k) → (∀ x, x < 8 → σ1 54 x = q_e1 (q_cm (q_bm τ (c + 1)).2 x)) → ∃ σ', j_X0_findMost_63 (fun x1 x2 x3 σ => l_X0_findMost_22 f x1 x2 x3 σ) (nI (q_bm τ (c + 1)).1) (nI i) σ1 = some (nI (q_bm τ 625).1, σ') ∧ ∀ x, x < 8 → σ' 54 x = q_e1 (q_cm (q_bm τ 625).2 x) := by
      intro σ1 k1 k2
      unfold j_X0_findMost_63
      rw [show nI i + 1 = nI (i + 1) from nI_1 i]
      rcases v_next (σ := σ1) hI h3 hfe (fun a b ha hb => by rw [k1 51 (by decide)]; exact hW.2.2 a b ha hb) (fun x hx => by rw [k1 52 (by decide)]; exact hm x hx) with ⟨σ', e1, e2, e3⟩ | ⟨c', σ', e1, e2, e3, e4, e5, e6, e7⟩
      · rw [e1, q_bd]
        dsimp only
        obtain ⟨f', hf'⟩ : ∃ g, f = g + 1 := ⟨f - 1, by omega⟩
        rw [hf', l_X0_findMost_22, if_neg (show ¬ (10000 : Int32) ≤ nI (i + 1) from nI_ge (b := 10000) (by omega) (by omega)), if_pos rfl]
        rw [show q_bm τ 625 = q_bm τ (c + 1) from q_bm_gap (by omega) (fun e h5 h6 => e3 e (by omega) h6)]
        exact ⟨σ', rfl, fun x hx => by rw [e2 54 (by decide)]; exact k2 x hx⟩
      · rw [e1, q_bd]
        have hg : q_bm τ c' = q_bm τ (c + 1) := q_bm_gap (by omega) (fun e h5 h6 => e5 e (by omega) h6)
        rw [← hg] at k2 ⊢
        refine ih c' (i + 1) f σ' (by omega) (by omega) e3 (by omega) e4 ?_ e6 (fun x hx => by rw [e7 54 (by decide)]; exact k2 x hx)
        unfold q_W
        rw [e7 46 (by decide), e7 50 (by decide), e7 51 (by decide), k1 46 (by decide), k1 50 (by decide), k1 51 (by decide)]
        exact hW
    have b1 := q_al_b hI hfe
    have b2 := (q_bm_in hI c (by omega)).1
    simp (disch := omega) only [q_le]
    by_cases hlt : (q_bm τ c).1 < q_al τ (q_cm c)
    · have e : q_bm τ (c + 1) = (q_al τ (q_cm c), c) := by rw [q_bm, if_pos ⟨hfe, hlt⟩]
      rw [if_neg (by omega), if_pos (by decide), show k_n 0 = 0 by decide, show k_n 8 = 8 by decide]
      rw [e] at go
      refine go _ (fun k hk => k_row_ne σ _ hk) (fun x hx => ?_)
      rw [q_mr, if_pos rfl, pk_cpy_in (by omega) (by omega), Nat.zero_add, Nat.sub_zero]
      exact hm x hx
    · have e : q_bm τ (c + 1) = q_bm τ c := by rw [q_bm, if_neg (fun g => hlt g.2)]
      rw [if_pos (by omega)]
      rw [e] at go
      exact go σ (fun _ _ => rfl) hb
theorem v_findMost (hI : q_I τ) {σ : k_Mem} (hW : q_W τ σ) : ∃ σ', f_X0_findMost σ = some (nI (q_bm τ 625).1, σ') ∧ ∀ x, x < 8 → σ' 54 x = q_e1 (q_cm (q_bm τ 625).2 x) := by
  unfold f_X0_findMost
  obtain ⟨σ1, e1, e2, e3⟩ := v_fill (o := 52) (n := 8) (-1) σ (by omega)
  obtain ⟨σ2, f1, f2, f3⟩ := v_fill (o := 54) (n := 8) (-1) σ1 (by omega)
  rw [e1, q_bd, f1, q_bd]
  refine v_most_l hI 625 0 0 1000 σ2 (by omega) (by omega) (by omega) (by omega) q_fe0 ?_ (fun x hx => by rw [f3 52 (by decide), e2 x hx, q_cm0 hx]; rfl) (fun x hx => by rw [f2 x hx, show (q_bm τ 0).2 = 0 from rfl, q_cm0 hx]; rfl)
  unfold q_W
  rw [f3 46 (by decide), f3 50 (by decide), f3 51 (by decide), e3 46 (by decide), e3 50 (by decide), e3 51 (by decide)]
  exact hW
theorem w_most_in (hI : q_I τ) {c : Nat} (hfe : q_fe τ c = true) {σ : k_Mem} (hT : q_TB τ 0 σ) (hm : ∀ x, x < 8 → σ 76 x = q_e4 (q_cm c x)) (k37 : Int32 → Int32 → Int32 → Int32 → k_Mem → Option (Int32 × k_Mem)) (x1 x2 x3 : Int32) : ∀ (m k f : Nat), k + m = 8 → m < f → l_X7_most_60 k37 f x1 x2 x3 (nI c) (nI (q_sm (q_ll τ (q_cm c)) k)) (nI k) σ = if nI (q_al τ (q_cm c)) ≤ x2 then k37 x1 x2 x3 (nI (c + 1)) σ else k37 x1 (nI (q_al τ (q_cm c))) (nI c) (nI (c + 1)) σ := by
  have hMt := q_cm_Mt hI hfe
  intro m
  induction m with
  | zero =>
    intro k f h1 h2
    obtain ⟨f, rfl⟩ : ∃ g, f = g + 1 := ⟨f - 1, by omega⟩
    rw [l_X7_most_60, show (8 : Int32) = nI 8 from rfl, if_pos (nI_le (by omega) (by omega)), show k = 8 by omega]
    simp only [j_X7_most_124, j_X7_most_137, j_X7_most_138, show nI c + 1 = nI (c + 1) from nI_1 c, show q_sm (q_ll τ (q_cm c)) 8 = q_al τ (q_cm c) from rfl]
    by_cases h : nI (q_al τ (q_cm c)) ≤ x2
    · simp only [if_pos h]
    · simp only [if_neg h]
  | succ m ih =>
    intro k f h1 h2
    obtain ⟨f, rfl⟩ : ∃ g, f = g + 1 := ⟨f - 1, by omega⟩
    have hih := ih (k + 1) f (by omega) (by omega)
    rw [l_X7_most_60, show (8 : Int32) = nI 8 from rfl, if_neg (nI_ge (by omega) (by omega))]
    simp only [q_inT (show k < 8 by omega) (by omega : 8 < 2 ^ 31), if_true, q_n (show k < 2 ^ 31 by omega), hm k (by omega), q_e4_n (fun y h => Nat.lt_trans (q_cm8 (show k < 8 by omega) y h) (by omega)), j_X7_most_103, show nI k + 1 = nI (k + 1) from nI_1 k]
    rw [← hih]
    cases h : q_cm c k with
    | none => rw [if_pos rfl, q_sm, show q_ll τ (q_cm c) k = 0 by simp [q_ll, h], show (0 : Int32) = nI 0 from rfl, q_add]
    | some d =>
      have k8 : k < 8 := by omega
      obtain ⟨g1, g2, g3, g4⟩ := hMt k d ((if_pos k8).trans h)
      rw [if_neg (by simp), show q_e4 (some d) = nI d from rfl, q_mul, q_add]
      simp only [q_inT (show 8 * k + d < 64 by omega) (by omega : 64 < 2 ^ 31), if_true, q_n (show 8 * k + d < 2 ^ 31 by omega), hT k d (by omega) g2]
      rw [show q_ta τ 0 k d = nI (q_lk τ k d) by simp [q_ta, q_cg0, g3], q_add, q_sm, show q_ll τ (q_cm c) k = q_lk τ k d by simp [q_ll, h]]
theorem w_most_l (hI : q_I τ) (x1 : Int32) (hx : x1 = 0 ∨ ∃ a, a < 8 ∧ x1 ≠ 0 ∧ x1 - 10 = nI a) : ∀ (m k f : Nat) (σ : k_Mem), k + m = 625 → m < f → q_TB τ 0 σ → ∃ σ', l_X7_most_37 f x1 (if k = 0 then -1 else nI (q_bm τ k).1) (nI (q_bm τ k).2) (nI k) σ = some (if x1 = 0 then nI (q_bm τ 625).1 else q_e4 (q_cm (q_bm τ 625).2 (k_n (x1 - 10))), σ') := by
  intro m
  induction m with
  | zero =>
    intro k f σ h1 h2 hT
    obtain ⟨f, rfl⟩ : ∃ g, f = g + 1 := ⟨f - 1, by omega⟩
    have hk : k = 625 := by omega
    subst hk
    obtain ⟨b1, b2, b3⟩ := q_bm_in hI 625 (by omega)
    obtain ⟨σ1, e1, e2, e3⟩ := w_laysPairs hI b3 hT
    rw [l_X7_most_37, show (625 : Int32) = nI 625 from rfl, if_pos (nI_le (by omega) (by omega)), if_neg (by omega), e1, q_bd]
    rcases hx with rfl | ⟨a, a8, hx0, hxa⟩
    · rw [if_pos rfl, if_pos rfl]; exact ⟨σ1, rfl⟩
    · rw [if_neg hx0, if_neg hx0, hxa, q_inT a8 (by omega), if_pos rfl, q_n (by omega), e2 b2 a a8]; exact ⟨σ1, rfl⟩
  | succ m ih =>
    intro k f σ h1 h2 hT
    obtain ⟨f, rfl⟩ : ∃ g, f = g + 1 := ⟨f - 1, by omega⟩
    rw [l_X7_most_37, show (625 : Int32) = nI 625 from rfl, if_neg (nI_ge (by omega) (by omega))]
    obtain ⟨σ1, e1, e2, e3⟩ := w_laysPairs hI (c := k) (by omega) hT
    have hT1 : q_TB τ 0 σ1 := fun a c ha hc => by rw [e3 73 (by decide)]; exact hT a c ha hc
    have hih := ih (k + 1) f σ1 (by omega) (by omega) hT1
    rw [if_neg (by omega)] at hih
    rw [e1, q_bd]
    simp only [q_b0]
    cases hfe : q_fe τ k
    · have k0 : k ≠ 0 := fun e => by rw [e, q_fe0] at hfe; cases hfe
      have e : q_bm τ (k + 1) = q_bm τ k := by rw [q_bm, if_neg (fun g => by rw [hfe] at g; cases g.1)]
      rw [if_pos rfl, if_neg k0]
      unfold j_X7_most_138
      rw [show nI k + 1 = nI (k + 1) from nI_1 k]
      rw [e] at hih
      exact hih
    · rw [if_neg (by decide)]
      have b1 := q_al_b hI hfe
      have b2 := (q_bm_in hI k (by omega)).1
      have := w_most_in hI hfe hT1 (e2 hfe) (fun x1 x2 x3 x4 σ => l_X7_most_37 f x1 x2 x3 x4 σ) x1 (if k = 0 then -1 else nI (q_bm τ k).1) (nI (q_bm τ k).2) 8 0 1000 (by omega) (by omega)
      rw [show l_X7_most_60 (fun x1 x2 x3 x4 σ => l_X7_most_37 f x1 x2 x3 x4 σ) 1000 x1 (if k = 0 then -1 else nI (q_bm τ k).1) (nI (q_bm τ k).2) (nI k) 0 0 σ1 = _ from this]
      by_cases k0 : k = 0
      · subst k0
        have ea : q_al τ (q_cm 0) = 0 := by
          have : ∀ x, x < 8 → q_ll τ (q_cm 0) x = 0 := fun x hx => by unfold q_ll; rw [q_cm0 hx]
          unfold q_al
          simp [q_sm, this 0 (by omega), this 1 (by omega), this 2 (by omega), this 3 (by omega), this 4 (by omega), this 5 (by omega), this 6 (by omega), this 7 (by omega)]
        have e : q_bm τ (0 + 1) = (0, 0) := by rw [q_bm, ea, if_neg (fun g => absurd g.2 (by omega))]; rfl
        rw [e] at hih
        rw [if_pos rfl, ea, if_neg (by decide)]
        exact hih
      · rw [if_neg k0]
        simp (disch := omega) only [q_le]
        by_cases hlt : (q_bm τ k).1 < q_al τ (q_cm k)
        · have e : q_bm τ (k + 1) = (q_al τ (q_cm k), k) := by rw [q_bm, if_pos ⟨hfe, hlt⟩]
          rw [e] at hih
          rw [if_neg (by omega)]; exact hih
        · have e : q_bm τ (k + 1) = q_bm τ k := by rw [q_bm, if_neg (fun g => hlt g.2)]
          rw [e] at hih
          rw [if_pos (by omega)]; exact hih
end MO
theorem v_isLeft {b : Nat} {τ : k_TW} {σ : k_Mem} (hC : q_C b τ σ) (x : Int32) : f_X5_isLeft b x σ = some (if x < 0 ∨ nI (τ 7 0) ≤ x then 0 else 1, σ) := by
  unfold f_X5_isLeft
  rw [hC.1]
  by_cases h1 : x < 0
  · rw [if_pos h1, if_pos (Or.inl h1)]
  · rw [if_neg h1]
    by_cases h2 : nI (τ 7 0) ≤ x
    · rw [if_pos h2, if_pos (Or.inr h2)]
    · rw [if_neg h2, if_neg (fun g => g.elim h1 h2)]
theorem o_most (x : Int32) : q_Op (fun σ => f_X6_most x σ) (fun σ => f_X7_most x σ) := q_quf (fun σ => fr_f_X6_most x σ) (fun σ => fr_f_X7_most x σ) (by decide) (by decide) (fun τ im σ h => by
  obtain ⟨hI, hC, hN, hM, -⟩ := h
  have core : (x = 0 ∨ ∃ a, a < 8 ∧ x ≠ 0 ∧ x - 10 = nI a) → ∃ v σ1, j_X6_most_22 x (x - 10) σ = some (v, σ1) ∧ ∀ σ', q_R τ im σ' → ∃ σ2, j_X7_most_25 x σ' = some (v, σ2) := by
    intro ho
    obtain ⟨σ1, e1, e2, e3, e4⟩ := v_weigh (b := 6) (by omega) hI hC
    obtain ⟨σ3, f1, f2⟩ := v_findMost hI e3
    refine ⟨if x = 0 then nI (q_bm τ 625).1 else q_e4 (q_cm (q_bm τ 625).2 (k_n (x - 10))), σ3, ?_, fun σ' h' => ?_⟩
    · unfold j_X6_most_22
      rw [e1, q_bd, f1, q_bd]
      rcases ho with rfl | ⟨a, a8, hx, hxa⟩
      · rw [if_pos rfl, if_pos rfl]
      · rw [if_neg hx, if_neg hx, hxa, q_inT a8 (by omega), if_pos rfl, q_n (by omega), f2 a a8, v_orNone (fun y h => Nat.lt_trans (q_cm8 a8 y h) (by omega))]; rfl
    · obtain ⟨-, hC', hN', hM', -⟩ := h'
      obtain ⟨σ2, g1, g2, g3⟩ := w_laysTable (g := 0) hI hN' hM' (by omega)
      unfold j_X7_most_25
      rw [show f_X7_laysTable 0 σ' = some ((), σ2) from g1, q_bd]
      exact w_most_l hI x ho 625 0 1000 σ2 (by omega) (by omega) g2
  have hl := hI.1
  unfold f_X6_most f_X7_most
  by_cases h0 : x = 0
  · rw [if_pos h0]
    simp only [if_pos h0]
    exact core (Or.inl h0)
  · rw [if_neg h0]
    simp only [if_neg h0]
    rw [v_isLeft hC, q_bd]
    have hin : ∀ σ', q_N τ σ' → f_X7_in x.toInt64 10 (Int32.toInt64 (9 + (σ' 67 1))) σ' = some (if (10 : Int32) ≤ x ∧ x ≤ nI (9 + τ 7 0) then 1 else 0, σ') := fun σ' hN' => by
      rw [hN'.1]
      exact v_in32 x 10 (nI (9 + τ 7 0)) 10 _ (by decide) (by rw [show (9 : Int32) = nI 9 from rfl, q_add]) σ'
    by_cases hL : ∃ a, a < τ 7 0 ∧ x - 10 = nI a
    · obtain ⟨a, ha, e⟩ := hL
      obtain ⟨v, σ1, e1, e2⟩ := core (Or.inr ⟨a, by omega, h0, e⟩)
      have ex : x = nI (10 + a) := by
        have : x = x - 10 + 10 := (Int32.sub_add_cancel _ _).symm
        rw [this, e, show (10 : Int32) = nI 10 from rfl, q_add, Nat.add_comm]
      refine ⟨v, σ1, ?_, fun σ' h' => ?_⟩
      · rw [e] at e1 ⊢
        have hP : ¬ (nI a < 0 ∨ nI (τ 7 0) ≤ nI a) := fun g => by
          rcases g with g | g
          · exact nI_pos (by omega) g
          · rw [q_le (by omega) (by omega)] at g; omega
        rw [if_neg hP, if_neg q_10]; exact e1
      · obtain ⟨σ2, f1⟩ := e2 σ' h'
        refine ⟨σ2, ?_⟩
        have hP : (10 : Int32) ≤ x ∧ x ≤ nI (9 + τ 7 0) := by
          rw [ex]
          exact ⟨nI_le (a := 10) (by omega) (by omega), nI_le (by omega) (by omega)⟩
        rw [hin σ' h'.2.2.1, q_bd, if_pos hP, if_neg q_10]; exact f1
    · have hno : x - 10 < 0 ∨ nI (τ 7 0) ≤ x - 10 := by
        rcases q_ix (x - 10) (n := τ 7 0) (by omega) with h | h | ⟨j, h1, h2⟩
        · exact Or.inl h
        · exact Or.inr h
        · exact absurd ⟨j, h1, h2⟩ hL
      rw [if_pos hno, if_pos rfl]
      refine ⟨_, _, rfl, fun σ' h' => ?_⟩
      have hP : ¬ ((10 : Int32) ≤ x ∧ x ≤ nI (9 + τ 7 0)) := fun g => hL (by
        obtain ⟨g1, g2⟩ := g
        rw [Int32.le_iff_toInt_le] at g1 g2
        rw [show (10 : Int32).toInt = 10 by decide] at g1
        rw [nI_toInt (by omega)] at g2
        refine ⟨x.toInt.toNat - 10, by omega, ?_⟩
        have hx : x = nI x.toInt.toNat := by
          apply Int32.toInt_inj.mp
          rw [nI_toInt (by omega)]; omega
        have h3 : nI x.toInt.toNat - nI 10 = nI (x.toInt.toNat - 10) := q_sub (by omega)
        rw [← hx] at h3; exact h3)
      rw [hin σ' h'.2.2.1, q_bd, if_neg hP, if_pos rfl]
      exact ⟨_, rfl⟩)
