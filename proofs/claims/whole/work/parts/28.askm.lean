/-! PURE: how the reference asks -/
def q_e4 (o : Option Nat) : Int32 := match o with
  | none => -4
  | some x => nI x
theorem q_or1 : ∀ u, u < 256 → ∀ b, b < 8 → (nI u ||| (k_shl 1 (nI b))) = nI (u ||| 2 ^ b) := by decide +kernel
theorem q_or256 : ∀ u, u < 256 → ∀ b, b < 8 → u ||| 2 ^ b < 256 := by decide +kernel
def q_RB (τ : k_TW) (g : Nat) (mt : k_Mt) (tr : k_Tr) (σ : k_Mem) : Prop :=
  q_TB τ g σ ∧ (∀ x, x < 8 → σ 74 x = q_e4 (mt x)) ∧ ∀ x, x < 8 → ∃ u, u < 256 ∧ σ 75 x = nI u ∧ ∀ c, c < 8 → u.testBit c = tr x c
theorem q_cg_can {τ : k_TW} {g a c : Nat} (h : q_cg τ g a c = true) : q_can τ a c = true := by
  simp only [q_cg, Bool.and_eq_true] at h
  exact h.1.1
theorem q_cg_sy {τ : k_TW} (hI : q_I τ) {g a c : Nat} (h : q_cg τ g a c = true) : q_cg τ g c a = true := by
  simp only [q_cg, Bool.and_eq_true] at h ⊢
  exact ⟨⟨q_can_sy hI h.1.1, h.2⟩, h.1.2⟩
theorem q_4s (s : Nat) : (4 : Int32) * nI s + 4 = nI (4 * s + 4) := by rw [show (4 : Int32) = nI 4 from rfl, q_mul, q_add]
theorem q_4m (s : Nat) : (4 : Int32) * nI s = nI (4 * s) := by rw [show (4 : Int32) = nI 4 from rfl, q_mul]
section AM
variable {τ : k_TW} {g s : Nat} {mt : k_Mt} {tr : k_Tr} {σ : k_Mem}
theorem w_isRather (hI : q_I τ) (hT : q_TB τ g σ) {a b : Nat} (ha : a < 8) (hb : b < 8) (o : Option Nat) (ho : ∀ d, o = some d → d < 8 ∧ q_cg τ g a d = true) : f_X7_isRather (nI a) (nI b) (q_e4 o) σ = some (q_b (q_cg τ g a b && q_bt (q_lk τ) a o b), σ) := by
  unfold f_X7_isRather j_X7_isRather_41
  simp only [show (8 : Int32) = nI 8 from rfl, q_mul, q_add]
  simp (disch := omega) only [q_inT, eq_self, if_true, q_n, hT a b ha hb]
  cases hc : q_cg τ g a b
  · rw [show q_ta τ g a b = -1 by simp [q_ta, hc], if_neg (by decide)]; rfl
  · have hv := q_lk23 hI (q_can_H (q_cg_can hc)).1 (q_can_H (q_cg_can hc)).2.1
    rw [show q_ta τ g a b = nI (q_lk τ a b) by simp [q_ta, hc], if_pos (nI_pos' (by omega))]
    cases o with
    | none =>
      rw [if_pos (show q_e4 none = -4 from rfl)]
      have : (-1 : Int32) < nI (q_lk τ a b) := by
        rw [Int32.lt_iff_toInt_lt, nI_toInt (by omega), show (-1 : Int32).toInt = -1 by decide]; omega
      rw [if_pos this]; rfl
    | some d =>
      obtain ⟨d8, hd⟩ := ho d rfl
      have hw := q_lk23 hI (q_can_H (q_cg_can hd)).1 (q_can_H (q_cg_can hd)).2.1
      simp only [q_e4, q_add]
      simp (disch := omega) only [q_m4, if_false, q_inT, eq_self, if_true, q_n, hT a d ha d8]
      rw [show q_ta τ g a d = nI (q_lk τ a d) by simp [q_ta, hd]]
      simp (disch := omega) only [q_lt, q_eq, q_le]
      simp only [q_bt, Bool.true_and]
      by_cases c1 : q_lk τ a d < q_lk τ a b
      · rw [if_pos c1, show decide (q_w (q_lk τ) a d < q_w (q_lk τ) a b) = true by rw [decide_eq_true_eq]; unfold q_w; omega]; rfl
      · rw [if_neg c1]
        by_cases c2 : q_lk τ a b = q_lk τ a d
        · rw [if_pos c2]
          by_cases c3 : d ≤ b
          · rw [if_pos c3, show decide (q_w (q_lk τ) a d < q_w (q_lk τ) a b) = false by rw [decide_eq_false_iff_not]; unfold q_w; omega]; rfl
          · rw [if_neg c3, show decide (q_w (q_lk τ) a d < q_w (q_lk τ) a b) = true by rw [decide_eq_true_eq]; unfold q_w; omega]; rfl
        · rw [if_neg c2, show decide (q_w (q_lk τ) a d < q_w (q_lk τ) a b) = false by rw [decide_eq_false_iff_not]; unfold q_w; omega]; rfl
theorem w_nextAsked_l (hI : q_I τ) (hT : q_TB τ g σ) {a u : Nat} (ha : a < 8) (hu : u < 256) (hus : σ 75 a = nI u) (hub : ∀ c, c < 8 → u.testBit c = tr a c) : ∀ (m c f : Nat), c + m = 8 → m < f → l_X7_nextAsked_5 f (nI a) (q_e4 (q_bs (q_cg τ g) (q_lk τ) tr a c)) (nI c) σ = some (q_e4 (q_bs (q_cg τ g) (q_lk τ) tr a 8), σ) := by
  intro m
  induction m with
  | zero =>
    intro c f h1 h2
    obtain ⟨f, rfl⟩ : ∃ g, f = g + 1 := ⟨f - 1, by omega⟩
    rw [l_X7_nextAsked_5, show (8 : Int32) = nI 8 from rfl, if_pos (nI_le (by omega) (by omega)), show c = 8 by omega]
  | succ m ih =>
    intro c f h1 h2
    obtain ⟨f, rfl⟩ : ∃ g, f = g + 1 := ⟨f - 1, by omega⟩
    have c8 : c < 8 := by omega
    have hih := ih (c + 1) f (by omega) (by omega)
    rw [l_X7_nextAsked_5, show (8 : Int32) = nI 8 from rfl, if_neg (nI_ge (by omega) (by omega))]
    simp only [j_X7_nextAsked_38, j_X7_nextAsked_39, show nI c + 1 = nI (c + 1) from nI_1 c]
    simp (disch := omega) only [q_inT, eq_self, if_true, q_n, hus, q_bit0, hub c c8]
    rw [q_bs] at hih
    cases ht : tr a c
    · rw [if_pos rfl, w_isRather hI hT ha c8 _ (fun d hd => ⟨by have := (q_bs_in hd).1; omega, (q_bs_in hd).2.1⟩), q_bd]
      simp only [q_b0]
      rw [ht] at hih
      simp only [Bool.not_false, Bool.and_true] at hih
      cases hq : q_cg τ g a c && q_bt (q_lk τ) a (q_bs (q_cg τ g) (q_lk τ) tr a c) c
      · rw [hq, if_neg (by decide)] at hih
        rw [if_pos rfl]
        exact hih
      · rw [hq, if_pos rfl] at hih
        rw [if_neg (by decide)]
        exact hih
    · rw [if_neg (by decide)]
      rw [ht] at hih
      simp only [Bool.not_true, Bool.and_false, Bool.false_and, Bool.false_eq_true, if_false] at hih
      exact hih
theorem w_asking_l (hI : q_I τ) (hs : s < 2) (hR : q_RB τ g mt tr σ) (hMt : q_Mt (q_cg τ g) mt) : ∀ (m j f : Nat), j + m = 4 * s + 4 → 4 * s ≤ j → m < f →
    (q_fa (q_cg τ g) (q_lk τ) mt tr j m = none → l_X7_asking_33 f (nI s) (nI j) σ = some ((), σ)) ∧
    (∀ a b, q_fa (q_cg τ g) (q_lk τ) mt tr j m = some (a, b) → ∃ f' σ1, f ≤ f' + m ∧ l_X7_asking_33 f (nI s) (nI j) σ = l_X7_asking_33 f' (nI s) (nI (4 * s)) σ1 ∧ q_RB τ g (q_an (q_lk τ) mt a b) (q_mk tr a b) σ1) := by
  intro m
  induction m with
  | zero =>
    intro j f h1 h2 h3
    obtain ⟨f, rfl⟩ : ∃ g, f = g + 1 := ⟨f - 1, by omega⟩
    rw [l_X7_asking_33, q_4s, if_pos (nI_le (by omega) (by omega))]
    exact ⟨fun _ => rfl, fun a b h => by cases h⟩
  | succ m ih =>
    intro j f h1 h2 h3
    obtain ⟨f, rfl⟩ : ∃ g, f = g + 1 := ⟨f - 1, by omega⟩
    have j8 : j < 8 := by omega
    have hih := ih (j + 1) f (by omega) (by omega) (by omega)
    rw [l_X7_asking_33, q_4s, if_neg (nI_ge (by omega) (by omega))]
    simp (disch := omega) only [q_inT, eq_self, if_true, q_n, hR.2.1 j j8]
    have skip : q_fa (q_cg τ g) (q_lk τ) mt tr j (m + 1) = q_fa (q_cg τ g) (q_lk τ) mt tr (j + 1) m → (q_fa (q_cg τ g) (q_lk τ) mt tr j (m + 1) = none → l_X7_asking_33 f (nI s) (nI (j + 1)) σ = some ((), σ)) ∧ (∀ a b, q_fa (q_cg τ g) (q_lk τ) mt tr j (m + 1) = some (a, b) → ∃ f' σ1, f + 1 ≤ f' + (m + 1) ∧ l_X7_asking_33 f (nI s) (nI (j + 1)) σ = l_X7_asking_33 f' (nI s) (nI (4 * s)) σ1 ∧ q_RB τ g (q_an (q_lk τ) mt a b) (q_mk tr a b) σ1) := by
      intro e
      rw [e]
      refine ⟨hih.1, fun a b h => ?_⟩
      obtain ⟨f', σ1, g1, g2⟩ := hih.2 a b h
      exact ⟨f', σ1, by omega, g2⟩
    cases hm : mt j with
    | some x =>
      have x8 := (hMt j x hm).2.1
      simp only [q_e4]
      simp (disch := omega) only [q_m4, if_false]
      unfold j_X7_asking_63 j_X7_asking_145
      rw [if_pos rfl, show nI j + 1 = nI (j + 1) from nI_1 j]
      exact skip (q_fa_some hm)
    | none =>
      rw [if_pos (show q_e4 none = -4 from rfl)]
      obtain ⟨u, u1, u2, u3⟩ := hR.2.2 j j8
      unfold f_X7_nextAsked
      have hn := w_nextAsked_l hI hR.1 (tr := tr) j8 u1 u2 u3 8 0 1000 (by omega) (by omega)
      rw [show (0 : Int32) = nI 0 from rfl, show (-4 : Int32) = q_e4 (q_bs (q_cg τ g) (q_lk τ) tr j 0) from rfl, hn, q_bd]
      unfold j_X7_asking_63
      cases hb : q_bs (q_cg τ g) (q_lk τ) tr j 8 with
      | none =>
        rw [if_pos (show q_e4 none = -4 from rfl), show nI j + 1 = nI (j + 1) from nI_1 j]
        unfold j_X7_asking_145
        exact skip (q_fa_none hm hb)
      | some b =>
        obtain ⟨b8, hcn, htr⟩ := q_bs_in hb
        have hba := q_cg_sy hI hcn
        have hne : j ≠ b := fun e => (q_can_H (q_cg_can hcn)).2.2 (by rw [e])
        rw [q_fa_found hm hb]
        refine ⟨fun h => (by cases h), fun a b' h => ?_⟩
        cases h
        simp only [q_e4]
        simp (disch := omega) only [q_m4, if_false, q_inT, eq_self, if_true, q_n, u2]
        rw [q_or1 u u1 b b8]
        generalize hσ : k_mset σ 75 j (nI (u ||| 2 ^ b)) = σ0
        have h73 : q_TB τ g σ0 := fun a c ha hc => by rw [← hσ, q_ms_ne _ _ (by decide)]; exact hR.1 a c ha hc
        have h74 : ∀ x, x < 8 → σ0 74 x = q_e4 (mt x) := fun x hx => by rw [← hσ, q_ms_ne _ _ (by decide)]; exact hR.2.1 x hx
        have h75 : ∀ x, x < 8 → ∃ u, u < 256 ∧ σ0 75 x = nI u ∧ ∀ c, c < 8 → u.testBit c = q_mk tr j b x c := by
          intro x hx
          rw [← hσ]
          by_cases hxj : x = j
          · subst hxj
            refine ⟨_, q_or256 u u1 b b8, by rw [q_ms, if_pos ⟨rfl, rfl⟩], fun c hc => ?_⟩
            rw [Nat.testBit_or, Nat.testBit_two_pow, u3 c hc]
            unfold q_mk
            by_cases hcb : b = c
            · subst hcb; simp
            · simp [hcb, Ne.symm hcb]
          · obtain ⟨v, v1, v2, v3⟩ := hR.2.2 x hx
            refine ⟨v, v1, by rw [q_ms, if_neg (fun h => hxj h.2)]; exact v2, fun c hc => ?_⟩
            rw [v3 c hc]
            unfold q_mk
            rw [if_neg (fun h => hxj h.1)]
        rw [h74 b b8, w_isRather hI h73 b8 j8 (mt b) (fun d hd => ⟨(hMt b d hd).2.1, (hMt b d hd).2.2.1⟩), q_bd]
        simp only [q_b0, hba, Bool.true_and, j_X7_asking_141, j_X7_asking_145, q_4m]
        cases hbt : q_bt (q_lk τ) b (mt b) j
        · rw [if_pos rfl]
          refine ⟨f, σ0, by omega, rfl, h73, fun x hx => ?_, h75⟩
          rw [q_an, if_neg (by rw [hbt]; decide)]
          exact h74 x hx
        · rw [if_neg (by decide)]
          have fin : ∀ σ2 : k_Mem, (∀ x, x < 8 → x ≠ j → x ≠ b → σ2 74 x = q_e4 (if mt b = some x then none else mt x)) → (∀ k, k ≠ 74 → σ2 k = σ0 k) → ∃ f' σ1, f + 1 ≤ f' + (m + 1) ∧ j_X7_asking_127 (fun x1 x2 σ => l_X7_asking_33 f x1 x2 σ) (nI s) (nI j) (nI b) σ2 = l_X7_asking_33 f' (nI s) (nI (4 * s)) σ1 ∧ q_RB τ g (q_an (q_lk τ) mt j b) (q_mk tr j b) σ1 := by
            intro σ2 g1 g2
            unfold j_X7_asking_127 j_X7_asking_141 j_X7_asking_145
            simp (disch := omega) only [q_inT, eq_self, if_true, q_n, q_4m]
            refine ⟨f, _, by omega, rfl, fun a c ha hc => ?_, fun x hx => ?_, fun x hx => ?_⟩
            · rw [q_ms_ne _ _ (by decide), q_ms_ne _ _ (by decide), g2 73 (by decide)]; exact h73 a c ha hc
            · rw [q_an, if_pos hbt, q_ms, q_ms]
              by_cases x1 : x = b
              · subst x1
                rw [if_pos ⟨rfl, rfl⟩, if_neg (Ne.symm hne), if_pos rfl]; rfl
              · rw [if_neg (fun h => x1 h.2)]
                by_cases x2 : x = j
                · subst x2
                  rw [if_pos ⟨rfl, rfl⟩, if_pos rfl]; rfl
                · rw [if_neg (fun h => x2 h.2), if_neg x2, if_neg x1]
                  exact g1 x hx x2 x1
            · rw [q_ms_ne _ _ (by decide), q_ms_ne _ _ (by decide), g2 75 (by decide)]; exact h75 x hx
          cases hq : mt b with
          | none =>
            rw [h74 b b8, hq, if_pos (show q_e4 none = -4 from rfl)]
            exact fin σ0 (fun x hx _ _ => by rw [hq, if_neg (by simp)]; exact h74 x hx) (fun _ _ => rfl)
          | some d =>
            have d8 := (hMt b d hq).2.1
            rw [h74 b b8, hq]
            simp only [q_e4]
            simp (disch := omega) only [q_m4, if_false, q_inT, eq_self, if_true, q_n]
            refine fin _ (fun x hx _ _ => ?_) (fun k hk => q_ms_ne _ _ hk)
            rw [q_ms, hq]
            by_cases x1 : x = d
            · subst x1; rw [if_pos ⟨rfl, rfl⟩, if_pos rfl]; rfl
            · rw [if_neg (fun h => x1 h.2), if_neg (fun h => x1 (Option.some.inj h).symm)]; exact h74 x hx
theorem w_asking_n (hI : q_I τ) (hs : s < 2) : ∀ (n : Nat) (mt : k_Mt) (tr : k_Tr) (f : Nat) (σ : k_Mem), q_mu tr < n → 5 * q_mu tr + 5 ≤ f → q_RB τ g mt tr σ → q_Mt (q_cg τ g) mt → ∃ σ1, l_X7_asking_33 f (nI s) (nI (4 * s)) σ = some ((), σ1) ∧ (∀ x, x < 8 → σ1 74 x = q_e4 (q_ak (q_cg τ g) (q_lk τ) s n mt tr x)) := by
  intro n
  induction n with
  | zero => intro mt tr f σ h; exact absurd h (by omega)
  | succ n ih =>
    intro mt tr f σ h1 h2 hR hMt
    have hl := w_asking_l hI hs hR hMt 4 (4 * s) f (by omega) (by omega) (by omega)
    rw [q_ak]
    cases hf : q_fa (q_cg τ g) (q_lk τ) mt tr (4 * s) 4 with
    | none =>
      rw [hl.1 hf]
      exact ⟨σ, rfl, hR.2.1⟩
    | some p =>
      obtain ⟨a, b⟩ := p
      obtain ⟨g1, g2, g3, g4⟩ := q_fa_in hf
      obtain ⟨b8, hcn, htr⟩ := q_bs_in g4
      have a8 : a < 8 := by omega
      obtain ⟨f', σ1, e1, e2, e3⟩ := hl.2 a b hf
      have hlt := q_mu_lt a8 b8 htr
      rw [e2]
      exact ih (q_an (q_lk τ) mt a b) (q_mk tr a b) f' σ1 (by omega) (by omega) e3 (q_Mt_an hMt a8 b8 (fun e => (q_can_H (q_cg_can hcn)).2.2 (by rw [e])) hcn (q_cg_sy hI hcn) g3)
theorem w_asking_0 (hT : q_TB τ g σ) : ∀ (m j f : Nat) (σ : k_Mem), j + m = 8 → m < f → q_TB τ g σ → (∀ x, x < j → σ 74 x = -4 ∧ σ 75 x = 0) → ∃ σ1, l_X7_asking_2 f (nI s) (nI j) σ = l_X7_asking_33 1000 (nI s) (nI (4 * s)) σ1 ∧ q_RB τ g (fun _ => none) (fun _ _ => false) σ1 := by
  intro m
  induction m with
  | zero =>
    intro j f σ h1 h2 hT h
    obtain ⟨f, rfl⟩ : ∃ g, f = g + 1 := ⟨f - 1, by omega⟩
    rw [l_X7_asking_2, show (8 : Int32) = nI 8 from rfl, if_pos (nI_le (by omega) (by omega)), show (4 : Int32) = nI 4 from rfl, q_mul]
    exact ⟨σ, rfl, hT, fun x hx => (h x (by omega)).1, fun x hx => ⟨0, by omega, (h x (by omega)).2, fun c _ => Nat.zero_testBit c⟩⟩
  | succ m ih =>
    intro j f σ h1 h2 hT h
    obtain ⟨f, rfl⟩ : ∃ g, f = g + 1 := ⟨f - 1, by omega⟩
    rw [l_X7_asking_2, show (8 : Int32) = nI 8 from rfl, if_neg (nI_ge (by omega) (by omega))]
    simp (disch := omega) only [q_inT, eq_self, if_true, q_n]
    rw [show nI j + 1 = nI (j + 1) from nI_1 j]
    refine ih (j + 1) f _ (by omega) (by omega) (fun a c ha hc => by rw [q_ms_ne _ _ (by decide), q_ms_ne _ _ (by decide)]; exact hT a c ha hc) (fun x hx => ?_)
    rw [q_ms_ne (a := 74) _ _ (by decide), q_ms, q_ms, q_ms_ne (a := 75) (k := 74) _ _ (by decide)]
    by_cases c : x = j
    · subst c; simp
    · rw [if_neg (fun h => c h.2), if_neg (fun h => c h.2)]; exact h x (by omega)
/-- the reference asks -/
theorem w_asking (hI : q_I τ) (hs : s < 2) (hT : q_TB τ g σ) : ∃ σ1, f_X7_asking (nI s) σ = some ((), σ1) ∧ (∀ x, x < 8 → σ1 74 x = q_e4 (q_pa (q_cg τ g) (q_lk τ) s x)) ∧ k_Sm [74, 75] σ σ1 := by
  have hfr := fr_f_X7_asking (nI s) σ
  unfold f_X7_asking at hfr ⊢
  obtain ⟨σ1, e1, e2⟩ := w_asking_0 (s := s) hT 8 0 1000 σ (by omega) (by omega) hT (fun x h => absurd h (by omega))
  have h64 := q_mu64 (fun _ _ => false)
  obtain ⟨σ2, f1, f2⟩ := w_asking_n hI hs 65 (fun _ => none) (fun _ _ => false) 1000 σ1 (by omega) (by omega) e2 (fun x y h => by cases h)
  rw [show (0 : Int32) = nI 0 from rfl, e1, f1] at hfr ⊢
  exact ⟨σ2, rfl, f2, hfr () σ2 rfl⟩
end AM
