/-! PURE: how the class asks -/
def q_e1 (o : Option Nat) : Int32 := match o with
  | none => -1
  | some x => nI x
theorem q_clr : ∀ u, u < 256 → ∀ b, b < 8 → (nI u &&& ((k_shl 1 (nI b)) ^^^ (-1))) = nI (u &&& (255 - 2 ^ b)) := by decide +kernel
theorem q_clt {u b c : Nat} (hb : b < 8) (hc : c < 8) : (u &&& (255 - 2 ^ b)).testBit c = (u.testBit c && decide (c ≠ b)) := by
  rw [Nat.testBit_and]
  have h : ∀ b, b < 8 → ∀ c, c < 8 → (255 - 2 ^ b).testBit c = decide (c ≠ b) := by decide +kernel
  rw [h b hb c hc]
/-- the class's state of asking: askers and others are bits ak, ot -/
def q_RA (τ : k_TW) (ot : Nat → Bool) (mt : k_Mt) (tr : k_Tr) (σ : k_Mem) : Prop :=
  (∀ a c, a < 8 → c < 8 → σ 51 (a * 8 + c) = q_wi τ a c) ∧ (∀ x, x < 8 → σ 52 x = q_e1 (mt x)) ∧ ∀ x, x < 8 → ∃ u, u < 256 ∧ σ 53 x = nI u ∧ ∀ c, c < 8 → u.testBit c = (ot c && !tr x c)
theorem q_can_sy {τ : k_TW} (hI : q_I τ) {a c : Nat} (h : q_can τ a c = true) : q_can τ c a = true := by
  simp only [q_can, Bool.and_eq_true, decide_eq_true_eq, Bool.not_eq_true'] at h ⊢
  refine ⟨⟨⟨h.1.1.2, h.1.1.1⟩, fun e => h.1.2 e.symm⟩, ?_⟩
  rw [← Bool.not_eq_true]
  intro q
  have := ((hI.2.2.2.2.2.2.2 c (q_H8 hI h.1.1.2)).2 a q).2.2.2
  rw [h.2] at this
  cases this
theorem q_can_H {τ : k_TW} {a c : Nat} (h : q_can τ a c = true) : q_H τ a = true ∧ q_H τ c = true ∧ a / 4 ≠ c / 4 := by
  simp only [q_can, Bool.and_eq_true, decide_eq_true_eq] at h
  exact ⟨h.1.1.1, h.1.1.2, h.1.2⟩
theorem q_w191 {τ : k_TW} (hI : q_I τ) {a c : Nat} (h : q_can τ a c = true) : q_w (q_lk τ) a c ≤ 191 := by
  have := q_lk23 hI (q_can_H h).1 (q_can_H h).2.1
  unfold q_w
  omega
theorem q_wi_w {τ : k_TW} {a c : Nat} (h : q_can τ a c = true) : q_wi τ a c = nI (q_w (q_lk τ) a c) := by simp [q_wi, h, q_w]
/-- what the asking goes by: who can be with whom is q_can, kept to askers and others -/
def q_AC (τ : k_TW) (s : Nat) (cn : Nat → Nat → Bool) (ak ot : Nat → Bool) : Prop := s < 2 ∧ (∀ a c, a < 8 → c < 8 → ak a = true → cn a c = (q_can τ a c && ot c)) ∧ (∀ a, a < 8 → ak a = true → a / 4 = s) ∧ ∀ a c, a < 8 → a / 4 = s → ak a = false → cn a c = false
section AC
variable {τ : k_TW} {cn : Nat → Nat → Bool} {ak ot : Nat → Bool} {mt : k_Mt} {tr : k_Tr} {σ : k_Mem} {s : Nat}
def q_mo (lk : Nat → Nat → Nat) (a : Nat) (o : Option Nat) : Int32 := match o with
  | none => -1
  | some d => nI (q_w lk a d)
theorem v_dearest_l (hI : q_I τ) (hA : q_AC τ s cn ak ot) (hw : ∀ a c, a < 8 → c < 8 → σ 51 (a * 8 + c) = q_wi τ a c) {a u fi : Nat} (ha : a < 8) (hk : ak a = true) (hu : u < 256) (hub : ∀ c, c < 8 → u.testBit c = (ot c && !tr a c)) (hfi : fi ≤ 4) : ∀ (m c f : Nat), c + m = fi + 4 → m < f → l_X0_dearest_21 f (nI a) (nI u) (q_e1 (q_bs cn (q_lk τ) tr a c)) (q_mo (q_lk τ) a (q_bs cn (q_lk τ) tr a c)) (nI fi) (nI c) σ = some (q_e1 (q_bs cn (q_lk τ) tr a (fi + 4)), σ) := by
  intro m
  induction m with
  | zero =>
    intro c f h1 h2
    obtain ⟨f, rfl⟩ : ∃ g, f = g + 1 := ⟨f - 1, by omega⟩
    rw [l_X0_dearest_21, show (4 : Int32) = nI 4 from rfl, q_add, if_pos (nI_le (by omega) (by omega)), show c = fi + 4 by omega]
  | succ m ih =>
    intro c f h1 h2
    obtain ⟨f, rfl⟩ : ∃ g, f = g + 1 := ⟨f - 1, by omega⟩
    have c8 : c < 8 := by omega
    rw [l_X0_dearest_21, show (4 : Int32) = nI 4 from rfl, q_add, if_neg (nI_ge (by omega) (by omega))]
    have hih := ih (c + 1) f (by omega) (by omega)
    have hcn := hA.2.1 a c ha c8 hk
    simp only [j_X0_dearest_74, show (8 : Int32) = nI 8 from rfl, q_mul, q_add, show nI c + 1 = nI (c + 1) from nI_1 c]
    simp (disch := omega) only [q_bit1, q_inT, eq_self, if_true, q_n, hub c c8, hw a c ha c8]
    have hno : (cn a c && !tr a c && q_bt (q_lk τ) a (q_bs cn (q_lk τ) tr a c) c) = false → q_bs cn (q_lk τ) tr a (c + 1) = q_bs cn (q_lk τ) tr a c := by
      intro h
      rw [q_bs, h]; rfl
    cases ho : ot c && !tr a c
    · rw [if_neg (by decide)]
      have e := hno (by rw [hcn]; cases h1 : ot c <;> cases h2 : tr a c <;> simp_all)
      rw [e] at hih
      exact hih
    · rw [if_pos rfl]
      simp only [Bool.and_eq_true, Bool.not_eq_true'] at ho
      cases hcan : q_can τ a c
      · have e := hno (by rw [hcn, hcan]; rfl)
        rw [e] at hih
        have hle : q_wi τ a c ≤ q_mo (q_lk τ) a (q_bs cn (q_lk τ) tr a c) := by
          rw [show q_wi τ a c = -2 by simp [q_wi, hcan]]
          cases hq : q_bs cn (q_lk τ) tr a c with
          | none => show (-2 : Int32) ≤ -1; decide
          | some d =>
            have hd := (q_bs_in hq).2.1
            have d8 := (q_bs_in hq).1
            rw [hA.2.1 a d ha (by omega) hk, Bool.and_eq_true] at hd
            have := q_w191 hI hd.1
            rw [Int32.le_iff_toInt_le]
            show (-2 : Int32).toInt ≤ (nI _).toInt
            rw [nI_toInt (by omega), show (-2 : Int32).toInt = -2 by decide]
            omega
        rw [if_pos hle]
        exact hih
      · have w1 := q_w191 hI hcan
        have hbt : (q_wi τ a c ≤ q_mo (q_lk τ) a (q_bs cn (q_lk τ) tr a c)) ↔ q_bt (q_lk τ) a (q_bs cn (q_lk τ) tr a c) c = false := by
          rw [q_wi_w hcan]
          cases hq : q_bs cn (q_lk τ) tr a c with
          | none =>
            simp only [q_mo, q_bt]
            rw [Int32.le_iff_toInt_le, nI_toInt (by omega), show (-1 : Int32).toInt = -1 by decide]
            constructor
            · intro h; omega
            · intro h; cases h
          | some d =>
            have hd := (q_bs_in hq).2.1
            have d8 := (q_bs_in hq).1
            rw [hA.2.1 a d ha (by omega) hk, Bool.and_eq_true] at hd
            have := q_w191 hI hd.1
            simp only [q_mo, q_bt]
            rw [nI_leI (by omega) (by omega), decide_eq_false_iff_not, Nat.not_lt]
        cases hb : q_bt (q_lk τ) a (q_bs cn (q_lk τ) tr a c) c
        · rw [if_pos (hbt.mpr hb)]
          have e := hno (by rw [hb]; simp)
          rw [e] at hih
          exact hih
        · rw [if_neg (fun h => by rw [hbt.mp h] at hb; cases hb)]
          have e : q_bs cn (q_lk τ) tr a (c + 1) = some c := by rw [q_bs, hcn, hcan, ho.1, ho.2, hb]; rfl
          rw [e] at hih
          simp only [q_e1, q_mo] at hih
          rw [q_wi_w hcan]
          exact hih
theorem v_dearest (hI : q_I τ) (hA : q_AC τ s cn ak ot) (hw : ∀ a c, a < 8 → c < 8 → σ 51 (a * 8 + c) = q_wi τ a c) {a u : Nat} (ha : a < 8) (hk : ak a = true) (hu : u < 256) (hub : ∀ c, c < 8 → u.testBit c = (ot c && !tr a c)) : f_X0_dearest (nI a) (nI u) σ = some (q_e1 (q_bs cn (q_lk τ) tr a 8), σ) := by
  have hcn : ∀ c, c < 8 → a / 4 = c / 4 → cn a c = false := by
    intro c c8 h
    rw [hA.2.1 a c ha c8 hk]
    have : q_can τ a c = false := by simp [q_can, h]
    rw [this]; rfl
  unfold f_X0_dearest j_X0_dearest_15
  rw [show (4 : Int32) = nI 4 from rfl]
  simp (disch := omega) only [q_le]
  by_cases h4 : 4 ≤ a
  · rw [if_pos h4, show (0 : Int32) = nI 0 from rfl]
    have h := v_dearest_l (fi := 0) (tr := tr) hI hA hw ha hk hu hub (by omega) 4 0 1000 (by omega) (by omega)
    have e : q_bs cn (q_lk τ) tr a (4 + 4) = q_bs cn (q_lk τ) tr a 4 := q_bs_skip 4 (fun c h1 h2 => hcn c (by omega) (by omega))
    rw [show (8 : Nat) = 4 + 4 from rfl, e]
    exact h
  · rw [if_neg h4]
    have h := v_dearest_l (fi := 4) (tr := tr) hI hA hw ha hk hu hub (by omega) 4 4 1000 (by omega) (by omega)
    have e : q_bs cn (q_lk τ) tr a (0 + 4) = q_bs cn (q_lk τ) tr a 0 := q_bs_skip 4 (fun c h1 h2 => hcn c (by omega) (by omega))
    rw [show q_bs cn (q_lk τ) tr a 4 = none from e] at h
    exact h
theorem v_wishFor (hw : ∀ a c, a < 8 → c < 8 → σ 51 (a * 8 + c) = q_wi τ a c) {a : Nat} (ha : a < 8) (o : Option Nat) (ho : ∀ c, o = some c → c < 8 ∧ q_can τ a c = true) : f_X0_wishFor (nI a) (q_e1 o) σ = some (q_mo (q_lk τ) a o, σ) := by
  unfold f_X0_wishFor
  cases o with
  | none => rfl
  | some c =>
    obtain ⟨c8, hc⟩ := ho c rfl
    simp only [q_e1, show (8 : Int32) = nI 8 from rfl, q_mul, q_add]
    simp (disch := omega) only [q_m1, if_false, q_inT, eq_self, if_true, q_n, hw a c ha c8]
    rw [q_wi_w hc]; rfl
theorem v_answer (hI : q_I τ) (hw : ∀ a c, a < 8 → c < 8 → σ 51 (a * 8 + c) = q_wi τ a c) (hm : ∀ x, x < 8 → σ 52 x = q_e1 (mt x)) (hMt : q_Mt (q_can τ) mt) {a b : Nat} (ha : a < 8) (hb : b < 8) (hab : q_can τ a b = true) (hma : mt a = none) : ∃ σ1, f_X0_answer (nI a) (nI b) σ = some ((), σ1) ∧ (∀ x, x < 8 → σ1 52 x = q_e1 (q_an (q_lk τ) mt a b x)) ∧ ∀ k, k ≠ 52 → σ1 k = σ k := by
  have hba := q_can_sy hI hab
  have hne : a ≠ b := fun e => (q_can_H hab).2.2 (by rw [e])
  have w1 := q_w191 hI hba
  have e1 := v_wishFor hw hb (some a) (fun c hc => by cases hc; exact ⟨ha, hba⟩)
  have e2 := v_wishFor hw hb (mt b) (fun c hc => ⟨(hMt b c hc).2.1, (hMt b c hc).2.2.1⟩)
  unfold f_X0_answer
  simp (disch := omega) only [q_inT, eq_self, if_true, q_n, hm b hb]
  rw [show nI a = q_e1 (some a) from rfl, e1, q_bd, e2, q_bd]
  have hle : (q_mo (q_lk τ) b (some a) ≤ q_mo (q_lk τ) b (mt b)) ↔ q_bt (q_lk τ) b (mt b) a = false := by
    cases hq : mt b with
    | none =>
      simp only [q_mo, q_bt]
      rw [Int32.le_iff_toInt_le, nI_toInt (by omega), show (-1 : Int32).toInt = -1 by decide]
      constructor
      · intro h; omega
      · intro h; cases h
    | some d =>
      have := q_w191 hI (hMt b d hq).2.2.1
      simp only [q_mo, q_bt]
      rw [nI_leI (by omega) (by omega), decide_eq_false_iff_not, Nat.not_lt]
  cases hbt : q_bt (q_lk τ) b (mt b) a
  · rw [if_pos (hle.mpr hbt)]
    refine ⟨σ, rfl, fun x hx => ?_, fun _ _ => rfl⟩
    rw [q_an, if_neg (by rw [hbt]; decide)]
    exact hm x hx
  · rw [if_neg (fun h => by rw [hle.mp h] at hbt; cases hbt)]
    have fin : ∀ σ0 : k_Mem, (∀ x, x < 8 → x ≠ a → x ≠ b → σ0 52 x = q_e1 (if mt b = some x then none else mt x)) → (∀ k, k ≠ 52 → σ0 k = σ k) → ∃ σ1, j_X0_answer_34 (q_e1 (some a)) (nI b) σ0 = some ((), σ1) ∧ (∀ x, x < 8 → σ1 52 x = q_e1 (q_an (q_lk τ) mt a b x)) ∧ ∀ k, k ≠ 52 → σ1 k = σ k := by
      intro σ0 h1 h2
      unfold j_X0_answer_34
      simp only [q_e1]
      simp (disch := omega) only [q_inT, eq_self, if_true, q_n]
      refine ⟨_, rfl, fun x hx => ?_, fun k hk => by rw [q_ms_ne _ _ hk, q_ms_ne _ _ hk, h2 k hk]⟩
      rw [q_an, if_pos hbt, q_ms, q_ms]
      by_cases x1 : x = b
      · subst x1
        rw [if_pos ⟨rfl, rfl⟩, if_neg (Ne.symm hne), if_pos rfl]
      · rw [if_neg (fun h => x1 h.2)]
        by_cases x2 : x = a
        · subst x2
          rw [if_pos ⟨rfl, rfl⟩, if_pos rfl]
        · rw [if_neg (fun h => x2 h.2), if_neg x2, if_neg x1]
          exact h1 x hx x2 x1
    cases hq : mt b with
    | none =>
      rw [if_pos (by rfl)]
      exact fin σ (fun x hx _ _ => by rw [hq, if_neg (by simp)]; exact hm x hx) (fun _ _ => rfl)
    | some d =>
      have d8 := (hMt b d hq).2.1
      simp only [q_e1]
      simp (disch := omega) only [q_m1, if_false, q_inT, eq_self, if_true, q_n]
      refine fin _ (fun x hx _ _ => ?_) (fun k hk => q_ms_ne _ _ hk)
      rw [q_ms, hq]
      by_cases x1 : x = d
      · subst x1; rw [if_pos ⟨rfl, rfl⟩, if_pos rfl]; rfl
      · rw [if_neg (fun h => x1 h.2), if_neg (fun h => x1 (Option.some.inj h).symm)]; exact hm x hx
theorem q_AC_cn (hA : q_AC τ s cn ak ot) {a b : Nat} (ha : a < 8) (hb : b < 8) (hs : a / 4 = s) (h : cn a b = true) : ak a = true ∧ q_can τ a b = true ∧ ot b = true := by
  cases hk : ak a
  · rw [hA.2.2.2 a b ha hs hk] at h; cases h
  · rw [hA.2.1 a b ha hb hk, Bool.and_eq_true] at h
    exact ⟨rfl, h.1, h.2⟩
theorem v_firstAsks_l (hI : q_I τ) (hA : q_AC τ s cn ak ot) (hR : q_RA τ ot mt tr σ) (hMt : q_Mt (q_can τ) mt) {A : Nat} (hA1 : A < 256) (hA2 : ∀ c, c < 8 → A.testBit c = ak c) : ∀ (m j f : Nat), j + m = 8 → m < f →
    (q_fa cn (q_lk τ) mt tr (max j (4 * s)) (4 * s + 4 - max j (4 * s)) = none → l_X0_firstAsks_2 f (nI A) (nI j) σ = some (0, σ)) ∧
    (∀ a b, q_fa cn (q_lk τ) mt tr (max j (4 * s)) (4 * s + 4 - max j (4 * s)) = some (a, b) → ∃ σ1, l_X0_firstAsks_2 f (nI A) (nI j) σ = some (1, σ1) ∧ q_RA τ ot (q_an (q_lk τ) mt a b) (q_mk tr a b) σ1) := by
  have s2 := hA.1
  intro m
  induction m with
  | zero =>
    intro j f h1 h2
    obtain ⟨f, rfl⟩ : ∃ g, f = g + 1 := ⟨f - 1, by omega⟩
    rw [show 4 * s + 4 - max j (4 * s) = 0 by omega]
    rw [l_X0_firstAsks_2, show (8 : Int32) = nI 8 from rfl, if_pos (nI_le (by omega) (by omega))]
    exact ⟨fun _ => rfl, fun a b h => by cases h⟩
  | succ m ih =>
    intro j f h1 h2
    obtain ⟨f, rfl⟩ : ∃ g, f = g + 1 := ⟨f - 1, by omega⟩
    have j8 : j < 8 := by omega
    have hih := ih (j + 1) f (by omega) (by omega)
    rw [l_X0_firstAsks_2, show (8 : Int32) = nI 8 from rfl, if_neg (nI_ge (by omega) (by omega))]
    simp only [j_X0_firstAsks_68, show nI j + 1 = nI (j + 1) from nI_1 j]
    simp (disch := omega) only [q_bit0, hA2 j j8]
    have skip : q_fa cn (q_lk τ) mt tr (max j (4 * s)) (4 * s + 4 - max j (4 * s)) = q_fa cn (q_lk τ) mt tr (max (j + 1) (4 * s)) (4 * s + 4 - max (j + 1) (4 * s)) → (q_fa cn (q_lk τ) mt tr (max j (4 * s)) (4 * s + 4 - max j (4 * s)) = none → l_X0_firstAsks_2 f (nI A) (nI (j + 1)) σ = some (0, σ)) ∧ (∀ a b, q_fa cn (q_lk τ) mt tr (max j (4 * s)) (4 * s + 4 - max j (4 * s)) = some (a, b) → ∃ σ1, l_X0_firstAsks_2 f (nI A) (nI (j + 1)) σ = some (1, σ1) ∧ q_RA τ ot (q_an (q_lk τ) mt a b) (q_mk tr a b) σ1) := by
      intro e
      rw [e]
      exact hih
    cases hk : ak j
    · rw [if_pos rfl]
      apply skip
      by_cases hs : j / 4 = s
      · rw [show max j (4 * s) = j by omega, show max (j + 1) (4 * s) = j + 1 by omega, show 4 * s + 4 - j = (4 * s + 4 - (j + 1)) + 1 by omega, q_fa]
        have e : q_bs cn (q_lk τ) tr j 8 = none := q_bs_skip (n := 0) 8 (fun c _ _ => hA.2.2.2 j c j8 hs hk)
        cases mt j with
        | some x => rfl
        | none => simp only [e]
      · by_cases h : j < 4 * s
        · rw [show max j (4 * s) = 4 * s by omega, show max (j + 1) (4 * s) = 4 * s by omega]
        · rw [show 4 * s + 4 - max j (4 * s) = 0 by omega, show 4 * s + 4 - max (j + 1) (4 * s) = 0 by omega]; rfl
    · have hs := hA.2.2.1 j j8 hk
      rw [if_neg (by decide)]
      simp (disch := omega) only [q_inT, eq_self, if_true, q_n, hR.2.1 j j8]
      have e0 : 4 * s + 4 - max j (4 * s) = (4 * s + 4 - (j + 1)) + 1 := by omega
      have e1 : max j (4 * s) = j := by omega
      have en : q_fa cn (q_lk τ) mt tr (max (j + 1) (4 * s)) (4 * s + 4 - max (j + 1) (4 * s)) = q_fa cn (q_lk τ) mt tr (j + 1) (4 * s + 4 - (j + 1)) := by rw [show max (j + 1) (4 * s) = j + 1 by omega]
      cases hm : mt j with
      | some x =>
        have x8 := (hMt j x hm).2.1
        simp only [q_e1]
        simp (disch := omega) only [q_m1, if_false]
        apply skip
        rw [e0, e1, q_fa_some hm, en]
      | none =>
        rw [if_pos (show q_e1 none = -1 from rfl)]
        obtain ⟨u, u1, u2, u3⟩ := hR.2.2 j j8
        rw [u2, v_dearest hI hA hR.1 j8 hk u1 u3, q_bd]
        cases hb : q_bs cn (q_lk τ) tr j 8 with
        | none =>
          rw [if_pos (show q_e1 none = -1 from rfl)]
          apply skip
          rw [e0, e1, q_fa_none hm hb, en]
        | some b =>
          obtain ⟨b8, hcn, htr⟩ := q_bs_in hb
          obtain ⟨-, hcan, hot⟩ := q_AC_cn hA j8 b8 hs hcn
          rw [e0, e1, q_fa_found hm hb]
          refine ⟨fun h => (by cases h), fun a b' h => ?_⟩
          cases h
          simp only [q_e1]
          simp (disch := omega) only [q_m1, if_false, q_inT, eq_self, if_true, q_n, u2]
          rw [q_clr u u1 b b8]
          obtain ⟨σ1, w1, e2, e3⟩ := v_answer (σ := k_mset σ 53 j (nI (u &&& (255 - 2 ^ b)))) hI (fun a c ha hc => by rw [q_ms_ne _ _ (by decide)]; exact hR.1 a c ha hc) (fun x hx => by rw [q_ms_ne _ _ (by decide)]; exact hR.2.1 x hx) hMt j8 b8 hcan hm
          rw [w1, q_bd]
          refine ⟨σ1, rfl, fun a c ha hc => ?_, e2, fun x hx => ?_⟩
          · rw [e3 51 (by decide), q_ms_ne _ _ (by decide)]; exact hR.1 a c ha hc
          · rw [e3 53 (by decide), q_ms]
            by_cases hxj : x = j
            · subst hxj
              rw [if_pos ⟨rfl, rfl⟩]
              refine ⟨_, Nat.lt_of_le_of_lt Nat.and_le_left u1, rfl, fun c hc => ?_⟩
              rw [q_clt b8 hc, u3 c hc]
              unfold q_mk
              by_cases hcb : c = b
              · subst hcb; simp
              · simp [hcb]
            · rw [if_neg (fun h => hxj h.2)]
              obtain ⟨v, v1, v2, v3⟩ := hR.2.2 x hx
              refine ⟨v, v1, v2, fun c hc => ?_⟩
              rw [v3 c hc]
              unfold q_mk
              rw [if_neg (fun h => hxj h.1)]
theorem v_ask_l (hI : q_I τ) (hA : q_AC τ s cn ak ot) {A : Nat} (hA1 : A < 256) (hA2 : ∀ c, c < 8 → A.testBit c = ak c) : ∀ (n : Nat) (mt : k_Mt) (tr : k_Tr) (i f : Nat) (σ : k_Mem), q_mu tr < n → i + q_mu tr < 1000 → q_mu tr < f → q_RA τ ot mt tr σ → q_Mt (q_can τ) mt → ∃ σ1, l_X0_ask_18 f (nI A) (nI i) σ = some ((), σ1) ∧ (∀ x, x < 8 → σ1 52 x = q_e1 (q_ak cn (q_lk τ) s n mt tr x)) ∧ q_Mt (q_can τ) (q_ak cn (q_lk τ) s n mt tr) := by
  have s2 := hA.1
  intro n
  induction n with
  | zero => intro mt tr i f σ h; exact absurd h (by omega)
  | succ n ih =>
    intro mt tr i f σ h1 h2 h3 hR hMt
    obtain ⟨f, rfl⟩ : ∃ g, f = g + 1 := ⟨f - 1, by omega⟩
    have hl := v_firstAsks_l hI hA hR hMt hA1 hA2 8 0 1000 (by omega) (by omega)
    rw [show max 0 (4 * s) = 4 * s by omega, show 4 * s + 4 - 4 * s = 4 by omega] at hl
    rw [l_X0_ask_18, show (1000 : Int32) = nI 1000 from rfl, if_neg (nI_ge (by omega) (by omega)), q_ak]
    unfold f_X0_firstAsks
    rw [show (0 : Int32) = nI 0 from rfl]
    cases hf : q_fa cn (q_lk τ) mt tr (4 * s) 4 with
    | none =>
      rw [hl.1 hf, q_bd, if_pos (show (0 : Int32) = nI 0 from rfl)]
      exact ⟨σ, rfl, hR.2.1, hMt⟩
    | some p =>
      obtain ⟨a, b⟩ := p
      obtain ⟨g1, g2, g3, g4⟩ := q_fa_in hf
      obtain ⟨b8, hcn, htr⟩ := q_bs_in g4
      have a8 : a < 8 := by omega
      obtain ⟨-, hcan, -⟩ := q_AC_cn hA a8 b8 (by omega) hcn
      obtain ⟨σ1, e1, e2⟩ := hl.2 a b hf
      have hlt := q_mu_lt a8 b8 htr
      rw [e1, q_bd, if_neg (by decide), show nI i + 1 = nI (i + 1) from nI_1 i]
      exact ih (q_an (q_lk τ) mt a b) (q_mk tr a b) (i + 1) f σ1 (by omega) (by omega) (by omega) e2 (q_Mt_an hMt a8 b8 (fun e => (q_can_H hcan).2.2 (by rw [e])) hcan (q_can_sy hI hcan) g3)
/-- the class asks -/
theorem v_ask (hI : q_I τ) (hA : q_AC τ s cn ak ot) (hw : ∀ a c, a < 8 → c < 8 → σ 51 (a * 8 + c) = q_wi τ a c) {A B : Nat} (hA1 : A < 256) (hA2 : ∀ c, c < 8 → A.testBit c = ak c) (hB1 : B < 256) (hB2 : ∀ c, c < 8 → B.testBit c = ot c) : ∃ σ1, f_X0_ask (nI A) (nI B) σ = some ((), σ1) ∧ (∀ x, x < 8 → σ1 52 x = q_e1 (q_pa cn (q_lk τ) s x)) ∧ q_Mt (q_can τ) (q_pa cn (q_lk τ) s) ∧ k_Sm [52, 53] σ σ1 := by
  have hfr := fr_f_X0_ask (nI A) (nI B) σ
  unfold f_X0_ask at hfr ⊢
  obtain ⟨σ1, e1, e2, e3⟩ := v_fill (o := 52) (n := 8) (-1) σ (by omega)
  obtain ⟨σ2, f1, f2, f3⟩ := v_fill (o := 53) (n := 8) (nI B) σ1 (by omega)
  rw [e1, q_bd, f1, q_bd, show (0 : Int32) = nI 0 from rfl] at hfr ⊢
  have hR : q_RA τ ot (fun _ => none) (fun _ _ => false) σ2 := by
    refine ⟨fun a c ha hc => ?_, fun x hx => ?_, fun x hx => ⟨B, hB1, f2 x hx, fun c hc => by rw [hB2 c hc]; simp⟩⟩
    · rw [f3 51 (by decide), e3 51 (by decide)]; exact hw a c ha hc
    · rw [f3 52 (by decide), e2 x hx]; rfl
  have h64 := q_mu64 (fun _ _ => false)
  obtain ⟨σ3, g1, g2, g3⟩ := v_ask_l hI hA hA1 hA2 65 (fun _ => none) (fun _ _ => false) 0 1000 σ2 (by omega) (by omega) (by omega) hR (fun x y h => by cases h)
  rw [g1] at hfr ⊢
  exact ⟨σ3, rfl, g2, g3, hfr () σ3 rfl⟩
end AC
