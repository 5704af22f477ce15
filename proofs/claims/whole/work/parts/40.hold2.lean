/-! PURE: hold -/
section LP
variable {τ : k_TW}
theorem q_qn5 {c n : Nat} (h1 : 1 ≤ n) (h4 : n ≤ 4) : c / 5 ^ (4 - n) % 5 = (if n = 1 then c / 125 % 5 else if n = 2 then c / 25 % 5 else if n = 3 then c / 5 % 5 else c % 5) ∧ c / 5 ^ (4 - n) / 5 = c / 5 ^ (4 - (n - 1)) := by
  have : n = 1 ∨ n = 2 ∨ n = 3 ∨ n = 4 := by omega
  rcases this with rfl | rfl | rfl | rfl <;> simp <;> omega
theorem q_qd {c a : Nat} (h : a < 4) : c / 5 ^ (4 - (a + 1)) % 5 = q_dg c a ∧ c / 5 ^ (4 - (a + 1)) / 5 = c / 5 ^ (4 - a) := by
  have := q_qn5 (c := c) (n := a + 1) (by omega) (by omega)
  refine ⟨?_, this.2⟩
  rw [this.1]
  unfold q_dg
  rcases q_4 h with rfl | rfl | rfl | rfl <;> rfl
theorem w_lays_l (hI : q_I τ) {c : Nat} (hc : c < 625) : ∀ (n f : Nat) (σ : k_Mem) (ok : Bool) (mt : k_Mt), n ≤ 4 → n < f → q_TB τ 0 σ → (ok = true → (∀ x, x < 8 → σ 76 x = q_e4 (mt x)) ∧ q_IS (fun i => decide (n ≤ i)) c mt ∧ (∀ a, n ≤ a → a < 4 → q_dg c a ≠ 0 → q_can τ a (q_dg c a + 3) = true) ∧ ∀ a, n ≤ a → a < 4 → ∀ a', a' < 4 → a < a' → q_dg c a = q_dg c a' → q_dg c a = 0) → (ok = false → q_fe τ c = false) →
    ∃ σ1, l_X7_laysPairs_32 f (nI (c / 5 ^ (4 - n))) (q_b ok) (nI n - 1) σ = some (q_b (q_fe τ c), σ1) ∧ (q_fe τ c = true → ∀ x, x < 8 → σ1 76 x = q_e4 (q_cm c x)) ∧ ∀ k, k ≠ 76 → σ1 k = σ k := by
  intro n
  induction n with
  | zero =>
    intro f σ ok mt h1 h2 hT hok hno
    obtain ⟨f, rfl⟩ : ∃ g, f = g + 1 := ⟨f - 1, by omega⟩
    rw [l_X7_laysPairs_32, if_pos (by decide)]
    cases ok with
    | false =>
      rw [if_pos (show q_b false = 0 ∨ q_b false = 1 from Or.inl rfl), hno rfl]
      exact ⟨σ, rfl, fun h => (by cases h), fun _ _ => rfl⟩
    | true =>
      obtain ⟨g1, g2, g3, g4⟩ := hok rfl
      have hfe : q_fe τ c = true := by
        rw [q_fe_d]
        exact ⟨fun a ha => g3 a (by omega) ha, fun a ha a' ha' => g4 a (by omega) ha a' ha'⟩
      rw [if_pos (show q_b true = 0 ∨ q_b true = 1 from Or.inr rfl), hfe]
      refine ⟨σ, rfl, fun _ x hx => ?_, fun _ _ => rfl⟩
      rw [g1 x hx, q_IS_un (q_IS_S g2 (fun i hi => by simp) (fun _ _ _ _ => rfl)) (q_cm_IS hfe) hx]
  | succ a ih =>
    intro f σ ok mt h1 h2 hT hok hno
    obtain ⟨f, rfl⟩ : ∃ g, f = g + 1 := ⟨f - 1, by omega⟩
    have h5 := q_dg5 c a
    obtain ⟨d1, d2⟩ := q_qd (c := c) (a := a) (by omega)
    have hq : c / 5 ^ (4 - (a + 1)) < 2 ^ 31 := Nat.lt_of_le_of_lt (Nat.div_le_self _ _) (by omega)
    rw [show nI (a + 1) - 1 = nI a from nI_pred a, l_X7_laysPairs_32, if_neg (nI_pos (by omega)), show (5 : Int32) = nI 5 from rfl, q_rem hq (by omega) (by omega), q_div hq (by omega) (by omega), d1, d2, show (4 : Int32) = nI 4 from rfl, q_add, show (1 : Int32) = nI 1 from rfl, q_sub (by omega), show q_dg c a + 4 - 1 = q_dg c a + 3 by omega]
    have hM1 : nI a + (-nI 1) = nI a - 1 := by rw [Int32.sub_eq_add_neg]; rfl
    simp (disch := omega) only [q_lt]
    by_cases hd : q_dg c a = 0
    · rw [if_pos (by omega)]
      unfold j_X7_laysPairs_112
      rw [show nI a + (-1) = nI a - 1 by rw [Int32.sub_eq_add_neg]]
      refine ih f σ ok mt (by omega) (by omega) hT (fun h => ?_) hno
      obtain ⟨g1, g2, g3, g4⟩ := hok h
      refine ⟨g1, q_IS_S g2 (fun i hi => ?_) (fun _ _ _ _ => rfl), fun i i1 i2 i3 => ?_, fun i i1 i2 => ?_⟩
      · simp only [decide_eq_true_eq]
        constructor
        · intro h; exact ⟨by omega, h.2⟩
        · intro h
          refine ⟨?_, h.2⟩
          have : i ≠ a := fun e => by rw [e] at h; exact h.2 hd
          omega
      · by_cases e : i = a
        · rw [e] at i3; exact absurd hd i3
        · exact g3 i (by omega) i2 i3
      · by_cases e : i = a
        · rw [e]; intro _ _ _ _; exact hd
        · exact g4 i (by omega) i2
    · rw [if_neg (by omega)]
      have bad : q_fe τ c = false → ∃ σ1, j_X7_laysPairs_93 (fun x2 x3 x4 σ => l_X7_laysPairs_32 f x2 x3 x4 σ) (nI (c / 5 ^ (4 - a))) (nI a) (nI (q_dg c a + 3)) 0 σ = some (q_b (q_fe τ c), σ1) ∧ (q_fe τ c = true → ∀ x, x < 8 → σ1 76 x = q_e4 (q_cm c x)) ∧ ∀ k, k ≠ 76 → σ1 k = σ k := by
        intro hf
        unfold j_X7_laysPairs_93 j_X7_laysPairs_112
        simp only [q_inT (show a < 8 by omega) (by omega : 8 < 2 ^ 31), q_inT (show q_dg c a + 3 < 8 by omega) (by omega : 8 < 2 ^ 31), if_true, q_n (show a < 2 ^ 31 by omega), q_n (show q_dg c a + 3 < 2 ^ 31 by omega)]
        rw [show nI a + (-1) = nI a - 1 by rw [Int32.sub_eq_add_neg]]
        obtain ⟨σ1, e1, e2, e3⟩ := ih f (k_mset (k_mset σ 76 a (nI (q_dg c a + 3))) 76 (q_dg c a + 3) (nI a)) false mt (by omega) (by omega) (fun x y hx hy => by rw [q_ms_ne _ _ (by decide), q_ms_ne _ _ (by decide)]; exact hT x y hx hy) (fun h => by cases h) (fun _ => hf)
        exact ⟨σ1, e1, e2, fun k hk => by rw [e3 k hk, q_ms_ne _ _ hk, q_ms_ne _ _ hk]⟩
      cases ok with
      | false =>
        rw [if_pos (show q_b false = 0 from rfl)]
        unfold j_X7_laysPairs_92
        exact bad (hno rfl)
      | true =>
        obtain ⟨g1, g2, g3, g4⟩ := hok rfl
        rw [if_neg (show ¬ q_b true = 0 from q_10), show (8 : Int32) = nI 8 from rfl, q_mul, q_add]
        simp only [q_inT (show 8 * a + (q_dg c a + 3) < 64 by omega) (by omega : 64 < 2 ^ 31), if_true, q_n (show 8 * a + (q_dg c a + 3) < 2 ^ 31 by omega), hT a (q_dg c a + 3) (by omega) (by omega)]
        cases hcan : q_can τ a (q_dg c a + 3)
        · rw [if_pos (show q_ta τ 0 a (q_dg c a + 3) < 0 by rw [show q_ta τ 0 a (q_dg c a + 3) = -1 by simp [q_ta, q_cg0, hcan]]; decide)]
          unfold j_X7_laysPairs_92
          refine bad ?_
          rw [← Bool.not_eq_true]; intro h
          rw [q_fe_d] at h
          have := h.1 a (by omega) hd
          rw [hcan] at this; cases this
        · have l23 := q_lk23 hI (q_can_H hcan).1 (q_can_H hcan).2.1
          rw [if_neg (show ¬ q_ta τ 0 a (q_dg c a + 3) < 0 by rw [show q_ta τ 0 a (q_dg c a + 3) = nI (q_lk τ a (q_dg c a + 3)) by simp [q_ta, q_cg0, hcan]]; exact nI_pos (by omega))]
          have mt8 : ∀ y, mt (q_dg c a + 3) = some y → y < 2 ^ 31 := fun y h => by
            rcases (g2 _ y (by omega)).mp h with ⟨k1, k2, k3, k4⟩ | ⟨k1, k2, k3, k4⟩ <;> omega
          simp only [q_inT (show q_dg c a + 3 < 8 by omega) (by omega : 8 < 2 ^ 31), if_true, q_n (show q_dg c a + 3 < 2 ^ 31 by omega), g1 (q_dg c a + 3) (by omega)]
          rw [show (-nI 4 : Int32) = -4 from rfl]
          simp only [q_e4_n mt8]
          by_cases hmn : mt (q_dg c a + 3) = none
          · rw [if_pos hmn]
            unfold j_X7_laysPairs_93 j_X7_laysPairs_112
            simp only [q_inT (show a < 8 by omega) (by omega : 8 < 2 ^ 31), q_inT (show q_dg c a + 3 < 8 by omega) (by omega : 8 < 2 ^ 31), if_true, q_n (show a < 2 ^ 31 by omega), q_n (show q_dg c a + 3 < 2 ^ 31 by omega)]
            rw [show nI a + (-1) = nI a - 1 by rw [Int32.sub_eq_add_neg]]
            have hih := ih f (k_mset (k_mset σ 76 a (nI (q_dg c a + 3))) 76 (q_dg c a + 3) (nI a)) true (q_jn mt a (q_dg c a + 3)) (by omega) (by omega) (fun x y hx hy => by rw [q_ms_ne _ _ (by decide), q_ms_ne _ _ (by decide)]; exact hT x y hx hy)
            refine Exists.elim (hih (fun _ => ?_) (fun h => by cases h)) (fun σ1 ⟨e1, e2, e3⟩ => ⟨σ1, e1, e2, fun k hk => by rw [e3 k hk, q_ms_ne _ _ hk, q_ms_ne _ _ hk]⟩)
            · refine ⟨fun x hx => ?_, q_IS_jn g2 (by omega) (by simp) (fun x _ => ?_) hd hmn, fun i i1 i2 i3 => ?_, fun i i1 i2 j j1 j2 j3 => ?_⟩
              · unfold q_jn
                rw [q_ms, q_ms]
                by_cases x1 : x = q_dg c a + 3
                · rw [if_pos ⟨rfl, x1⟩, if_pos x1]; rfl
                · rw [if_neg (fun g => x1 g.2), if_neg x1]
                  by_cases x2 : x = a
                  · rw [if_pos ⟨rfl, x2⟩, if_pos x2]; rfl
                  · rw [if_neg (fun g => x2 g.2), if_neg x2]; exact g1 x hx
              · by_cases e : x = a
                · subst e; simp
                · have : decide (a ≤ x) = decide (a + 1 ≤ x) := decide_eq_decide.mpr (by omega)
                  rw [this]; simp [e]
              · by_cases e : i = a
                · rw [e]; exact hcan
                · exact g3 i (by omega) i2 i3
              · by_cases e : i = a
                · rw [e] at j2 j3 ⊢
                  exfalso
                  have := (g2 (q_dg c a + 3) j (by omega)).mpr (Or.inr ⟨j1, by simp; omega, by omega, by omega⟩)
                  rw [hmn] at this; cases this
                · exact g4 i (by omega) i2 j j1 j2 j3
          · rw [if_neg hmn]
            unfold j_X7_laysPairs_92
            refine bad ?_
            rw [← Bool.not_eq_true]; intro h
            rw [q_fe_d] at h
            cases hq : mt (q_dg c a + 3) with
            | none => exact hmn hq
            | some y =>
              rcases (g2 _ y (by omega)).mp hq with ⟨k1, k2, k3, k4⟩ | ⟨k1, k2, k3, k4⟩
              · omega
              · simp only [decide_eq_true_eq] at k2
                exact hd (h.2 a (by omega) y k1 (by omega) (by omega))
theorem w_laysPairs (hI : q_I τ) {c : Nat} (hc : c < 625) {σ : k_Mem} (hT : q_TB τ 0 σ) : ∃ σ1, f_X7_laysPairs (nI c) σ = some (q_b (q_fe τ c), σ1) ∧ (q_fe τ c = true → ∀ x, x < 8 → σ1 76 x = q_e4 (q_cm c x)) ∧ ∀ k, k ≠ 76 → σ1 k = σ k := by
  have key : ∀ (m k f : Nat) (σ1 : k_Mem), k + m = 8 → m < f → q_TB τ 0 σ1 → (∀ x, x < k → σ1 76 x = -4) → ∃ σ2, l_X7_laysPairs_7 f (nI c) 1 (nI k) σ1 = some (q_b (q_fe τ c), σ2) ∧ (q_fe τ c = true → ∀ x, x < 8 → σ2 76 x = q_e4 (q_cm c x)) ∧ ∀ k, k ≠ 76 → σ2 k = σ1 k := by
    intro m
    induction m with
    | zero =>
      intro k f σ1 h1 h2 hT hz
      obtain ⟨f, rfl⟩ : ∃ g, f = g + 1 := ⟨f - 1, by omega⟩
      rw [l_X7_laysPairs_7, show (8 : Int32) = nI 8 from rfl, if_pos (nI_le (by omega) (by omega)), show (3 : Int32) = nI 4 - 1 by decide]
      have e0 : c / 5 ^ (4 - 4) = c := by simp
      have := w_lays_l hI hc 4 1000 σ1 true (fun _ => none) (by omega) (by omega) hT (fun _ => ⟨fun x hx => by rw [hz x (by omega)]; rfl, fun x y hx => ⟨fun h => (by cases h), fun h => by
        rcases h with ⟨k1, k2, k3, k4⟩ | ⟨k1, k2, k3, k4⟩
        · simp at k2; omega
        · simp at k2; omega⟩, fun a h1 h2 => absurd h2 (by omega), fun a h1 h2 => absurd h2 (by omega)⟩) (fun h => by cases h)
      rw [e0] at this
      exact this
    | succ m ih =>
      intro k f σ1 h1 h2 hT hz
      obtain ⟨f, rfl⟩ : ∃ g, f = g + 1 := ⟨f - 1, by omega⟩
      rw [l_X7_laysPairs_7, show (8 : Int32) = nI 8 from rfl, if_neg (nI_ge (by omega) (by omega))]
      simp only [q_inT (show k < 8 by omega) (by omega : 8 < 2 ^ 31), if_true, q_n (show k < 2 ^ 31 by omega)]
      rw [show nI k + 1 = nI (k + 1) from nI_1 k]
      obtain ⟨σ2, e1, e2, e3⟩ := ih (k + 1) f (k_mset σ1 76 k (-4)) (by omega) (by omega) (fun x y hx hy => by rw [q_ms_ne _ _ (by decide)]; exact hT x y hx hy) (fun x hx => by
        rw [q_ms]
        by_cases h : x = k
        · rw [if_pos ⟨rfl, h⟩]
        · rw [if_neg (fun g => h g.2)]; exact hz x (by omega))
      exact ⟨σ2, e1, e2, fun k hk => by rw [e3 k hk, q_ms_ne _ _ hk]⟩
  exact key 8 0 1000 σ (by omega) (by omega) hT (fun x hx => absurd hx (by omega))
theorem q_cm8 {c x : Nat} (hx : x < 8) : ∀ y, q_cm c x = some y → y < 8 := fun y h => by
  unfold q_cm at h
  by_cases h4 : x < 4
  · rw [if_pos h4] at h
    have := q_dg5 c x
    by_cases hd : q_dg c x = 0
    · rw [if_pos hd] at h; cases h
    · rw [if_neg hd] at h; cases h; omega
  · rw [if_neg h4] at h
    have := q_fi_in h; omega
theorem q_sm_gap {f : Nat → Nat} {c : Nat} : ∀ {c' : Nat}, c ≤ c' → (∀ e, c ≤ e → e < c' → f e = 0) → q_sm f c' = q_sm f c
  | 0, h, _ => by rw [show c = 0 by omega]
  | c' + 1, h, h2 => by
    by_cases e : c = c' + 1
    · rw [e]
    · rw [q_sm, h2 c' (by omega) (by omega), q_sm_gap (by omega) (fun e h3 h4 => h2 e h3 (by omega))]; rfl
def q_mf (pa : k_Mt) (c : Nat) (o : Option Nat) : Bool := match o with
  | none => true
  | some a => decide (q_cm c a = pa a)
def q_mx (pa : k_Mt) (o : Option Nat) : Int32 := match o with
  | none => -1
  | some a => q_e1 (pa a)
/-- pairs that hold, and have a hand with the mate that it has by asking -/
def q_hp (τ : k_TW) (pa : k_Mt) (o : Option Nat) (c : Nat) : Bool := q_fe τ c && (q_qf τ (q_cm c)).isNone && q_mf pa c o
def q_hn (τ : k_TW) (pa : k_Mt) (o : Option Nat) : Nat → Nat := q_sm (fun c => if q_hp τ pa o c then 1 else 0)
theorem q_hp_fe {pa : k_Mt} {o : Option Nat} {c : Nat} (h : q_fe τ c = false) : (if q_hp τ pa o c then 1 else 0) = 0 := by simp [q_hp, h]
theorem q_e1_inj {o o' : Option Nat} (h : ∀ c, o = some c → c < 2 ^ 31) (h' : ∀ c, o' = some c → c < 2 ^ 31) : (q_e1 o = q_e1 o') = (o = o') := by
  apply propext
  cases o with
  | none =>
    cases o' with
    | none => simp
    | some c' =>
      have := q_m1 (h' c' rfl)
      constructor
      · intro e; exact (this.mp (show nI c' = -1 from e.symm)).elim
      · intro e; cases e
  | some c =>
    cases o' with
    | none =>
      have := q_m1 (h c rfl)
      constructor
      · intro e; exact (this.mp (show nI c = -1 from e)).elim
      · intro e; cases e
    | some c' =>
      have := q_eq (h c rfl) (h' c' rfl)
      constructor
      · intro e; rw [this.mp (show nI c = nI c' from e)]
      · intro e; rw [e]
theorem q_e4_inj {o o' : Option Nat} (h : ∀ c, o = some c → c < 2 ^ 31) (h' : ∀ c, o' = some c → c < 2 ^ 31) : (q_e4 o = q_e4 o') = (o = o') := by
  apply propext
  cases o with
  | none =>
    cases o' with
    | none => simp
    | some c' =>
      have := q_m4 (h' c' rfl)
      constructor
      · intro e; exact (this.mp (show nI c' = -4 from e.symm)).elim
      · intro e; cases e
  | some c =>
    cases o' with
    | none =>
      have := q_m4 (h c rfl)
      constructor
      · intro e; exact (this.mp (show nI c = -4 from e)).elim
      · intro e; cases e
    | some c' =>
      have := q_eq (h c rfl) (h' c' rfl)
      constructor
      · intro e; rw [this.mp (show nI c = nI c' from e)]
      · intro e; rw [e]
theorem v_hold_l (hI : q_I τ) {pa : k_Mt} (hpa : ∀ x c, pa x = some c → c < 2 ^ 31) (o : Option Nat) (ho : ∀ a, o = some a → a < 8) : ∀ (m c i f : Nat) (σ : k_Mem), 625 - c ≤ m → i ≤ c → c < 625 → m + 1 < f → q_fe τ c = true → (∀ a c, a < 8 → c < 8 → σ 51 (a * 8 + c) = q_wi τ a c) → (∀ x, x < 8 → σ 52 x = q_e1 (q_cm c x)) →
    ∃ σ', l_X0_countHoldingWith_16 f (q_e1 o) (q_mx pa o) (nI (q_hn τ pa o c)) 1 (nI i) σ = some (nI (q_hn τ pa o 625), σ') := by
  intro m
  induction m with
  | zero => intro c i f σ h1 h2 h3; omega
  | succ m ih =>
    intro c i f σ h1 h2 h3 h4 hfe hw hm
    obtain ⟨f, rfl⟩ : ∃ g, f = g + 1 := ⟨f - 1, by omega⟩
    rw [l_X0_countHoldingWith_16, if_neg (show ¬ (10000 : Int32) ≤ nI i from nI_ge (b := 10000) (by omega) (by omega)), if_neg q_10]
    have go : ∀ n, n = q_hn τ pa o (c + 1) → ∃ σ', j_X0_countHoldingWith_67 (fun x1 x2 x3 x4 x5 σ => l_X0_countHoldingWith_16 f x1 x2 x3 x4 x5 σ) (q_e1 o) (q_mx pa o) (nI n) (nI i) σ = some (nI (q_hn τ pa o 625), σ') := by
      intro n hn
      unfold j_X0_countHoldingWith_67
      rw [show nI i + 1 = nI (i + 1) from nI_1 i]
      rcases v_next hI h3 hfe hw hm with ⟨σ', e1, e2, e3⟩ | ⟨c', σ', e1, e2, e3, e4, e5, e6, e7⟩
      · rw [e1, q_bd]
        dsimp only
        obtain ⟨f', hf'⟩ : ∃ g, f = g + 1 := ⟨f - 1, by omega⟩
        rw [hf', l_X0_countHoldingWith_16, if_neg (show ¬ (10000 : Int32) ≤ nI (i + 1) from nI_ge (b := 10000) (by omega) (by omega)), if_pos rfl, hn]
        refine ⟨σ', ?_⟩
        rw [show q_hn τ pa o 625 = q_hn τ pa o (c + 1) from q_sm_gap (by omega) (fun e h5 h6 => q_hp_fe (e3 e (by omega) h6))]
      · rw [e1, q_bd, hn, show q_hn τ pa o (c + 1) = q_hn τ pa o c' from (q_sm_gap (by omega) (fun e h5 h6 => q_hp_fe (e5 e (by omega) h6))).symm]
        exact ih c' (i + 1) f σ' (by omega) (by omega) e3 (by omega) e4 (fun a b ha hb => by rw [e7 51 (by decide)]; exact hw a b ha hb) e6
    have hz : q_hp τ pa o c = false → q_hn τ pa o c = q_hn τ pa o (c + 1) := fun h => by
      unfold q_hn; rw [q_sm, h]; rfl
    have hone : q_hp τ pa o c = true → q_hn τ pa o c + 1 = q_hn τ pa o (c + 1) := fun h => by
      unfold q_hn; rw [q_sm, h]; rfl
    have fit : q_mf pa c o = true → ∃ σ', j_X0_countHoldingWith_49 (fun x1 x2 x3 x4 x5 σ => l_X0_countHoldingWith_16 f x1 x2 x3 x4 x5 σ) (q_e1 o) (q_mx pa o) (nI (q_hn τ pa o c)) (nI i) 1 σ = some (nI (q_hn τ pa o 625), σ') := by
      intro hf
      unfold j_X0_countHoldingWith_49
      rw [if_neg q_10, v_firstQuarrel hI hw hm (fun x y hx h => q_cm8 hx y h), q_bd]
      simp only [q_e1_n q_qf31]
      cases hq : q_qf τ (q_cm c) with
      | none =>
        rw [if_pos rfl, show nI (q_hn τ pa o c) + 1 = nI (q_hn τ pa o c + 1) from nI_1 _]
        exact go _ (hone (by unfold q_hp; rw [hfe, hq, hf]; rfl))
      | some z =>
        rw [if_neg (by simp)]
        exact go _ (hz (by unfold q_hp; rw [hq]; simp))
    cases o with
    | none =>
      rw [if_pos (show q_e1 none = -1 from rfl)]
      unfold j_X0_countHoldingWith_44
      exact fit rfl
    | some a =>
      have a8 := ho a rfl
      rw [if_neg (show ¬ q_e1 (some a) = -1 by show ¬ nI a = -1; rw [q_m1 (by omega)]; exact id), show k_in (q_e1 (some a)) 8 = true from q_inT a8 (by omega), if_pos rfl, show k_n (q_e1 (some a)) = a from q_n (by omega), hm a a8]
      rw [show q_mx pa (some a) = q_e1 (pa a) from rfl]
      simp only [q_e1_inj (fun y h => Nat.lt_trans (q_cm8 a8 y h) (by omega)) (hpa a)]
      by_cases he : q_cm c a = pa a
      · rw [if_pos he]
        unfold j_X0_countHoldingWith_44
        exact fit (by simp [q_mf, he])
      · rw [if_neg he]
        unfold j_X0_countHoldingWith_49
        rw [if_pos rfl]
        exact go _ (hz (by unfold q_hp; simp [q_mf, he]))
theorem q_fe0 : q_fe τ 0 = true := by
  rw [q_fe_d]
  exact ⟨fun a _ h => absurd (q_dgz a) h, fun a _ a' _ _ _ => q_dgz a⟩
theorem q_cm0 {x : Nat} (hx : x < 8) : q_cm 0 x = none := by
  unfold q_cm
  by_cases h : x < 4
  · rw [if_pos h, if_pos (q_dgz x)]
  · rw [if_neg h]
    cases hq : q_fi (fun a => decide (q_dg 0 a + 3 = x)) 0 4 with
    | none => rfl
    | some y =>
      have := q_fi_in hq
      simp only [decide_eq_true_eq, q_dgz] at this
      omega
theorem v_countHolding (hI : q_I τ) {pa : k_Mt} (hpa : ∀ x c, pa x = some c → c < 2 ^ 31) (o : Option Nat) (ho : ∀ a, o = some a → a < 8) {σ : k_Mem} (hw : ∀ a c, a < 8 → c < 8 → σ 51 (a * 8 + c) = q_wi τ a c) : ∃ σ', f_X0_countHoldingWith (q_e1 o) (q_mx pa o) σ = some (nI (q_hn τ pa o 625), σ') := by
  unfold f_X0_countHoldingWith
  obtain ⟨σ1, e1, e2, e3⟩ := v_fill (o := 52) (n := 8) (-1) σ (by omega)
  rw [e1, q_bd]
  exact v_hold_l hI hpa o ho 625 0 0 1000 σ1 (by omega) (by omega) (by omega) (by omega) q_fe0 (fun a c ha hc => by rw [e3 51 (by decide)]; exact hw a c ha hc) (fun x hx => by rw [e2 x hx, q_cm0 hx]; rfl)
end LP
