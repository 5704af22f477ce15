/-! PURE: line by line to the end -/
section
variable {cb : Nat → Nat} {n p : Nat} {τ : k_TW} {T : Nat}
theorem q_orN (a b : Nat) : nI a ||| nI b = nI (a ||| b) := by
  apply Int32.toBitVec_inj.1
  show BitVec.ofNat 32 a ||| BitVec.ofNat 32 b = BitVec.ofNat 32 (a ||| b)
  apply BitVec.eq_of_getLsbD_eq
  intro i hi
  simp [hi]
theorem q_orlt {a b : Nat} (ha : a < 256) (hb : b < 256) : a ||| b < 256 := Nat.or_lt_two_pow (n := 8) ha hb
theorem q_sub0 {X H : Nat} (hX : X < 256) : ((nI X &&& (nI H ^^^ (-1))) = 0) ↔ ∀ c, c < 8 → X.testBit c = true → H.testBit c = true := by
  rw [q_andn hX, q_bb0]
  constructor
  · intro h c hc hx
    have := q_bb_tb (fun c => X.testBit c && !H.testBit c) c 8
    rw [h, Nat.zero_testBit] at this
    simp [hc, hx] at this
    exact this
  · intro h
    apply Nat.eq_of_testBit_eq
    intro c
    rw [q_bb_tb, Nat.zero_testBit]
    by_cases hc : c < 8
    · cases hx : X.testBit c
      · simp
      · simp [hc, h c hc hx]
    · simp [hc]
theorem v_wedBits38 {σ : k_Mem} (hP : q_PI τ T) (hD : q_DC τ T σ) : ∃ W, W < 256 ∧ f_X5_wedBits 38 σ = some (nI W, σ) ∧ ∀ c, c < 8 → (W.testBit c = true ↔ τ 5 c ≠ 0) := by
  refine ⟨q_bb (fun a => decide (τ 5 a ≠ 0)) 8, q_bb_l8 _ (by omega), ?_, fun c hc => by rw [q_bb_tb]; simp [hc]⟩
  have key : ∀ m a f, a + m = 8 → m < f → l_X5_wedBits_4 38 f (nI (q_bb (fun a => decide (τ 5 a ≠ 0)) a)) (nI a) σ = some (nI (q_bb (fun a => decide (τ 5 a ≠ 0)) 8), σ) := by
    intro m
    induction m with
    | zero =>
      intro a f h1 h2
      obtain ⟨f, rfl⟩ : ∃ g, f = g + 1 := ⟨f - 1, by omega⟩
      obtain rfl : a = 8 := by omega
      rw [l_X5_wedBits_4, if_pos (by decide)]
    | succ m ih =>
      intro a f h1 h2
      obtain ⟨f, rfl⟩ : ∃ g, f = g + 1 := ⟨f - 1, by omega⟩
      rw [l_X5_wedBits_4, show (8 : Int32) = nI 8 from rfl, if_neg (nI_ge (by omega) (by omega)), v_isWed38 hP hD (by omega), q_bd]
      unfold j_X5_wedBits_24
      rw [show nI a + 1 = nI (a + 1) from nI_1 _]
      have nx := ih (a + 1) f (by omega) (by omega)
      cases hd : decide (τ 5 a ≠ 0)
      · rw [if_pos (show q_b false = 0 from rfl)]
        rw [q_bb_0 (p := fun a => decide (τ 5 a ≠ 0)) hd] at nx
        exact nx
      · rw [if_neg (show ¬ q_b true = 0 by decide), q_bb_or1 (p := fun a => decide (τ 5 a ≠ 0)) (by omega) hd]
        exact nx
  exact key 8 0 1000 (by omega) (by omega)
theorem v_named {σ : k_Mem} (hP : q_PI τ T) (hD : q_DC τ T σ) : ∃ X, X < 256 ∧ f_X1_namedBits σ = some (nI X, σ) ∧ ∀ c, c < 8 → (X.testBit c = true ↔ q_NM τ T c) := by
  obtain ⟨W, w1, w2, w3⟩ := v_wedBits38 hP hD
  have hTl := hP.2.2.2.2.1
  have hu := hP.2.2.1
  have key : ∀ m a f X, a + m = 8 → m < f → X < 256 → (∀ c, c < 8 → (X.testBit c = true ↔ T.testBit c = true ∨ (τ 7 2).testBit c = true ∨ τ 5 c ≠ 0 ∨ (∃ x, x < a ∧ (τ 6 x).testBit c = true) ∨ ∃ x, x < a ∧ T.testBit x = true ∧ τ 4 x = c)) → ∃ Y, Y < 256 ∧ l_X1_namedBits_23 f (nI X) (nI a) σ = some (nI Y, σ) ∧ ∀ c, c < 8 → (Y.testBit c = true ↔ q_NM τ T c) := by
    intro m
    induction m with
    | zero =>
      intro a f X h1 h2 h3 h4
      obtain ⟨f, rfl⟩ : ∃ g, f = g + 1 := ⟨f - 1, by omega⟩
      obtain rfl : a = 8 := by omega
      rw [l_X1_namedBits_23, if_pos (by decide)]
      exact ⟨X, h3, rfl, h4⟩
    | succ m ih =>
      intro a f X h1 h2 h3 h4
      obtain ⟨f, rfl⟩ : ∃ g, f = g + 1 := ⟨f - 1, by omega⟩
      obtain ⟨d1, d2, d3⟩ := hD.2.2.2.2.2.1 a (by omega)
      have p4 := (hP.2.2.2.2.2.2.1 a (by omega)).1
      have p6 := (hP.2.2.2.2.2.2.2.2 a (by omega)).1
      rw [l_X1_namedBits_23, show (8 : Int32) = nI 8 from rfl, if_neg (nI_ge (by omega) (by omega)), q_inT (show a < 8 by omega) (by omega), if_pos rfl, if_pos rfl, q_n (by omega), hD.2.2.2.2.2.2, d1, d3, q_orN, q_orb _ (q_orlt h3 p6) _ p4]
      unfold j_X1_namedBits_67
      rw [show nI a + 1 = nI (a + 1) from nI_1 _]
      simp only [q_bit1 (show T < 2 ^ 31 by omega) (show a < 32 by omega)]
      cases ht : T.testBit a
      · rw [if_neg (by decide)]
        refine ih (a + 1) f (X ||| τ 6 a) (by omega) (by omega) (q_orlt h3 p6) (fun c hc => ?_)
        rw [Nat.testBit_or, Bool.or_eq_true, h4 c hc]
        constructor
        · rintro ((h | h | h | ⟨x, x1, x2⟩ | ⟨x, x1, x2⟩) | h)
          · exact Or.inl h
          · exact Or.inr (Or.inl h)
          · exact Or.inr (Or.inr (Or.inl h))
          · exact Or.inr (Or.inr (Or.inr (Or.inl ⟨x, by omega, x2⟩)))
          · exact Or.inr (Or.inr (Or.inr (Or.inr ⟨x, by omega, x2⟩)))
          · exact Or.inr (Or.inr (Or.inr (Or.inl ⟨a, by omega, h⟩)))
        · rintro (h | h | h | ⟨x, x1, x2⟩ | ⟨x, x1, x2, x3⟩)
          · exact Or.inl (Or.inl h)
          · exact Or.inl (Or.inr (Or.inl h))
          · exact Or.inl (Or.inr (Or.inr (Or.inl h)))
          · by_cases hx : x = a
            · subst hx; exact Or.inr x2
            · exact Or.inl (Or.inr (Or.inr (Or.inr (Or.inl ⟨x, by omega, x2⟩))))
          · by_cases hx : x = a
            · subst hx; rw [ht] at x2; cases x2
            · exact Or.inl (Or.inr (Or.inr (Or.inr (Or.inr ⟨x, by omega, x2, x3⟩))))
      · rw [if_pos rfl]
        refine ih (a + 1) f (X ||| τ 6 a ||| 2 ^ τ 4 a) (by omega) (by omega) (q_orl (q_orlt h3 p6) p4) (fun c hc => ?_)
        rw [q_ort, Nat.testBit_or, Bool.or_eq_true, h4 c hc]
        constructor
        · rintro (((h | h | h | ⟨x, x1, x2⟩ | ⟨x, x1, x2⟩) | h) | h)
          · exact Or.inl h
          · exact Or.inr (Or.inl h)
          · exact Or.inr (Or.inr (Or.inl h))
          · exact Or.inr (Or.inr (Or.inr (Or.inl ⟨x, by omega, x2⟩)))
          · exact Or.inr (Or.inr (Or.inr (Or.inr ⟨x, by omega, x2⟩)))
          · exact Or.inr (Or.inr (Or.inr (Or.inl ⟨a, by omega, h⟩)))
          · exact Or.inr (Or.inr (Or.inr (Or.inr ⟨a, by omega, ht, h.symm⟩)))
        · rintro (h | h | h | ⟨x, x1, x2⟩ | ⟨x, x1, x2, x3⟩)
          · exact Or.inl (Or.inl (Or.inl h))
          · exact Or.inl (Or.inl (Or.inr (Or.inl h)))
          · exact Or.inl (Or.inl (Or.inr (Or.inr (Or.inl h))))
          · by_cases hx : x = a
            · subst hx; exact Or.inl (Or.inr x2)
            · exact Or.inl (Or.inl (Or.inr (Or.inr (Or.inr (Or.inl ⟨x, by omega, x2⟩)))))
          · by_cases hx : x = a
            · subst hx; exact Or.inr x3.symm
            · exact Or.inl (Or.inl (Or.inr (Or.inr (Or.inr (Or.inr ⟨x, by omega, x2, x3⟩)))))
  unfold f_X1_namedBits
  rw [w2, q_bd, hD.2.2.2.2.2.2, hD.2.2.1, q_orN, q_orN]
  refine key 8 0 1000 _ (by omega) (by omega) (q_orlt (q_orlt hTl hu) w1) (fun c hc => ?_)
  rw [Nat.testBit_or, Nat.testBit_or, Bool.or_eq_true, Bool.or_eq_true, w3 c hc]
  constructor
  · rintro ((h | h) | h)
    · exact Or.inl h
    · exact Or.inr (Or.inl h)
    · exact Or.inr (Or.inr (Or.inl h))
  · rintro (h | h | h | ⟨x, x1, x2⟩ | ⟨x, x1, x2⟩)
    · exact Or.inl (Or.inl h)
    · exact Or.inl (Or.inr h)
    · exact Or.inr h
    · omega
    · omega
theorem v_hands38 {σ : k_Mem} (hP : q_PI τ T) (hD : q_DC τ T σ) : f_X5_handBits 38 σ = some (nI (q_hb τ), σ) := by
  unfold f_X5_handBits
  rw [hD.1, hD.2.1, q_hoh _ (by have := hP.1; omega) _ (by have := hP.2.1; omega)]
  rfl
theorem q_hbP (hP : q_PI τ T) {c : Nat} (hc : c < 8) : (q_hb τ).testBit c = q_H τ c := by
  have h : ∀ l, l < 5 → ∀ r, r < 5 → ∀ a, a < 8 → (2 ^ l - 1 + 16 * (2 ^ r - 1)).testBit a = (decide (a < 4 ∧ a < l) || decide (4 ≤ a ∧ a < 4 + r)) := by decide +kernel
  exact h _ (by have := hP.1; omega) _ (by have := hP.2.1; omega) c hc
/-- what is told of stands there -/
theorem q_PI_I (hP : q_PI τ T) (h : ∀ c, c < 8 → q_NM τ T c → q_H τ c = true) : q_I τ := by
  obtain ⟨h1, h2, h3, h4, h5, h6, h7, h8, h9⟩ := hP
  have hP : q_PI τ T := ⟨h1, h2, h3, h4, h5, h6, h7, h8, h9⟩
  refine ⟨h1, h2, h3, by omega, fun a ha => ?_, fun a ha => ?_, fun a ha => ?_, fun a ha => ?_⟩
  · have ha' : (τ 7 2).testBit a = true := ha
    exact h a (q_t8 h3 ha') (Or.inr (Or.inl ha'))
  · have a8 := q_PH8 hP ha
    obtain ⟨k1, k2, k3, k4⟩ := h6 a ha
    refine ⟨k1, k2, k3, k4, ?_⟩
    cases ht : T.testBit a
    · rw [(h7 a a8).2 ht]; exact ha
    · exact h _ (h7 a a8).1 (Or.inr (Or.inr (Or.inr (Or.inr ⟨a, a8, ht, rfl⟩))))
  · obtain ⟨k1, k2⟩ := h8 a ha
    refine ⟨k1, fun g => ?_⟩
    obtain ⟨k3, k4⟩ := k2 g
    refine ⟨h a ha (Or.inr (Or.inr (Or.inl g))), h _ (by omega) (Or.inr (Or.inr (Or.inl (by rw [k4]; omega)))), k3, k4⟩
  · obtain ⟨k1, k2⟩ := h9 a ha
    refine ⟨k1, fun b hb => ?_⟩
    obtain ⟨k3, k4⟩ := k2 b hb
    have b8 := q_t8 k1 hb
    exact ⟨h a ha (Or.inr (Or.inr (Or.inr (Or.inl ⟨b, b8, k4⟩)))), h b b8 (Or.inr (Or.inr (Or.inr (Or.inl ⟨a, ha, hb⟩)))), k3, k4⟩
def q_gC (σ σ1 : k_Mem) : Prop := (∀ k, k ≠ 1 → k ≠ 3 → (k < 38 ∨ 45 < k) → σ1 k = σ k) ∧ σ1 1 1 = σ 1 1
/-- the lines, both sides -/
theorem q_lines (hn : n ≤ 160) : ∀ (m p i : Nat) (τ : k_TW) (T : Nat), n - p ≤ m → p ≤ n → i ≤ p → q_PI τ T → ∃ code place l τ' T', code < 7 ∧ (code = 0 → q_I τ' ∧ q_PI τ' T') ∧
    (∀ σ f, m + 1 < f → q_TP cb n σ → q_TA cb n p σ → q_DC τ T σ → σ 3 2 = 0 → σ 3 4 = nI i → ∃ σ1, l_X1_parse_43 f (nI i) σ = some ((), σ1) ∧ q_gC σ σ1 ∧ (code = 0 → σ1 3 2 = 0 ∧ σ1 3 4 = nI l ∧ q_DC τ' T' σ1) ∧ (code ≠ 0 → σ1 3 2 = nI code ∧ σ1 3 3 = nI place)) ∧
    (∀ σ f, m + 1 < f → q_MP cb n σ → q_LA cb n p σ → q_DM τ T σ → σ 71 = k_σ0 71 → σ 72 = k_σ0 72 → ∃ σ1 x, l_X7_text_62 f (nI i) σ = j_X7_text_120 x σ1 ∧ q_fM σ σ1 ∧ (code = 0 → x = nI l ∧ σ1 67 12 = 0 ∧ q_DM τ' T' σ1) ∧ (code ≠ 0 → σ1 67 12 = nI code ∧ σ1 67 13 = nI place)) := by
  have ne0 : ∀ c : Nat, c ≠ 0 → c < 100 → ¬ nI c = 0 := fun c h1 h2 => by rw [show (0 : Int32) = nI 0 from rfl, q_eq (by omega) (by omega)]; exact h1
  have j90b : ∀ (σ : k_Mem) (c : Nat), c ≠ 0 → c < 100 → σ 3 2 = nI c → j_X1_parse_90 σ = some ((), σ) := fun σ c h1 h2 h => by
    unfold j_X1_parse_90
    rw [h, if_neg (ne0 c h1 h2)]
  have j86b : ∀ (σ : k_Mem) (c : Nat) (x : Int32), c ≠ 0 → c < 100 → σ 67 12 = nI c → j_X7_text_86 x σ = j_X7_text_120 x σ := fun σ c x h1 h2 h => by
    unfold j_X7_text_86
    rw [h, if_neg (ne0 c h1 h2)]
  -- the text is at its end
  have stop0 : ∀ (m p i : Nat) (τ : k_TW) (T : Nat), p ≤ n → i ≤ p → q_PI τ T → q_lT cb n p = 0 → ∃ code place l τ' T', code < 7 ∧ (code = 0 → q_I τ' ∧ q_PI τ' T') ∧
    (∀ σ f, m + 1 < f → q_TP cb n σ → q_TA cb n p σ → q_DC τ T σ → σ 3 2 = 0 → σ 3 4 = nI i → ∃ σ1, l_X1_parse_43 f (nI i) σ = some ((), σ1) ∧ q_gC σ σ1 ∧ (code = 0 → σ1 3 2 = 0 ∧ σ1 3 4 = nI l ∧ q_DC τ' T' σ1) ∧ (code ≠ 0 → σ1 3 2 = nI code ∧ σ1 3 3 = nI place)) ∧
    (∀ σ f, m + 1 < f → q_MP cb n σ → q_LA cb n p σ → q_DM τ T σ → σ 71 = k_σ0 71 → σ 72 = k_σ0 72 → ∃ σ1 x, l_X7_text_62 f (nI i) σ = j_X7_text_120 x σ1 ∧ q_fM σ σ1 ∧ (code = 0 → x = nI l ∧ σ1 67 12 = 0 ∧ q_DM τ' T' σ1) ∧ (code ≠ 0 → σ1 67 12 = nI code ∧ σ1 67 13 = nI place)) := by
    intro m p i τ T hp hi hP h0
    obtain ⟨b1, b2, b3, b4, b5⟩ := q_lEn (cb := cb) hp
    have hS : q_lS cb n p = n := by
      have : n ≤ q_lS cb n p := by
        unfold q_lT at h0
        split at h0
        · assumption
        · split at h0
          · omega
          · split at h0
            · omega
            · split at h0 <;> omega
      omega
    have c43 : ∀ σ f, m + 1 < f → q_TA cb n p σ → l_X1_parse_43 f (nI i) σ = j_X1_parse_90 σ := by
      intro σ f hf hA
      obtain ⟨f, rfl⟩ : ∃ g, f = g + 1 := ⟨f - 1, by omega⟩
      rw [l_X1_parse_43, hA.1, h0]
      split
      · rfl
      · rw [if_pos (show nI 0 = 0 from rfl)]
    have r62 : ∀ σ f, m + 1 < f → q_LA cb n p σ → σ 67 12 = 0 ∧ σ 67 15 = nI n ∧ l_X7_text_62 f (nI i) σ = j_X7_text_86 (nI i) σ := by
      intro σ f hf hA
      obtain ⟨f, rfl⟩ : ∃ g, f = g + 1 := ⟨f - 1, by omega⟩
      obtain ⟨a1, a2⟩ := hA
      rw [if_neg (by omega)] at a2
      refine ⟨a2.1, by rw [a1, hS], ?_⟩
      rw [l_X7_text_62, if_pos a2.1, a2.2.1, h0, if_pos (show nI 0 = 0 from rfl)]
    by_cases hall : ∀ c, c < 8 → q_NM τ T c → q_H τ c = true
    · refine ⟨0, 0, i, τ, T, by omega, fun _ => ⟨q_PI_I hP hall, hP⟩, fun σ f hf hT hA hD h32 h34 => ?_, fun σ f hf hM hA hD h71 h72 => ?_⟩
      · obtain ⟨X, x1, x2, x3⟩ := v_named hP hD
        refine ⟨σ, ?_, ⟨fun _ _ _ _ => rfl, rfl⟩, fun _ => ⟨h32, h34, hD⟩, fun h => absurd rfl h⟩
        rw [c43 σ f hf hA]
        unfold j_X1_parse_90
        rw [if_pos h32, x2, q_bd, v_hands38 hP hD, q_bd, if_pos ((q_sub0 x1).mpr (fun c hc hx => by rw [q_hbP hP hc]; exact hall c hc ((x3 c hc).mp hx)))]
      · obtain ⟨N, n1, n2, n3⟩ := hD.2.2.2.2.1
        obtain ⟨e1, e2, e3⟩ := r62 σ f hf hA
        refine ⟨σ, nI i, ?_, q_fM_rf, fun _ => ⟨rfl, e1, hD⟩, fun h => absurd rfl h⟩
        rw [e3]
        unfold j_X7_text_86 f_X7_handsOf
        rw [if_pos e1, hD.1, hD.2.1, q_hoh _ (by have := hP.1; omega) _ (by have := hP.2.1; omega), q_bd, n2, if_pos ((q_sub0 n1).mpr (fun c hc hx => by
          have := q_hbP hP hc
          unfold q_hb at this
          rw [this]; exact hall c hc ((n3 c hc).mp hx)))]
    · have hall' : ∃ c, c < 8 ∧ q_NM τ T c ∧ ¬ q_H τ c = true := by
        by_cases g : ∃ c, c < 8 ∧ q_NM τ T c ∧ ¬ q_H τ c = true
        · exact g
        · refine absurd (fun c hc hq => ?_) hall
          by_cases g2 : q_H τ c = true
          · exact g2
          · exact absurd ⟨c, hc, hq, g2⟩ g
      obtain ⟨c0, hc0, hq0, hH0⟩ := hall'
      refine ⟨6, n, i, τ, T, by omega, fun h => by omega, fun σ f hf hT hA hD h32 h34 => ?_, fun σ f hf hM hA hD h71 h72 => ?_⟩
      · obtain ⟨X, x1, x2, x3⟩ := v_named hP hD
        rw [c43 σ f hf hA]
        unfold j_X1_parse_90
        rw [if_pos h32, x2, q_bd, v_hands38 hP hD, q_bd, if_neg (fun g => hH0 (by rw [← q_hbP hP hc0]; exact (q_sub0 x1).mp g c0 hc0 ((x3 c0 hc0).mpr hq0)))]
        refine ⟨_, rfl, ⟨fun k k1 k3 _ => by rw [q_ms_ne _ _ k3, q_ms_ne _ _ k3], by rw [q_ms_ne _ _ (by decide), q_ms_ne _ _ (by decide)]⟩, fun h => by omega, fun _ => ⟨by rw [q_ms, if_neg (by omega), q_ms, if_pos ⟨rfl, rfl⟩]; rfl, ?_⟩⟩
        rw [q_ms, if_pos ⟨rfl, rfl⟩, q_ms_ne _ _ (by decide)]; exact hT.1
      · obtain ⟨N, n1, n2, n3⟩ := hD.2.2.2.2.1
        obtain ⟨e1, e2, e3⟩ := r62 σ f hf hA
        rw [e3]
        unfold j_X7_text_86 f_X7_handsOf
        rw [if_pos e1, hD.1, hD.2.1, q_hoh _ (by have := hP.1; omega) _ (by have := hP.2.1; omega), q_bd, n2, if_neg (fun g => hH0 (by
          have h1 := q_hbP hP hc0
          unfold q_hb at h1
          rw [← h1]; exact (q_sub0 n1).mp g c0 hc0 ((n3 c0 hc0).mpr hq0))), w_fails e1, q_bd]
        refine ⟨_, nI i, rfl, q_fM_tr (q_fM_set (Or.inr ⟨rfl, by omega⟩)) (q_fM_set (Or.inr ⟨rfl, by omega⟩)), fun h => by omega, fun _ => ⟨by rw [q_ms, if_neg (by omega), q_ms, if_pos ⟨rfl, rfl⟩]; rfl, by rw [q_ms, if_pos ⟨rfl, rfl⟩, e2]⟩⟩
  intro m
  induction m with
  | zero =>
    intro p i τ T hm hp hi hP
    obtain ⟨b1, b2, b3, b4, b5⟩ := q_lEn (cb := cb) hp
    exact stop0 0 p i τ T hp hi hP (by unfold q_lT; rw [if_pos (by omega)])
  | succ m ih =>
    intro p i τ T hm hp hi hP
    obtain ⟨b1, b2, b3, b4, b5⟩ := q_lEn (cb := cb) hp
    by_cases h0 : q_lT cb n p = 0
    · exact stop0 (m + 1) p i τ T hp hi hP h0
    · have hSn : q_lS cb n p < n := by
        by_cases g : q_lS cb n p < n
        · exact g
        · exact absurd (by unfold q_lT; rw [if_pos (by omega)]) h0
      have hlT := q_lT4 (cb := cb) (n := n) (p := p)
      have c43 : ∀ (σ : k_Mem) f, q_TA cb n p σ → l_X1_parse_43 (f + 1) (nI i) σ = k_bd (f_X1_line σ) (fun r10 σ10 => if r10 = 0 then j_X1_parse_90 σ10 else k_bd (f_X4_advance (k_mset σ10 3 4 ((σ10 3 4) + 1))) (fun _ σ12 => l_X1_parse_43 f (nI (i + 1)) σ12)) := by
        intro σ f hA
        rw [l_X1_parse_43, show (160 : Int32) = nI 160 from rfl, if_neg (nI_ge (by omega) (by omega)), hA.1, if_neg (ne0 _ h0 (by omega)), show nI i + 1 = nI (i + 1) from nI_1 _]
      by_cases h4 : q_lT cb n p = 4
      · refine ⟨1, q_lS cb n p, 0, τ, T, by omega, fun h => by omega, fun σ f hf hT hA hD h32 h34 => ?_, fun σ f hf hM hA hD h71 h72 => ?_⟩
        · obtain ⟨f, rfl⟩ : ∃ g, f = g + 1 := ⟨f - 1, by omega⟩
          rw [c43 σ f hA]
          unfold f_X1_line
          rw [show f_X1_stands 1 σ = _ from v_stands hA (t := 1) (by omega), if_neg (show ¬ q_lT cb n p = 1 by omega), q_bd, if_pos rfl, q_bd, if_pos rfl, if_pos h4]
          have e32 : (k_mset (k_mset σ 3 2 (nI 1)) 3 3 (nI (q_lS cb n p))) 3 2 = nI 1 := by rw [q_ms, if_neg (by omega), q_ms, if_pos ⟨rfl, rfl⟩]
          rw [j90b _ 1 (by omega) (by omega) e32]
          exact ⟨_, rfl, ⟨fun k k1 k3 _ => by rw [q_ms_ne _ _ k3, q_ms_ne _ _ k3], by rw [q_ms_ne _ _ (by decide), q_ms_ne _ _ (by decide)]⟩, fun h => by omega, fun _ => ⟨e32, by rw [q_ms, if_pos ⟨rfl, rfl⟩]⟩⟩
        · obtain ⟨f, rfl⟩ : ∃ g, f = g + 1 := ⟨f - 1, by omega⟩
          obtain ⟨a1, a2⟩ := hA
          rw [if_pos h4] at a2
          have e12 : σ 67 12 = nI 1 := a2.1
          refine ⟨σ, nI i, ?_, q_fM_rf, fun h => by omega, fun _ => ⟨e12, a2.2⟩⟩
          rw [l_X7_text_62, e12, if_neg (by decide), j86b σ 1 (nI i) (by omega) (by omega) e12]
      · obtain ⟨code, place, q, τ1, T1, q1, q2, q3, q4⟩ := q_line (cb := cb) hn hp hP h0 h4
        by_cases hc : code = 0
        · obtain ⟨g1, g2, g3⟩ := q2 hc
          obtain ⟨code2, place2, l, τ2, T2, k1, k2, k3, k4⟩ := ih q (i + 1) τ1 T1 (by omega) g2 (by omega) g3
          refine ⟨code2, place2, l, τ2, T2, k1, k2, fun σ f hf hT hA hD h32 h34 => ?_, fun σ f hf hM hA hD h71 h72 => ?_⟩
          · obtain ⟨f, rfl⟩ : ∃ g, f = g + 1 := ⟨f - 1, by omega⟩
            obtain ⟨r, σ10, e1, e2, e3⟩ := q3 σ hT hA hD h32
            unfold q_rC at e3
            rw [if_pos hc] at e3
            obtain ⟨rfl, e4, e5, e6⟩ := e3
            have e34 : σ10 3 4 = nI i := by rw [e2.2.2]; exact h34
            rw [c43 σ f hA, e1, q_bd, if_neg q_10, e34, show nI i + 1 = nI (i + 1) from nI_1 _]
            generalize hσ11 : k_mset σ10 3 4 (nI (i + 1)) = σ11
            have s11 : ∀ k, k ≠ 3 → σ11 k = σ10 k := fun k hk => by rw [← hσ11, q_ms_ne _ _ hk]
            have s3 : ∀ j, j ≠ 4 → σ11 3 j = σ10 3 j := fun j hj => by rw [← hσ11, q_ms, if_neg (fun g => hj g.2)]
            have hT10 : q_TP cb n σ10 := q_TP_f hT e2.2.1 (e2.1 2 (by omega) (by omega) (by omega))
            have hT11 : q_TP cb n σ11 := q_TP_f hT10 (by rw [s11 1 (by omega)]) (s11 2 (by omega))
            obtain ⟨σ12, f1, f2, f3, f4⟩ := v_advance hn hT11 g2 (by rw [s11 1 (by omega)]; exact e5)
            rw [f1, q_bd]
            obtain ⟨σ13, t1, t2, t3, t4⟩ := k3 σ12 f (by omega) (q_TP_f hT11 f3 (f2 2 (by omega))) f4 (q_DC_sm e4 (fun k k1 k2 => by rw [f2 k (by omega), s11 k (by omega)]) (by rw [f2 3 (by omega), s3 5 (by omega)])) (by rw [f2 3 (by omega), s3 2 (by omega)]; exact e6) (by rw [f2 3 (by omega), ← hσ11, q_ms, if_pos ⟨rfl, rfl⟩])
            refine ⟨σ13, t1, ⟨fun k k1 k3 kk => by rw [t2.1 k k1 k3 kk, f2 k k1, s11 k k3, e2.1 k k1 k3 kk], by rw [t2.2, f3, s11 1 (by omega), e2.2.1]⟩, t3, t4⟩
          · obtain ⟨f, rfl⟩ : ∃ g, f = g + 1 := ⟨f - 1, by omega⟩
            have hA' := hA
            obtain ⟨a1, a2⟩ := hA'
            rw [if_neg h4] at a2
            obtain ⟨σ12, e1, e2, e3⟩ := q4 σ hM hA hD h71 h72
            unfold q_rM at e3
            rw [if_pos hc] at e3
            rw [l_X7_text_62, if_pos a2.1, a2.2.1, if_neg (ne0 _ h0 (by omega)), e1, q_bd, show nI i + 1 = nI (i + 1) from nI_1 _]
            obtain ⟨σ13, x, t1, t2, t3, t4⟩ := k4 σ12 f (by omega) (q_MP_f hM e2) e3.1 e3.2 (by rw [e2.1 71 (by omega) (by omega)]; exact h71) (by rw [e2.1 72 (by omega) (by omega)]; exact h72)
            exact ⟨σ13, x, t1, q_fM_tr e2 t2, t3, t4⟩
        · refine ⟨code, place, 0, τ, T, by omega, fun h => absurd h hc, fun σ f hf hT hA hD h32 h34 => ?_, fun σ f hf hM hA hD h71 h72 => ?_⟩
          · obtain ⟨f, rfl⟩ : ∃ g, f = g + 1 := ⟨f - 1, by omega⟩
            obtain ⟨r, σ10, e1, e2, e3⟩ := q3 σ hT hA hD h32
            unfold q_rC at e3
            rw [if_neg hc] at e3
            obtain ⟨rfl, e4, e5⟩ := e3
            rw [c43 σ f hA, e1, q_bd, if_pos rfl, j90b _ code hc (by omega) e4]
            exact ⟨σ10, rfl, ⟨e2.1, e2.2.1⟩, fun h => absurd h hc, fun _ => ⟨e4, e5⟩⟩
          · obtain ⟨f, rfl⟩ : ∃ g, f = g + 2 := ⟨f - 2, by omega⟩
            have hA' := hA
            obtain ⟨a1, a2⟩ := hA'
            rw [if_neg h4] at a2
            obtain ⟨σ12, e1, e2, e3⟩ := q4 σ hM hA hD h71 h72
            unfold q_rM at e3
            rw [if_neg hc] at e3
            rw [l_X7_text_62, if_pos a2.1, a2.2.1, if_neg (ne0 _ h0 (by omega)), e1, q_bd, l_X7_text_62, e3.1, if_neg (ne0 _ hc (by omega)), j86b σ12 code _ hc (by omega) e3.1]
            exact ⟨σ12, _, rfl, e2, fun h => absurd h hc, fun _ => e3⟩
end
