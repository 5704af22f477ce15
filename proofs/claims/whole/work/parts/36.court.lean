/-! PURE: the pairs by ASKING, and what is counted of them -/
theorem q_andn {u v : Nat} (hu : u < 256) : (nI u &&& (nI v ^^^ (-1))) = nI (q_bb (fun c => u.testBit c && !v.testBit c) 8) := by
  have h8 := q_bb_l8 (fun c => u.testBit c && !v.testBit c) (n := 8) (by omega)
  apply Int32.toBitVec_inj.mp
  rw [Int32.toBitVec_and, Int32.toBitVec_xor]
  apply BitVec.eq_of_getLsbD_eq
  intro i hi
  have e : ∀ n : Nat, (nI n).toBitVec = BitVec.ofNat 32 n := fun n => rfl
  have e1 : (-1 : Int32).toBitVec = BitVec.allOnes 32 := by decide
  rw [e, e, e, e1, BitVec.getLsbD_and, BitVec.getLsbD_xor, BitVec.getLsbD_ofNat, BitVec.getLsbD_ofNat, BitVec.getLsbD_ofNat, BitVec.getLsbD_allOnes, q_bb_tb]
  simp only [hi, decide_true, Bool.true_and]
  by_cases h : i < 8
  · simp [h]
  · rw [Nat.testBit_lt_two_pow (Nat.lt_of_lt_of_le hu (show 256 ≤ 2 ^ i from Nat.pow_le_pow_right (n := 2) (i := 8) (by decide) (by omega)))]
    simp [h]
theorem q_and240 : ∀ u, u < 256 → nI u &&& 240 = nI (u / 16 * 16) := by decide +kernel
theorem q_t16 : ∀ u, u < 256 → ∀ c, c < 8 → (u % 16).testBit c = (decide (c < 4) && u.testBit c) := by decide +kernel
theorem q_t240 : ∀ u, u < 256 → ∀ c, c < 8 → (u / 16 * 16).testBit c = (decide (4 ≤ c) && u.testBit c) := by decide +kernel
theorem q_cg0 (τ : k_TW) : q_cg τ 0 = q_can τ := by
  funext a c
  simp [q_cg]
theorem q_Mt_ak {cn : Nat → Nat → Bool} {lk : Nat → Nat → Nat} {s : Nat} (hs : s < 2) (hsy : ∀ a b, cn a b = true → cn b a = true) (hne : ∀ a b, cn a b = true → a ≠ b) : ∀ (n : Nat) (mt : k_Mt) (tr : k_Tr), q_Mt cn mt → q_Mt cn (q_ak cn lk s n mt tr)
  | 0, _, _, h => h
  | n + 1, mt, tr, h => by
    rw [q_ak]
    cases hf : q_fa cn lk mt tr (4 * s) 4 with
    | none => exact h
    | some p =>
      obtain ⟨a, b⟩ := p
      obtain ⟨g1, g2, g3, g4⟩ := q_fa_in hf
      obtain ⟨b8, hcn, -⟩ := q_bs_in g4
      exact q_Mt_ak hs hsy hne n _ _ (q_Mt_an h (by omega) b8 (hne a b hcn) hcn (hsy a b hcn) g3)
theorem q_Mt_pa {cn : Nat → Nat → Bool} {lk : Nat → Nat → Nat} {s : Nat} (hs : s < 2) (hsy : ∀ a b, cn a b = true → cn b a = true) (hne : ∀ a b, cn a b = true → a ≠ b) : q_Mt cn (q_pa cn lk s) := q_Mt_ak hs hsy hne 65 _ _ (fun x y h => by cases h)
theorem q_Mt_g {τ : k_TW} (hI : q_I τ) {s g : Nat} (hs : s < 2) : q_Mt (q_cg τ g) (q_pa (q_cg τ g) (q_lk τ) s) := q_Mt_pa hs (fun a b h => q_cg_sy hI h) (fun a b h e => (q_can_H (q_cg_can h)).2.2 (by rw [e]))
theorem q_Mt_c {τ : k_TW} {mt : k_Mt} {g : Nat} (h : q_Mt (q_cg τ g) mt) : q_Mt (q_can τ) mt := fun x y e => by
  obtain ⟨h1, h2, h3, h4⟩ := h x y e
  exact ⟨h1, h2, q_cg_can h3, h4⟩
/-- the askers and the others when g are gone -/
theorem q_AC_g {τ : k_TW} (hI : q_I τ) {s g : Nat} (hs : s < 2) : q_AC τ s (q_cg τ g) (fun a => q_H τ a && !g.testBit a && decide (a / 4 = s)) (fun c => q_H τ c && !g.testBit c && decide (c / 4 ≠ s)) := by
  refine ⟨hs, fun a c ha hc hk => ?_, fun a ha hk => ?_, fun a c ha hs2 hk => ?_⟩
  · simp only [Bool.and_eq_true, Bool.not_eq_true', decide_eq_true_eq] at hk
    cases hcan : q_can τ a c
    · simp [q_cg, hcan]
    · obtain ⟨h1, h2, h3⟩ := q_can_H hcan
      have h4 : c / 4 ≠ s := by omega
      simp [q_cg, hcan, hk.1.2, h2, h4]
  · simp only [Bool.and_eq_true, decide_eq_true_eq] at hk
    exact hk.2
  · rw [← Bool.not_eq_true]
    intro h
    have h1 := q_can_H (q_cg_can h)
    simp only [q_cg, Bool.and_eq_true, Bool.not_eq_true'] at h
    dsimp only at hk
    rw [h1.1, h.1.2] at hk
    simp [hs2] at hk
section CO
variable {τ : k_TW} {σ : k_Mem} {mt : k_Mt}
theorem v_court {b s : Nat} (hb : b ≤ 38) (hI : q_I τ) (hC : q_C b τ σ) (hs : s < 2) : ∃ σ1, f_X0_court b (nI s) σ = some ((), σ1) ∧ q_C b τ σ1 ∧ q_W τ σ1 ∧ (∀ x, x < 8 → σ1 52 x = q_e1 (q_pa (q_can τ) (q_lk τ) s x)) ∧ k_Sm [46, 47, 48, 49, 50, 51, 52, 53] σ σ1 := by
  have hfr := fr_f_X0_court b (nI s) σ
  unfold f_X0_court at hfr ⊢
  obtain ⟨σ1, e1, e2, e3, e4⟩ := v_weigh hb hI hC
  have h256 := q_hb256 hI
  have hA := q_AC_g (g := 0) hI hs
  rw [q_cg0] at hA
  have bL : ∀ c, c < 8 → (q_hb τ % 16).testBit c = (decide (c < 4) && q_H τ c) := fun c hc => by rw [q_t16 _ h256 c hc, q_hbt hI hc]
  have bR : ∀ c, c < 8 → (q_hb τ / 16 * 16).testBit c = (decide (4 ≤ c) && q_H τ c) := fun c hc => by rw [q_t240 _ h256 c hc, q_hbt hI hc]
  rw [e1, q_bd, e3.1, q_and15 _ h256, q_and240 _ h256] at hfr ⊢
  have fin : ∀ σ2, k_Sm [52, 53] σ1 σ2 → q_C b τ σ2 ∧ q_W τ σ2 := fun σ2 h => by
    have e : ∀ k, k ∉ [52, 53] → σ2 k = σ1 k := h
    refine ⟨q_C_sm e2 (fun k _ k2 => e k (by simp; omega)), ?_⟩
    unfold q_W; rw [e 46 (by decide), e 50 (by decide), e 51 (by decide)]; exact e3
  have hs' : s = 0 ∨ s = 1 := by omega
  rcases hs' with rfl | rfl
  · rw [if_pos (by decide)] at hfr ⊢
    obtain ⟨σ2, f1, f2, f3, f4⟩ := v_ask (σ := σ1) hI hA e3.2.2 (A := q_hb τ % 16) (B := q_hb τ / 16 * 16) (by omega) (fun c hc => by
      rw [bL c hc]
      by_cases h : c < 4
      · have : c / 4 = 0 := by omega
        simp [h, this]
      · have : ¬ c / 4 = 0 := by omega
        simp [h, this]) (by omega) (fun c hc => by
      rw [bR c hc]
      by_cases h : c < 4
      · have h1 : c / 4 = 0 := by omega
        have h2 : ¬ 4 ≤ c := by omega
        simp [h1, h2]
      · have h1 : ¬ c / 4 = 0 := by omega
        have h2 : 4 ≤ c := by omega
        simp [h1, h2])
    rw [f1, q_bd] at hfr ⊢
    exact ⟨σ2, rfl, (fin σ2 f4).1, (fin σ2 f4).2, f2, hfr () σ2 rfl⟩
  · rw [if_neg (by decide)] at hfr ⊢
    obtain ⟨σ2, f1, f2, f3, f4⟩ := v_ask (σ := σ1) hI hA e3.2.2 (A := q_hb τ / 16 * 16) (B := q_hb τ % 16) (by omega) (fun c hc => by
      rw [bR c hc]
      by_cases h : c < 4
      · have h1 : ¬ c / 4 = 1 := by omega
        have h2 : ¬ 4 ≤ c := by omega
        simp [h1, h2]
      · have h1 : c / 4 = 1 := by omega
        have h2 : 4 ≤ c := by omega
        simp [h1, h2]) (by omega) (fun c hc => by
      rw [bL c hc]
      by_cases h : c < 4
      · have : ¬ c / 4 = 1 := by omega
        simp [h, this]
      · have : c / 4 = 1 := by omega
        simp [h, this])
    rw [f1, q_bd] at hfr ⊢
    exact ⟨σ2, rfl, (fin σ2 f4).1, (fin σ2 f4).2, f2, hfr () σ2 rfl⟩
theorem w_askingNow {s : Nat} (hI : q_I τ) (hN : q_N τ σ) (hM : q_M 0 τ σ) (hs : s < 2) : ∃ σ1, f_X7_askingNow (nI s) σ = some ((), σ1) ∧ q_TB τ 0 σ1 ∧ (∀ x, x < 8 → σ1 74 x = q_e4 (q_pa (q_can τ) (q_lk τ) s x)) ∧ k_Sm [73, 74, 75] σ σ1 := by
  have hfr := fr_f_X7_askingNow (nI s) σ
  unfold f_X7_askingNow at hfr ⊢
  obtain ⟨σ1, e1, e2, e3⟩ := w_laysTable (g := 0) hI hN hM (by omega)
  obtain ⟨σ2, f1, f2, f3⟩ := w_asking hI hs e2
  rw [show (0 : Int32) = nI 0 from rfl, e1, q_bd, f1, q_bd] at hfr ⊢
  rw [q_cg0] at f2
  exact ⟨σ2, rfl, fun a c ha hc => by rw [f3 73 (by decide)]; exact e2 a c ha hc, f2, hfr () σ2 rfl⟩
def q_pm (mt : k_Mt) : Nat := q_sm (fun a => if (mt a).isSome then 1 else 0) 4
def q_ll (τ : k_TW) (mt : k_Mt) (a : Nat) : Nat := match mt a with
  | none => 0
  | some c => q_lk τ a c
def q_al (τ : k_TW) (mt : k_Mt) : Nat := q_sm (q_ll τ mt) 8
theorem q_Mt31 {cn : Nat → Nat → Bool} (h : q_Mt cn mt) {x : Nat} : ∀ c, mt x = some c → c < 2 ^ 31 := fun c e => by
  have := (h x c e).2.1; omega
theorem v_matedBits (hm : ∀ x, x < 8 → σ 52 x = q_e1 (mt x)) (hb : ∀ x c, mt x = some c → c < 2 ^ 31) : f_X0_matedBits σ = some (nI (q_bb (fun a => (mt a).isSome) 8), σ) := by
  have key : ∀ (m k f : Nat), k + m = 8 → m < f → l_X0_matedBits_4 f (nI (q_bb (fun a => (mt a).isSome) k)) (nI k) σ = some (nI (q_bb (fun a => (mt a).isSome) 8), σ) := by
    intro m
    induction m with
    | zero =>
      intro k f h1 h2
      obtain ⟨f, rfl⟩ : ∃ g, f = g + 1 := ⟨f - 1, by omega⟩
      rw [l_X0_matedBits_4, show (8 : Int32) = nI 8 from rfl, if_pos (nI_le (by omega) (by omega)), show k = 8 by omega]
    | succ m ih =>
      intro k f h1 h2
      obtain ⟨f, rfl⟩ : ∃ g, f = g + 1 := ⟨f - 1, by omega⟩
      have hih := ih (k + 1) f (by omega) (by omega)
      rw [l_X0_matedBits_4, show (8 : Int32) = nI 8 from rfl, if_neg (nI_ge (by omega) (by omega))]
      simp (disch := omega) only [q_inT, eq_self, if_true, q_n, hm k (by omega), q_e1_n (hb k)]
      simp only [j_X0_matedBits_26, show nI k + 1 = nI (k + 1) from nI_1 k]
      cases h : mt k with
      | none => rw [if_pos rfl, ← hih, q_bb_0 (p := fun a => (mt a).isSome) (by simp [h])]
      | some c => rw [if_neg (by simp), ← hih, q_bb_or1 (p := fun a => (mt a).isSome) (by omega) (by simp [h])]
  exact key 8 0 1000 (by omega) (by omega)
theorem v_pairs (hm : ∀ x, x < 8 → σ 52 x = q_e1 (mt x)) (hb : ∀ x c, mt x = some c → c < 2 ^ 31) : f_X0_pairs σ = some (nI (q_pm mt), σ) := by
  unfold f_X0_pairs
  have h8 := q_bb_l8 (fun a => (mt a).isSome) (n := 8) (by omega)
  rw [v_matedBits hm hb, q_bd, q_and15 _ h8, v_bitCount (by omega), q_bd, q_pc15 _ h8, q_pc_p (n := 4) (p := fun a => (mt a).isSome) (fun c hc => by rw [q_bb_tb]; simp; omega)]
  rfl
theorem v_allLikes (hI : q_I τ) (hW : q_W τ σ) (hm : ∀ x, x < 8 → σ 52 x = q_e1 (mt x)) (hM : q_Mt (q_can τ) mt) : f_X0_allLikes σ = some (nI (q_al τ mt), σ) := by
  have key : ∀ (m k f : Nat), k + m = 8 → m < f → l_X0_allLikes_4 f (nI (q_sm (q_ll τ mt) k)) (nI k) σ = some (nI (q_sm (q_ll τ mt) 8), σ) := by
    intro m
    induction m with
    | zero =>
      intro k f h1 h2
      obtain ⟨f, rfl⟩ : ∃ g, f = g + 1 := ⟨f - 1, by omega⟩
      rw [l_X0_allLikes_4, show (8 : Int32) = nI 8 from rfl, if_pos (nI_le (by omega) (by omega)), show k = 8 by omega]
    | succ m ih =>
      intro k f h1 h2
      obtain ⟨f, rfl⟩ : ∃ g, f = g + 1 := ⟨f - 1, by omega⟩
      have hih := ih (k + 1) f (by omega) (by omega)
      rw [l_X0_allLikes_4, show (8 : Int32) = nI 8 from rfl, if_neg (nI_ge (by omega) (by omega))]
      simp (disch := omega) only [q_inT, eq_self, if_true, q_n, hm k (by omega), q_e1_n (q_Mt31 hM)]
      simp only [j_X0_allLikes_34, show nI k + 1 = nI (k + 1) from nI_1 k]
      cases h : mt k with
      | none => rw [if_pos rfl, ← hih, q_sm, show q_ll τ mt k = 0 by simp [q_ll, h]]; rfl
      | some c =>
        obtain ⟨g1, g2, g3, g4⟩ := hM k c h
        obtain ⟨c1, c2, c3⟩ := q_can_H g3
        unfold f_X0_liking
        rw [if_neg (by simp), show q_e1 (some c) = nI c from rfl, show (8 : Int32) = nI 8 from rfl, q_mul, q_add]
        simp (disch := omega) only [q_inT, eq_self, if_true, q_n, q_bd, hW.2.1 k c c1 c2 c3]
        rw [q_add, ← hih, q_sm, show q_ll τ mt k = q_lk τ k c by simp [q_ll, h]]
  exact key 8 0 1000 (by omega) (by omega)
theorem w_pairMany (hm : ∀ x, x < 8 → σ 74 x = q_e4 (mt x)) (hb : ∀ x c, mt x = some c → c < 2 ^ 31) : f_X7_pairMany σ = some (nI (q_pm mt), σ) := by
  have key : ∀ (m k f : Nat), k + m = 4 → m < f → l_X7_pairMany_4 f (nI (q_sm (fun a => if (mt a).isSome then 1 else 0) k)) (nI k) σ = some (nI (q_pm mt), σ) := by
    intro m
    induction m with
    | zero =>
      intro k f h1 h2
      obtain ⟨f, rfl⟩ : ∃ g, f = g + 1 := ⟨f - 1, by omega⟩
      rw [l_X7_pairMany_4, show (4 : Int32) = nI 4 from rfl, if_pos (nI_le (by omega) (by omega)), show k = 4 by omega]; rfl
    | succ m ih =>
      intro k f h1 h2
      obtain ⟨f, rfl⟩ : ∃ g, f = g + 1 := ⟨f - 1, by omega⟩
      have hih := ih (k + 1) f (by omega) (by omega)
      rw [l_X7_pairMany_4, show (4 : Int32) = nI 4 from rfl, if_neg (nI_ge (by omega) (by omega))]
      simp only [q_inT (show k < 8 by omega) (by omega : 8 < 2 ^ 31), if_true, q_n (show k < 2 ^ 31 by omega), hm k (by omega)]
      rw [show ((-nI 4 : Int32)) = -4 from rfl]
      simp only [q_e4_n (hb k), j_X7_pairMany_26, show nI k + 1 = nI (k + 1) from nI_1 k]
      cases h : mt k with
      | none => rw [if_pos rfl, ← hih, q_sm, h]; simp
      | some c => rw [if_neg (by simp), ← hih, q_sm, h, show (1 : Int32) = nI 1 from rfl, q_add]; simp
  exact key 4 0 1000 (by omega) (by omega)
theorem w_likesInAll {g : Nat} (hT : q_TB τ g σ) (hm : ∀ x, x < 8 → σ 74 x = q_e4 (mt x)) (hM : q_Mt (q_cg τ g) mt) : f_X7_likesInAll σ = some (nI (q_al τ mt), σ) := by
  have key : ∀ (m k f : Nat), k + m = 8 → m < f → l_X7_likesInAll_4 f (nI (q_sm (q_ll τ mt) k)) (nI k) σ = some (nI (q_sm (q_ll τ mt) 8), σ) := by
    intro m
    induction m with
    | zero =>
      intro k f h1 h2
      obtain ⟨f, rfl⟩ : ∃ g, f = g + 1 := ⟨f - 1, by omega⟩
      rw [l_X7_likesInAll_4, show (8 : Int32) = nI 8 from rfl, if_pos (nI_le (by omega) (by omega)), show k = 8 by omega]
    | succ m ih =>
      intro k f h1 h2
      obtain ⟨f, rfl⟩ : ∃ g, f = g + 1 := ⟨f - 1, by omega⟩
      have hih := ih (k + 1) f (by omega) (by omega)
      rw [l_X7_likesInAll_4, show (8 : Int32) = nI 8 from rfl, if_neg (nI_ge (by omega) (by omega))]
      simp (disch := omega) only [q_inT, eq_self, if_true, q_n, hm k (by omega), q_e4_n (q_Mt31 hM)]
      simp only [j_X7_likesInAll_42, show nI k + 1 = nI (k + 1) from nI_1 k]
      cases h : mt k with
      | none => rw [if_pos rfl, ← hih, q_sm, show q_ll τ mt k = 0 by simp [q_ll, h], show (0 : Int32) = nI 0 from rfl, q_add]
      | some c =>
        obtain ⟨g1, g2, g3, g4⟩ := hM k c h
        rw [if_neg (by simp), show q_e4 (some c) = nI c from rfl, q_mul, q_add]
        simp (disch := omega) only [q_inT, eq_self, if_true, q_n, hT k c (by omega) g2]
        rw [show q_ta τ g k c = nI (q_lk τ k c) by simp [q_ta, g3], q_add, ← hih, q_sm, show q_ll τ mt k = q_lk τ k c by simp [q_ll, h]]
  exact key 8 0 1000 (by omega) (by omega)
end CO
theorem q_sc_c : ∀ c ∈ [46, 47, 48, 49, 50, 51, 52, 53], c ∈ q_sc := by decide
theorem q_sc_a : ∀ c ∈ [73, 74, 75], c ∈ q_sc := by decide
theorem o_asked (x y : Int32) : q_Op (fun σ => f_X6_asked x y σ) (fun σ => f_X7_asked x y σ) := q_qu (fun τ im σ h => by
  obtain ⟨hI, hC, hN, hM, -⟩ := h
  unfold f_X6_asked f_X7_asked
  rw [show (1 : Int32) = nI 1 from rfl, q_gd2]
  rcases q_rng x (n := 1) (by omega) with ⟨s, hs, rfl⟩ | hn
  · rw [if_pos (q_rng_t (by omega) hs)]
    rcases q_hand y (im := im) hI with ⟨a, a8, rfl, ha⟩ | ⟨h1, h2⟩
    · obtain ⟨σ1, e1, e2, e3, e4, e5⟩ := v_court (b := 6) (by omega) hI hC (s := s) (by omega)
      have hMt := q_Mt_g (g := 0) hI (s := s) (by omega)
      rw [q_cg0] at hMt
      rw [v_isH1 hI hC ha, q_bd, if_neg q_10, e1, q_bd, q_inT a8 (by omega), if_pos rfl, q_n (by omega), e4 a a8, v_orNone (q_Mt31 hMt), q_bd]
      refine ⟨_, _, rfl, k_Sm_mono e5 q_sc_c, fun σ' h' => ?_⟩
      obtain ⟨-, hC', hN', hM', -⟩ := h'
      obtain ⟨σ2, f1, f2, f3, f4⟩ := w_askingNow hI hN' hM' (s := s) (by omega)
      rw [w_in (nI s) 1 (by omega) 1 (by decide), q_bd, if_pos (q_rng_t (by omega) hs), if_neg q_10, w_isH1 hI hN' ha, q_bd, if_neg q_10, f1, q_bd, if_pos rfl, f3 a a8]
      exact ⟨_, rfl, k_Sm_mono f4 q_sc_a⟩
    · rw [h1 6 σ hC, q_bd]
      refine ⟨_, _, rfl, sm_rf, fun σ' h' => ?_⟩
      obtain ⟨-, hC', hN', hM', -⟩ := h'
      rw [w_in (nI s) 1 (by omega) 1 (by decide), q_bd, if_pos (q_rng_t (by omega) hs), if_neg q_10, h2 σ' hN', q_bd]
      exact ⟨_, rfl, sm_rf⟩
  · rw [if_neg hn]
    refine ⟨_, _, rfl, sm_rf, fun σ' h' => ?_⟩
    rw [w_in x 1 (by omega) 1 (by decide), q_bd, if_neg hn]
    exact ⟨_, rfl, sm_rf⟩)
theorem o_sum (x : Int32) : q_Op (fun σ => f_X6_sum x σ) (fun σ => f_X7_sum x σ) := q_qu (fun τ im σ h => by
  obtain ⟨hI, hC, hN, hM, -⟩ := h
  unfold f_X6_sum f_X7_sum
  rw [show (3 : Int32) = nI 3 from rfl, q_gd]
  rcases q_rng x (n := 3) (by omega) with ⟨s, hs, rfl⟩ | hn
  · obtain ⟨σ1, e1, e2, e3, e4, e5⟩ := v_court (b := 6) (by omega) hI hC (s := s / 2) (by omega)
    have hMt := q_Mt_g (g := 0) hI (s := s / 2) (by omega)
    rw [q_cg0] at hMt
    rw [if_pos (q_rng_t (by omega) hs), show (2 : Int32) = nI 2 from rfl, q_div (by omega) (by omega) (by omega), q_rem (by omega) (by omega) (by omega), e1, q_bd, v_pairs e4 (fun x => q_Mt31 hMt), v_allLikes hI e3 e4 hMt, q_bd, q_bd, show (0 : Int32) = nI 0 from rfl]
    simp (disch := omega) only [q_eq]
    refine ⟨if s % 2 = 0 then nI (q_pm (q_pa (q_can τ) (q_lk τ) (s / 2))) else nI (q_al τ (q_pa (q_can τ) (q_lk τ) (s / 2))), σ1, by split <;> rfl, k_Sm_mono e5 q_sc_c, fun σ' h' => ?_⟩
    obtain ⟨-, hC', hN', hM', -⟩ := h'
    obtain ⟨σ2, f1, f2, f3, f4⟩ := w_askingNow hI hN' hM' (s := s / 2) (by omega)
    have hMt2 := q_Mt_g (g := 0) hI (s := s / 2) (by omega)
    rw [show q_pa (q_cg τ 0) (q_lk τ) (s / 2) = q_pa (q_can τ) (q_lk τ) (s / 2) by rw [q_cg0]] at hMt2
    rw [w_in (nI s) 3 (by omega) 3 (by decide), q_bd, if_pos (q_rng_t (by omega) hs), if_neg (by decide), f1, q_bd, w_pairMany f3 (fun x => q_Mt31 hMt), w_likesInAll f2 f3 hMt2, q_bd, q_bd]
    exact ⟨σ2, by split <;> rfl, k_Sm_mono f4 q_sc_a⟩
  · rw [if_neg hn]
    refine ⟨_, _, rfl, sm_rf, fun σ' h' => ?_⟩
    rw [w_in x 3 (by omega) 3 (by decide), q_bd, if_neg hn]
    exact ⟨_, rfl, sm_rf⟩)
theorem o_alone : q_Op (fun σ => f_X6_alone σ) (fun σ => f_X7_alone σ) := q_qu (fun τ im σ h => by
  obtain ⟨hI, hC, hN, hM, -⟩ := h
  unfold f_X6_alone f_X7_alone
  obtain ⟨σ1, e1, e2, e3, e4, e5⟩ := v_court (b := 6) (by omega) hI hC (s := 0) (by omega)
  have hMt := q_Mt_g (g := 0) hI (s := 0) (by omega)
  rw [q_cg0] at hMt
  generalize hpa : q_pa (q_can τ) (q_lk τ) 0 = mt at e4 hMt
  rw [show (0 : Int32) = nI 0 from rfl, e1, q_bd, v_matedBits e4 (fun x => q_Mt31 hMt), q_bd, e3.1, q_andn (q_hb256 hI)]
  have eb : q_bb (fun c => (q_hb τ).testBit c && !(q_bb (fun a => (mt a).isSome) 8).testBit c) 8 = q_bb (fun c => q_H τ c && (mt c).isNone) 8 := q_bb_ext (fun c hc => by
    rw [q_hbt hI hc, q_bb_tb]
    cases mt c <;> simp [hc])
  rw [eb]
  refine ⟨_, _, rfl, k_Sm_mono e5 q_sc_c, fun σ' h' => ?_⟩
  obtain ⟨-, hC', hN', hM', -⟩ := h'
  obtain ⟨σ2, f1, f2, f3, f4⟩ := w_askingNow hI hN' hM' (s := 0) (by omega)
  rw [hpa] at f3
  have hN2 : q_N τ σ2 := q_N_sm hN' (f4 67 (by decide))
  rw [f1, q_bd]
  have key : ∀ (m k f : Nat), k + m = 8 → m < f → l_X7_alone_9 f (nI (q_bb (fun c => q_H τ c && (mt c).isNone) k)) (nI k) σ2 = some (nI (q_bb (fun c => q_H τ c && (mt c).isNone) 8), σ2) := by
    intro m
    induction m with
    | zero =>
      intro k f h1 h2
      obtain ⟨f, rfl⟩ : ∃ g, f = g + 1 := ⟨f - 1, by omega⟩
      rw [l_X7_alone_9, show (8 : Int32) = nI 8 from rfl, if_pos (nI_le (by omega) (by omega)), show k = 8 by omega]
    | succ m ih =>
      intro k f h1 h2
      obtain ⟨f, rfl⟩ : ∃ g, f = g + 1 := ⟨f - 1, by omega⟩
      have hih := ih (k + 1) f (by omega) (by omega)
      rw [l_X7_alone_9, show (8 : Int32) = nI 8 from rfl, if_neg (nI_ge (by omega) (by omega)), w_isHand hI hN2 (by omega), q_bd]
      simp only [q_b0, j_X7_alone_41, j_X7_alone_42, q_or0, show nI k + 1 = nI (k + 1) from nI_1 k, q_inT (show k < 8 by omega) (by omega : 8 < 2 ^ 31), if_true, q_n (show k < 2 ^ 31 by omega), f3 k (by omega), q_e4_n (q_Mt31 hMt)]
      have no : (q_H τ k && (mt k).isNone) = false → l_X7_alone_9 f (nI (q_bb (fun c => q_H τ c && (mt c).isNone) k)) (nI (k + 1)) σ2 = some (nI (q_bb (fun c => q_H τ c && (mt c).isNone) 8), σ2) := fun h => by
        rw [← hih, q_bb_0 (p := fun c => q_H τ c && (mt c).isNone) h]
      cases hH : q_H τ k
      · rw [if_pos rfl]; exact no (by simp [hH])
      · rw [if_neg (by decide)]
        cases h : mt k with
        | none => rw [if_pos rfl, ← hih, q_bb_or1 (p := fun c => q_H τ c && (mt c).isNone) (by omega) (by simp [h, hH])]
        | some c => rw [if_neg (by simp)]; exact no (by simp [h])
  exact ⟨σ2, key 8 0 1000 (by omega) (by omega), k_Sm_mono f4 q_sc_a⟩)
