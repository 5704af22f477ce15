/-! PURE: run, fold, wed, part -/
/-- a bit put or taken -/
def q_wbt (u a : Nat) (is : Bool) : Nat := if is then u ||| 2 ^ a else u &&& (255 - 2 ^ a)
theorem q_wbt_256 : ∀ u, u < 256 → ∀ a, a < 8 → ∀ b : Bool, q_wbt u a b < 256 := by decide +kernel
theorem q_wbt_c : ∀ u, u < 256 → ∀ a, a < 8 → ∀ b : Bool, ((nI u &&& ((k_shl 1 (nI a)) ^^^ (-1))) ||| (if b then k_shl 1 (nI a) else 0)) = nI (q_wbt u a b) := by decide +kernel
theorem q_wbt_t {u a c : Nat} (ha : a < 8) (hc : c < 8) {b : Bool} : (q_wbt u a b).testBit c = if c = a then b else u.testBit c := by
  unfold q_wbt
  cases b
  · simp only [Bool.false_eq_true, if_false]
    rw [q_clt ha hc]
    by_cases h : c = a <;> simp [h]
  · simp only [if_true]
    rw [Nat.testBit_or, Nat.testBit_two_pow]
    by_cases h : c = a
    · simp [h]
    · simp [h, Ne.symm h]
theorem q_t8 {u c : Nat} (hu : u < 256) (h : u.testBit c = true) : c < 8 := by
  by_cases h8 : c < 8
  · exact h8
  · rw [Nat.testBit_lt_two_pow (Nat.lt_of_lt_of_le hu (show 256 ≤ 2 ^ c from Nat.pow_le_pow_right (n := 2) (i := 8) (by decide) (by omega)))] at h
    cases h
theorem v_withBit {u a : Nat} (hu : u < 256) (ha : a < 8) {x : Int32} {σ : k_Mem} : f_X5_withBit (nI u) (nI a) x σ = some (nI (q_wbt u a (decide (x ≠ 0))), σ) := by
  unfold f_X5_withBit
  by_cases h : x = 0
  · rw [if_pos h, q_clr u hu a ha]; simp [h, q_wbt]
  · rw [if_neg h, q_or1 u hu a ha]; simp [h, q_wbt]
theorem q_w_or {u a : Nat} (hu : u < 256) (ha : a < 8) {x : Int32} : ((nI u &&& ((k_shl 1 (nI a)) ^^^ (-1))) ||| (if x = 0 then 0 else k_shl 1 (nI a))) = nI (q_wbt u a (decide (x ≠ 0))) := by
  rw [← q_wbt_c u hu a ha]
  by_cases h : x = 0 <;> simp [h]
theorem o_run (x y : Int32) : q_Op (fun σ => f_X6_run x y σ) (fun σ => f_X7_run x y σ) := by
  intro σ hr
  obtain ⟨τ, im, hR⟩ := hr
  have hR0 := hR
  obtain ⟨hI, hC, hN, hM, -⟩ := hR
  dsimp only
  unfold f_X6_run f_X7_run
  rcases q_hand x (im := im) hI with ⟨a, a8, rfl, ha⟩ | ⟨h1, h2⟩
  · have h256 := hI.2.2.1
    rw [v_isH1 hI hC ha, q_bd, if_neg q_10, v_isRun hI hC (by omega), q_bd]
    simp only [j_X6_run_29, f_X5_setRun]
    rw [hC.2.2.1, v_withBit h256 a8, q_bd, q_bd]
    have e44 : σ 68 44 = nI (τ 7 2) := hM.2.2.1
    generalize hv : q_wbt (τ 7 2) a (decide (y ≠ 0)) = v
    have v256 : v < 256 := by rw [← hv]; exact q_wbt_256 _ h256 a a8 _
    have hI1 : q_I (q_up τ 7 2 v) := by
      obtain ⟨i1, i2, i3, i4, i5, i6, i7, i8⟩ := hI
      have hH : ∀ c, q_H (q_up τ 7 2 v) c = q_H τ c := fun c => q_H_eq (q_up_a (by omega)) (q_up_a (by omega)) c
      have hx : ∀ t c, t ≠ 7 → q_up τ 7 2 v t c = τ t c := fun t c ht => q_up_t ht
      refine ⟨by rw [q_up_a (by omega)]; exact i1, by rw [q_up_a (by omega)]; exact i2, by rw [q_up_s]; exact v256, by rw [q_up_a (by omega)]; exact i4, fun c hc => ?_, fun c hc => ?_, fun c hc => ?_, fun c hc => ?_⟩
      · unfold q_run at hc
        rw [q_up_s] at hc
        have c8 := q_t8 v256 hc
        rw [← hv, q_wbt_t a8 c8] at hc
        rw [hH]
        by_cases e : c = a
        · rw [e]; exact ha
        · rw [if_neg e] at hc; exact i5 c hc
      · rw [hH] at hc
        rw [hx 0 c (by omega), hx 1 c (by omega), hx 2 c (by omega), hx 3 c (by omega), hx 4 c (by omega), hH]
        exact i6 c hc
      · rw [hx 5 c (by omega), hH, hH, hx 5 _ (by omega)]; exact i7 c hc
      · rw [hx 6 c (by omega)]
        refine ⟨(i8 c hc).1, fun d hd => ?_⟩
        rw [hH, hH, hx 6 d (by omega)]; exact (i8 c hc).2 d hd
    refine ⟨q_b (q_run τ a), k_mset σ 6 9 (nI v), k_mset (k_mset σ 6 9 (nI v)) 68 44 (nI v), ?_, ?_, q_up τ 7 2 v, im, q_Re_t hR0 (q_up_a (by omega)) (q_up_a (by omega)) hI1 ?_ ?_ (k_Sm_tr (q_tn_set (by decide)) (q_tn_set (by decide))) (fun i h3 h4 => by rw [q_ms, if_neg (by omega), q_ms_ne _ _ (by omega)])⟩
    · simp only [q_b0]
      cases q_run τ a <;> rfl
    · rw [w_isH1 hI (q_N_sm hN (q_ms_ne _ _ (by decide))) ha, q_bd, if_neg q_10, if_pos (by decide), if_pos (by decide), show k_n 44 = 44 by decide, q_ms_ne _ _ (by decide), e44]
      have hj : ∀ (z : Int32) σ', j_X7_run_52 (k_shr (nI (τ 7 2)) (nI a) &&& 1) 44 (nI (τ 7 2) &&& ((k_shl 1 (nI a)) ^^^ (-1))) z σ' = some (q_b (q_run τ a), k_mset σ' 68 44 ((nI (τ 7 2) &&& ((k_shl 1 (nI a)) ^^^ (-1))) ||| z)) := fun z σ' => by
        unfold j_X7_run_52
        rw [if_pos (by decide), show k_n 44 = 44 by decide, q_bit (by omega) (by omega), q_pc_t]
        unfold q_run
        cases (τ 7 2).testBit a <;> rfl
      have hw := q_w_or (x := y) h256 a8
      rw [hj, hj, ← hv, ← hw]
      by_cases h : y = 0
      · rw [if_pos h, if_pos h]
      · rw [if_neg h, if_neg h]
    · refine q_C_mk ?_ ?_ ?_ ?_ (fun t' a' ht' ha' => ?_) (fun a' ha' => ?_)
      · rw [q_ms_ne _ _ (by omega), q_ms, if_neg (by omega), q_up_a (by omega)]; exact hC.1
      · rw [q_ms_ne _ _ (by omega), q_ms, if_neg (by omega), q_up_a (by omega)]; exact hC.2.1
      · rw [q_ms_ne _ _ (by omega), q_ms, if_pos ⟨rfl, rfl⟩, q_up_s]
      · rw [q_ms_ne _ _ (by omega), q_ms, if_neg (by omega), q_up_a (by omega)]; exact hC.2.2.2.1
      · rw [q_H_eq (q_up_a (by omega)) (q_up_a (by omega))] at ha'
        rw [q_ms_ne _ _ (by omega), q_ms_ne _ _ (by omega), q_up_t (by omega)]; exact q_row hC ht' ha'
      · rw [q_ms_ne _ _ (by omega), q_ms_ne _ _ (by omega), q_ms_ne _ _ (by omega), q_ms_ne _ _ (by omega), q_up_t (by omega), q_up_t (by omega)]; exact hC.2.2.2.2.2 a' ha'
    · refine q_M_mk (fun t' a' ht' ha' => ?_) (fun a' ha' => ?_) (fun a' ha' => ?_) ?_ ?_
      · rw [q_H_eq (q_up_a (by omega)) (q_up_a (by omega))] at ha'
        have := q_H8 hI ha'
        rw [q_ms, if_neg (by omega), q_ms_ne _ _ (by omega), q_up_t (by omega)]; exact q_Mrow hM ht' ha'
      · rw [q_H_eq (q_up_a (by omega)) (q_up_a (by omega))] at ha'
        have := q_H8 hI ha'
        rw [q_ms, if_neg (by omega), q_ms_ne _ _ (by omega), q_up_t (by omega)]; exact (hM.1 a' ha').2.2.2.2
      · rw [q_ms, if_neg (by omega), q_ms_ne _ _ (by omega), q_ms, if_neg (by omega), q_ms_ne _ _ (by omega), q_up_t (by omega), q_up_t (by omega)]; exact hM.2.1 a' ha'
      · rw [q_ms, if_pos ⟨rfl, rfl⟩, q_up_s]
      · rw [q_ms, if_neg (by omega), q_ms_ne _ _ (by omega), q_up_a (by omega)]; exact hM.2.2.2
  · rw [h1 6 σ hC, q_bd, if_pos rfl]
    refine ⟨_, _, _, rfl, ?_, τ, im, hR0⟩
    rw [h2 σ hN, q_bd, if_pos rfl]
/-- a left and a right, or not -/
theorem q_two (x y : Int32) {τ : k_TW} (hI : q_I τ) : (∃ a b, a < 4 ∧ 4 ≤ b ∧ x = nI a ∧ y = nI b ∧ q_H τ a = true ∧ q_H τ b = true ∧ (∀ σ, q_C 6 τ σ → f_X5_isLeft 6 x σ = some (1, σ) ∧ f_X5_isRight 6 y σ = some (1, σ)) ∧ ∀ σ, q_N τ σ → f_X7_areTwo x y σ = some (1, σ)) ∨ ((∀ σ, q_C 6 τ σ → f_X5_isLeft 6 x σ = some (0, σ) ∨ (f_X5_isLeft 6 x σ = some (1, σ) ∧ f_X5_isRight 6 y σ = some (0, σ))) ∧ ∀ σ, q_N τ σ → f_X7_areTwo x y σ = some (0, σ)) := by
  have hl := hI.1
  have hr := hI.2.1
  have cl : ∀ σ, q_C 6 τ σ → f_X5_isLeft 6 x σ = some (if x < 0 ∨ nI (τ 7 0) ≤ x then 0 else 1, σ) := fun σ hC => v_isLeft hC x
  have cr : ∀ σ, q_C 6 τ σ → f_X5_isRight 6 y σ = some (if y < 4 ∨ nI (4 + τ 7 1) ≤ y then 0 else 1, σ) := fun σ hC => by
    unfold f_X5_isRight
    rw [hC.2.1]
    have e : (4 : Int32) + nI (τ 7 1) = nI (4 + τ 7 1) := by rw [show (4 : Int32) = nI 4 from rfl, q_add]
    rw [e]
    by_cases h1 : y < 4
    · rw [if_pos h1, if_pos (Or.inl h1)]
    · rw [if_neg h1]
      by_cases h2 : nI (4 + τ 7 1) ≤ y
      · rw [if_pos h2, if_pos (Or.inr h2)]
      · rw [if_neg h2, if_neg (fun g => g.elim h1 h2)]
  rcases q_ix x (n := τ 7 0) (by omega) with h | h | ⟨a, a1, a2⟩
  · refine Or.inr ⟨fun σ hC => Or.inl (by rw [cl σ hC, if_pos (Or.inl h)]), fun σ hN => ?_⟩
    unfold f_X7_areTwo
    rw [w_isHand_no hI hN (Or.inl h)]; rfl
  · refine Or.inr ⟨fun σ hC => Or.inl (by rw [cl σ hC, if_pos (Or.inr h)]), fun σ hN => ?_⟩
    unfold f_X7_areTwo
    rcases q_hand x (im := fun _ => none) hI with ⟨a, a8, rfl, ha⟩ | ⟨h1, h2⟩
    · rw [w_isH1 hI hN ha, q_bd, if_neg q_10]
      have a4 : 4 ≤ a := by
        rw [q_le (by omega) (by omega)] at h
        rw [q_Hb] at ha; omega
      rcases q_hand y (im := fun _ => none) hI with ⟨b, b8, rfl, hb⟩ | ⟨h1, h2⟩
      · rw [w_isH1 hI hN hb, q_bd, if_neg q_10, if_pos (show (4 : Int32) ≤ nI a from nI_le (a := 4) a4 (by omega))]
      · rw [h2 σ hN]; rfl
    · rw [h2 σ hN]; rfl
  · subst a2
    have ha : q_H τ a = true := by rw [q_Hb]; omega
    have l1 : ∀ σ, q_C 6 τ σ → f_X5_isLeft 6 (nI a) σ = some (1, σ) := fun σ hC => by
      have hP : ¬ (nI a < 0 ∨ nI (τ 7 0) ≤ nI a) := fun g => by
        rcases g with g | g
        · exact nI_pos (by omega) g
        · rw [q_le (by omega) (by omega)] at g; omega
      rw [cl σ hC, if_neg hP]
    by_cases hb : ∃ b, 4 ≤ b ∧ b < 4 + τ 7 1 ∧ y = nI b
    · obtain ⟨b, b1, b2, rfl⟩ := hb
      have hbH : q_H τ b = true := by rw [q_Hb]; omega
      refine Or.inl ⟨a, b, by omega, b1, rfl, rfl, ha, hbH, fun σ hC => ⟨l1 σ hC, ?_⟩, fun σ hN => ?_⟩
      · have hP : ¬ (nI b < 4 ∨ nI (4 + τ 7 1) ≤ nI b) := fun g => by
          rcases g with g | g
          · exact nI_nlt (b := 4) b1 (by omega) g
          · rw [q_le (by omega) (by omega)] at g; omega
        rw [cr σ hC, if_neg hP]
      · unfold f_X7_areTwo
        rw [w_isH1 hI hN ha, q_bd, if_neg q_10, w_isH1 hI hN hbH, q_bd, if_neg q_10, if_neg (show ¬ (4 : Int32) ≤ nI a from nI_ge (b := 4) (by omega) (by omega)), if_neg (show ¬ nI b < 4 from nI_nlt (b := 4) b1 (by omega))]
    · have hno : y < 4 ∨ nI (4 + τ 7 1) ≤ y := by
        rcases q_ix y (n := 4 + τ 7 1) (by omega) with h | h | ⟨j, h1, h2⟩
        · exact Or.inl (by rw [Int32.lt_iff_toInt_lt] at h ⊢; rw [show (0 : Int32).toInt = 0 by decide] at h; rw [show (4 : Int32).toInt = 4 by decide]; omega)
        · exact Or.inr h
        · refine Or.inl ?_
          have : ¬ 4 ≤ j := fun g => hb ⟨j, g, h1, h2⟩
          rw [h2]; exact nI_lt (b := 4) (by omega) (by omega)
      refine Or.inr ⟨fun σ hC => Or.inr ⟨l1 σ hC, by rw [cr σ hC, if_pos hno]⟩, fun σ hN => ?_⟩
      unfold f_X7_areTwo
      rw [w_isH1 hI hN ha, q_bd, if_neg q_10]
      rcases q_hand y (im := fun _ => none) hI with ⟨b, b8, rfl, hbH⟩ | ⟨h1, h2⟩
      · have : b < 4 := by
          rw [q_Hb] at hbH
          rcases hno with g | g
          · rw [show (4 : Int32) = nI 4 from rfl, q_lt (by omega) (by omega)] at g; exact g
          · rw [q_le (by omega) (by omega)] at g; omega
        rw [w_isH1 hI hN hbH, q_bd, if_neg q_10, if_neg (show ¬ (4 : Int32) ≤ nI a from nI_ge (b := 4) (by omega) (by omega)), if_pos (show nI b < 4 from nI_lt (b := 4) this (by omega))]
      · rw [h2 σ hN]; rfl
