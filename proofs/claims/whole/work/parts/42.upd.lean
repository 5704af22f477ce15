/-! PURE: a town that changes -/
def q_up (τ : k_TW) (t a v : Nat) : k_TW := fun t' a' => if t' = t ∧ a' = a then v else τ t' a'
theorem q_up_s (τ : k_TW) (t a v : Nat) : q_up τ t a v t a = v := if_pos ⟨rfl, rfl⟩
theorem q_up_t {τ : k_TW} {t a v t' a' : Nat} (h : t' ≠ t) : q_up τ t a v t' a' = τ t' a' := if_neg (fun g => h g.1)
theorem q_up_a {τ : k_TW} {t a v t' a' : Nat} (h : a' ≠ a) : q_up τ t a v t' a' = τ t' a' := if_neg (fun g => h g.2)
theorem q_H_eq {τ τ1 : k_TW} (h0 : τ1 7 0 = τ 7 0) (h1 : τ1 7 1 = τ 7 1) (a : Nat) : q_H τ1 a = q_H τ a := by unfold q_H; rw [h0, h1]
theorem q_H_up {τ : k_TW} {t a v : Nat} (h : t ≠ 7) (c : Nat) : q_H (q_up τ t a v) c = q_H τ c := q_H_eq (q_up_t (Ne.symm h)) (q_up_t (Ne.symm h)) c
theorem q_C_mk {b : Nat} {τ : k_TW} {σ : k_Mem} (h1 : σ b 7 = nI (τ 7 0)) (h2 : σ b 8 = nI (τ 7 1)) (h3 : σ b 9 = nI (τ 7 2)) (h4 : σ b 10 = nI (τ 7 3)) (h5 : ∀ t a, t < 5 → q_H τ a = true → σ (b + 1 + t) a = nI (τ t a)) (h6 : ∀ a, a < 8 → σ (b + 6) a = nI (τ 5 a) - 1 ∧ σ (b + 7) a = nI (τ 6 a)) : q_C b τ σ :=
  ⟨h1, h2, h3, h4, fun a ha => ⟨h5 0 a (by omega) ha, h5 1 a (by omega) ha, h5 2 a (by omega) ha, h5 3 a (by omega) ha, h5 4 a (by omega) ha⟩, h6⟩
theorem q_M_mk {o : Nat} {τ : k_TW} {σ : k_Mem} (h1 : ∀ t a, t < 4 → q_H τ a = true → σ 68 (o + 8 * t + a) = nI (τ t a)) (h2 : ∀ a, q_H τ a = true → σ 68 (o + 32 + a) = nI (τ 4 a) - nI a) (h3 : ∀ a, a < 4 → σ 68 (o + 40 + a) = nI (τ 6 a) ∧ σ 68 (o + 45 + a) = nI (τ 5 a - 1)) (h4 : σ 68 (o + 44) = nI (τ 7 2)) (h5 : σ 68 (o + 49) = nI (τ 7 3)) : q_M o τ σ :=
  ⟨fun a ha => ⟨h1 0 a (by omega) ha, h1 1 a (by omega) ha, h1 2 a (by omega) ha, h1 3 a (by omega) ha, h2 a ha⟩, h3, h4, h5⟩
theorem q_Mrow {o : Nat} {τ : k_TW} {σ : k_Mem} (h : q_M o τ σ) {t a : Nat} (ht : t < 4) (ha : q_H τ a = true) : σ 68 (o + 8 * t + a) = nI (τ t a) := by
  obtain ⟨g0, g1, g2, g3, g4⟩ := h.1 a ha
  have : t = 0 ∨ t = 1 ∨ t = 2 ∨ t = 3 := by omega
  rcases this with rfl | rfl | rfl | rfl
  · exact g0
  · exact g1
  · exact g2
  · exact g3
theorem q_I_up {τ : k_TW} (hI : q_I τ) {t a v : Nat} (ht : t < 5) (hv : (t = 0 → v ≤ 3) ∧ (t = 1 → v ≤ 9) ∧ (t = 2 → v ≤ 9) ∧ (t = 3 → v ≤ 2) ∧ (t = 4 → q_H τ v = true)) : q_I (q_up τ t a v) := by
  obtain ⟨i1, i2, i3, i4, i5, i6, i7, i8⟩ := hI
  have hr : ∀ c, q_run (q_up τ t a v) c = q_run τ c := fun c => by unfold q_run; rw [q_up_t (by omega)]
  have h7 : ∀ c, q_up τ t a v 7 c = τ 7 c := fun c => q_up_t (by omega)
  have h5 : ∀ c, q_up τ t a v 5 c = τ 5 c := fun c => q_up_t (by omega)
  have h6 : ∀ c, q_up τ t a v 6 c = τ 6 c := fun c => q_up_t (by omega)
  refine ⟨by rw [h7]; exact i1, by rw [h7]; exact i2, by rw [h7]; exact i3, by rw [h7]; exact i4, fun c hc => ?_, fun c hc => ?_, fun c hc => ?_, fun c hc => ?_⟩
  · rw [q_H_up (by omega)]; rw [hr] at hc; exact i5 c hc
  · rw [q_H_up (by omega)] at hc ⊢
    obtain ⟨k1, k2, k3, k4, k5⟩ := i6 c hc
    have e : ∀ t', q_up τ t a v t' c = if t' = t ∧ c = a then v else τ t' c := fun t' => rfl
    rw [e 0, e 1, e 2, e 3, e 4]
    refine ⟨?_, ?_, ?_, ?_, ?_⟩
    · split
      · rename_i h; exact hv.1 h.1.symm
      · exact k1
    · split
      · rename_i h; exact hv.2.1 h.1.symm
      · exact k2
    · split
      · rename_i h; exact hv.2.2.1 h.1.symm
      · exact k3
    · split
      · rename_i h; exact hv.2.2.2.1 h.1.symm
      · exact k4
    · split
      · rename_i h; exact hv.2.2.2.2 h.1.symm
      · exact k5
  · rw [h5]
    have := i7 c hc
    refine ⟨this.1, fun h => ?_⟩
    rw [q_H_up (by omega), q_H_up (by omega), h5]
    exact this.2 h
  · rw [h6]
    have := i8 c hc
    refine ⟨this.1, fun d h => ?_⟩
    rw [q_H_up (by omega), q_H_up (by omega), h6]
    exact this.2 d h
theorem q_C_up {b : Nat} {τ : k_TW} {σ : k_Mem} (hC : q_C b τ σ) {t a v : Nat} (ht : t < 5) : q_C b (q_up τ t a v) (k_mset σ (b + 1 + t) a (nI v)) := by
  have h7 : ∀ c, q_up τ t a v 7 c = τ 7 c := fun c => q_up_t (by omega)
  refine q_C_mk ?_ ?_ ?_ ?_ (fun t' a' ht' ha' => ?_) (fun a' ha' => ?_)
  · rw [h7, q_ms_ne _ _ (by omega)]; exact hC.1
  · rw [h7, q_ms_ne _ _ (by omega)]; exact hC.2.1
  · rw [h7, q_ms_ne _ _ (by omega)]; exact hC.2.2.1
  · rw [h7, q_ms_ne _ _ (by omega)]; exact hC.2.2.2.1
  · rw [q_H_up (by omega)] at ha'
    rw [q_ms]
    unfold q_up
    by_cases h : t' = t ∧ a' = a
    · rw [if_pos h, if_pos (by omega)]
    · rw [if_neg h, if_neg (by omega)]; exact q_row hC ht' ha'
  · rw [q_up_t (by omega), q_up_t (by omega), q_ms_ne _ _ (by omega), q_ms_ne _ _ (by omega)]
    exact hC.2.2.2.2.2 a' ha'
theorem q_M_up {o : Nat} {τ : k_TW} {σ : k_Mem} (hI : q_I τ) (hM : q_M o τ σ) {t a v : Nat} (ht : t < 4) (ha : a < 8) : q_M o (q_up τ t a v) (k_mset σ 68 (o + 8 * t + a) (nI v)) := by
  refine q_M_mk (fun t' a' ht' ha' => ?_) (fun a' ha' => ?_) (fun a' ha' => ?_) ?_ ?_
  · rw [q_H_up (by omega)] at ha'
    have := q_H8 hI ha'
    rw [q_ms]
    unfold q_up
    by_cases h : t' = t ∧ a' = a
    · rw [if_pos h, if_pos ⟨rfl, by rw [h.1, h.2]⟩]
    · rw [if_neg h, if_neg (fun g => h (by omega))]; exact q_Mrow hM ht' ha'
  · rw [q_H_up (by omega)] at ha'
    rw [q_ms, if_neg (by omega), q_up_t (by omega)]; exact (hM.1 a' ha').2.2.2.2
  · rw [q_ms, if_neg (by omega), q_ms, if_neg (by omega), q_up_t (by omega), q_up_t (by omega)]; exact hM.2.1 a' ha'
  · rw [q_ms, if_neg (by omega), q_up_t (by omega)]; exact hM.2.2.1
  · rw [q_ms, if_neg (by omega), q_up_t (by omega)]; exact hM.2.2.2
theorem q_M_pen {o : Nat} {τ : k_TW} {σ : k_Mem} (hI : q_I τ) (hM : q_M o τ σ) {a v : Nat} (ha : a < 8) : q_M o (q_up τ 4 a v) (k_mset σ 68 (o + 32 + a) (nI v - nI a)) := by
  refine q_M_mk (fun t' a' ht' ha' => ?_) (fun a' ha' => ?_) (fun a' ha' => ?_) ?_ ?_
  · rw [q_H_up (by omega)] at ha'
    have := q_H8 hI ha'
    rw [q_ms, if_neg (by omega), q_up_t (by omega)]; exact q_Mrow hM ht' ha'
  · rw [q_H_up (by omega)] at ha'
    rw [q_ms]
    unfold q_up
    by_cases h : a' = a
    · rw [if_pos ⟨rfl, by rw [h]⟩, if_pos ⟨rfl, h⟩, h]
    · rw [if_neg (by omega), if_neg (fun g => h g.2)]; exact (hM.1 a' ha').2.2.2.2
  · rw [q_ms, if_neg (by omega), q_ms, if_neg (by omega), q_up_t (by omega), q_up_t (by omega)]; exact hM.2.1 a' ha'
  · rw [q_ms, if_neg (by omega), q_up_t (by omega)]; exact hM.2.2.1
  · rw [q_ms, if_neg (by omega), q_up_t (by omega)]; exact hM.2.2.2
/-- cells that a change of the town touches -/
def q_tn : List Nat := [6, 7, 8, 9, 10, 11, 12, 13, 68] ++ q_sc
theorem q_Re_t {τ τ1 : k_TW} {im : Nat → Option k_TW} {σ σ2 : k_Mem} (hR : q_R τ im σ) (h0 : τ1 7 0 = τ 7 0) (h1 : τ1 7 1 = τ 7 1) (hI : q_I τ1) (hC : q_C 6 τ1 σ2) (hM : q_M 0 τ1 σ2) (ev : k_Sm q_tn σ σ2) (e68 : ∀ i, 50 ≤ i → i < 150 → σ2 68 i = σ 68 i) : q_R τ1 im σ2 := by
  obtain ⟨-, -, hN, -, him, htp, hsn, hss, hot⟩ := hR
  have e : ∀ k, k ∉ q_tn → σ2 k = σ k := ev
  refine ⟨hI, hC, ?_, hM, ?_, ?_, ?_, ?_, ?_⟩
  · unfold q_N; rw [e 67 (by decide), h0, h1]; exact hN
  · exact q_im_of him h0 h1 (by rw [e 0 (by decide)]) (e 79 (by decide)) e68 (fun k k1 k2 => e k (by simp [q_tn, q_sc]; omega))
  · exact q_tp_of htp (by rw [e 1 (by decide)]) (by rw [e 67 (by decide)]) (e 2 (by decide)) (e 70 (by decide))
  · exact q_sn_of hsn (fun a ha => by rw [q_H_eq h0 h1]; exact ha) (by rw [e 55 (by decide)]) (by rw [e 67 (by decide)]) (e 56 (by decide)) (e 57 (by decide)) (e 58 (by decide)) (e 77 (by decide))
  · exact q_ss_of hss (fun k k1 k2 => e k (by simp [q_tn, q_sc]; omega)) (e 80 (by decide)) (e 81 (by decide)) (e 82 (by decide))
  · exact q_ot_of hot (by rw [e 3 (by decide)]) (by rw [e 67 (by decide)]) (by rw [e 0 (by decide)]) (by rw [e 67 (by decide)]) (e 71 (by decide)) (e 72 (by decide))
theorem q_tn_set {σ : k_Mem} {k i : Nat} {v : Int32} (h : k ∈ q_tn) : k_Sm q_tn σ (k_mset σ k i v) := fun c hc => q_ms_ne _ _ (fun e => hc (by rw [e]; exact h))
/-- alter -/
theorem v_replace {k a : Nat} {v : Int32} {σ : k_Mem} (ha : a < 8) : f_X6_replace k 8 (nI a) v 1 σ = some (σ k a, k_mset σ k a v) := by
  unfold f_X6_replace
  rw [if_neg q_10, if_neg (nI_pos (by omega)), if_pos (nI_lt ha (by omega)), q_inT ha (by omega), if_pos rfl, if_pos rfl, q_n (by omega)]
theorem v_replace0 {k : Nat} {x v : Int32} {σ : k_Mem} : f_X6_replace k 8 x v 0 σ = some (-1, σ) := by
  unfold f_X6_replace; rw [if_pos rfl]
theorem o_alter (x y z : Int32) : q_Op (fun σ => f_X6_alter x y z σ) (fun σ => f_X7_alter x y z σ) := by
  intro σ hr
  obtain ⟨τ, im, hR⟩ := hr
  have hR0 := hR
  obtain ⟨hI, hC, hN, hM, -⟩ := hR
  dsimp only
  rcases q_hand x (im := im) hI with ⟨a, a8, rfl, ha⟩ | ⟨h1, h2⟩
  · -- the class's town and the reference's change alike
    have core : ∀ t v (z : Int32), t < 4 → z = nI v → ((t = 0 → v ≤ 3) ∧ (t = 1 → v ≤ 9) ∧ (t = 2 → v ≤ 9) ∧ (t = 3 → v ≤ 2) ∧ (t = 4 → q_H τ v = true)) → q_Re (k_mset (k_mset σ (7 + t) a z) 68 (8 * t + a) z) := by
      intro t v z ht hz hv
      subst hz
      have hC1 := q_C_up (v := v) (a := a) hC (show t < 5 by omega)
      have hM1 := q_M_up (v := v) hI hM ht a8
      refine ⟨q_up τ t a v, im, q_Re_t hR0 (q_up_t (by omega)) (q_up_t (by omega)) (q_I_up hI (by omega) hv) ?_ ?_ ?_ (fun i h3 h4 => ?_)⟩
      · rw [show 7 + t = 6 + 1 + t by omega]
        exact q_C_sm hC1 (fun k k1 k2 => q_ms_ne _ _ (by omega))
      · refine q_M_of (q_I_up hI (by omega) hv) hM1 (fun i _ _ => ?_)
        rw [show 0 + 8 * t + a = 8 * t + a by omega, q_ms, q_ms_ne (a := 68) (k := 7 + t) _ _ (by omega), q_ms]
      · exact k_Sm_tr (q_tn_set (by have : t = 0 ∨ t = 1 ∨ t = 2 ∨ t = 3 := by omega
                                    rcases this with rfl | rfl | rfl | rfl <;> decide)) (q_tn_set (by decide))
      · rw [q_ms, if_neg (by omega), q_ms_ne _ _ (by omega)]
    have cls : ∀ t (hi : Nat) (z : Int32), t < 4 → hi < 10 → ((t = 0 → hi ≤ 3) ∧ (t = 1 → hi ≤ 9) ∧ (t = 2 → hi ≤ 9) ∧ (t = 3 → hi ≤ 2)) → ∃ r σ1 σ2, f_X6_replace (7 + t) 8 (nI a) z (if 0 ≤ z ∧ z ≤ nI hi then 1 else 0) σ = some (r, σ1) ∧ k_bd (f_X7_puts (if 0 ≤ z ∧ z ≤ nI hi then 1 else 0) (nI (8 * t + a)) z 0 σ1) (fun r9 σ9 => some (r9, σ9)) = some (r, σ2) ∧ q_Re σ2 := by
      intro t hi z ht h10 hb
      rcases q_rng z (n := hi) (by omega) with ⟨v, hv, hz⟩ | hn
      · subst hz
        rw [if_pos (q_rng_t (by omega) hv)]
        refine ⟨_, _, k_mset (k_mset σ (7 + t) a (nI v)) 68 (8 * t + a) (nI v), v_replace a8, ?_, core t v (nI v) ht rfl ⟨fun h => by have := hb.1 h; omega, fun h => by have := hb.2.1 h; omega, fun h => by have := hb.2.2.1 h; omega, fun h => by have := hb.2.2.2 h; omega, fun h => by omega⟩⟩
        unfold f_X7_puts
        have e1 : σ (7 + t) a = nI (τ t a) := by rw [show 7 + t = 6 + 1 + t by omega]; exact q_row hC (by omega) ha
        have e2 : σ 68 (8 * t + a) = nI (τ t a) := q_srow hM ht ha
        rw [if_neg q_10, q_inT (show 8 * t + a < 250 by omega) (by omega), if_pos rfl, if_pos rfl, q_n (by omega), q_bd, Int32.sub_zero, Int32.add_zero, q_ms_ne _ _ (by omega), e1, e2]
      · rw [if_neg hn, v_replace0]
        refine ⟨_, _, _, rfl, ?_, τ, im, hR0⟩
        unfold f_X7_puts
        rw [if_pos rfl]; rfl
    unfold f_X6_alter f_X7_alter
    rw [v_isH1 hI hC ha, q_bd, if_neg q_10]
    rcases q_rng y (n := 4) (by omega) with ⟨t, ht, rfl⟩ | hn
    · have hNσ : ∀ σ1, σ1 67 = σ 67 → q_N τ σ1 := fun σ1 h => q_N_sm hN h
      have wx : ∀ (σ1 : k_Mem), σ1 67 = σ 67 → k_bd (f_X7_isHand (nI a) σ1) (fun r1 σ1 => if r1 = 0 then some (-1, σ1) else k_bd (f_X7_in (Int32.toInt64 (nI t)) 0 4 σ1) (fun r3 σ3 => if r3 = 0 then some (-1, σ3) else if nI t = 4 then k_bd (f_X7_pens (nI a) z σ3) (fun r6 σ6 => some (r6, σ6)) else if nI t = 0 then j_X7_alter_62 (nI a) (nI t) z z.toInt64 0 3 σ3 else if nI t = 3 then j_X7_alter_62 (nI a) (nI t) z z.toInt64 0 2 σ3 else j_X7_alter_62 (nI a) (nI t) z z.toInt64 0 9 σ3)) = (if t = 4 then k_bd (f_X7_pens (nI a) z σ1) (fun r6 σ6 => some (r6, σ6)) else k_bd (f_X7_puts (if 0 ≤ z ∧ z ≤ nI (if t = 0 then 3 else if t = 3 then 2 else 9) then 1 else 0) (nI (8 * t + a)) z 0 σ1) (fun r9 σ9 => some (r9, σ9))) := by
        intro σ1 h67
        rw [w_isH1 hI (hNσ σ1 h67) ha, q_bd, if_neg q_10, w_in (nI t) 4 (by omega) 4 (by decide), q_bd, if_pos (q_rng_t (by omega) ht), if_neg q_10]
        unfold j_X7_alter_62
        rw [w_in z 3 (by omega) 3 (by decide), w_in z 2 (by omega) 2 (by decide), w_in z 9 (by omega) 9 (by decide), q_bd, q_bd, q_bd, show (8 : Int32) = nI 8 from rfl, q_mul, q_add, show (4 : Int32) = nI 4 from rfl]
        have : t = 0 ∨ t = 1 ∨ t = 2 ∨ t = 3 ∨ t = 4 := by omega
        rcases this with rfl | rfl | rfl | rfl | rfl
        · rw [if_neg (show ¬ nI 0 = nI 4 by decide), if_pos (show nI 0 = (0 : Int32) by decide), if_neg (show ¬ (0 : Nat) = 4 by decide)]; rfl
        · rw [if_neg (show ¬ nI 1 = nI 4 by decide), if_neg (show ¬ nI 1 = (0 : Int32) by decide), if_neg (show ¬ nI 1 = (3 : Int32) by decide), if_neg (show ¬ (1 : Nat) = 4 by decide)]; rfl
        · rw [if_neg (show ¬ nI 2 = nI 4 by decide), if_neg (show ¬ nI 2 = (0 : Int32) by decide), if_neg (show ¬ nI 2 = (3 : Int32) by decide), if_neg (show ¬ (2 : Nat) = 4 by decide)]; rfl
        · rw [if_neg (show ¬ nI 3 = nI 4 by decide), if_neg (show ¬ nI 3 = (0 : Int32) by decide), if_pos (show nI 3 = (3 : Int32) by decide), if_neg (show ¬ (3 : Nat) = 4 by decide)]; rfl
        · rw [if_pos rfl, if_pos rfl]
      have fin : ∀ (A : Option (Int32 × k_Mem)) hi, t < 4 → hi < 10 → ((t = 0 → hi ≤ 3) ∧ (t = 1 → hi ≤ 9) ∧ (t = 2 → hi ≤ 9) ∧ (t = 3 → hi ≤ 2)) → hi = (if t = 0 then 3 else if t = 3 then 2 else 9) → A = f_X6_replace (7 + t) 8 (nI a) z (if 0 ≤ z ∧ z ≤ nI hi then 1 else 0) σ → ∃ r σ1 σ2, A = some (r, σ1) ∧ k_bd (f_X7_isHand (nI a) σ1) (fun r1 σ1 => if r1 = 0 then some (-1, σ1) else k_bd (f_X7_in (Int32.toInt64 (nI t)) 0 4 σ1) (fun r3 σ3 => if r3 = 0 then some (-1, σ3) else if nI t = 4 then k_bd (f_X7_pens (nI a) z σ3) (fun r6 σ6 => some (r6, σ6)) else if nI t = 0 then j_X7_alter_62 (nI a) (nI t) z z.toInt64 0 3 σ3 else if nI t = 3 then j_X7_alter_62 (nI a) (nI t) z z.toInt64 0 2 σ3 else j_X7_alter_62 (nI a) (nI t) z z.toInt64 0 9 σ3)) = some (r, σ2) ∧ q_Re σ2 := by
        intro A hi h4 h10 hb hhi hA
        obtain ⟨r, σ1, σ2, e1, e2, e3⟩ := cls t hi z h4 h10 hb
        refine ⟨r, σ1, σ2, by rw [hA]; exact e1, ?_, e3⟩
        have h67 : σ1 67 = σ 67 := fr_f_X6_replace (7 + t) 8 _ _ _ σ r σ1 e1 67 (by simp; omega)
        rw [wx σ1 h67, if_neg (by omega), ← hhi]
        exact e2
      have : t = 0 ∨ t = 1 ∨ t = 2 ∨ t = 3 ∨ t = 4 := by omega
      rcases this with rfl | rfl | rfl | rfl | rfl
      · refine fin _ 3 (by omega) (by omega) ⟨by omega, by omega, by omega, by omega⟩ rfl ?_
        rw [if_pos (by decide), show (3 : Int32) = nI 3 from rfl, q_gd2]
        unfold j_X6_alter_70 j_X6_alter_71
        by_cases hz : 0 ≤ z ∧ z ≤ nI 3
        · rw [if_pos hz, if_pos hz, v_replace a8]; rfl
        · rw [if_neg hz, if_neg hz, v_replace0]; rfl
      · refine fin _ 9 (by omega) (by omega) ⟨by omega, by omega, by omega, by omega⟩ rfl ?_
        rw [if_neg (by decide), if_pos (by decide), v_isStrokes, q_bd]
        by_cases hz : 0 ≤ z ∧ z ≤ nI 9
        · rw [if_pos hz, v_replace a8]; rfl
        · rw [if_neg hz, v_replace0]; rfl
      · refine fin _ 9 (by omega) (by omega) ⟨by omega, by omega, by omega, by omega⟩ rfl ?_
        rw [if_neg (by decide), if_neg (by decide), if_pos (by decide), v_isStrokes, q_bd]
        by_cases hz : 0 ≤ z ∧ z ≤ nI 9
        · rw [if_pos hz, v_replace a8]; rfl
        · rw [if_neg hz, v_replace0]; rfl
      · refine fin _ 2 (by omega) (by omega) ⟨by omega, by omega, by omega, by omega⟩ rfl ?_
        rw [if_neg (by decide), if_neg (by decide), if_neg (by decide), if_pos (by decide), show (2 : Int32) = nI 2 from rfl, q_gd2]
        unfold j_X6_alter_131 j_X6_alter_132
        by_cases hz : 0 ≤ z ∧ z ≤ nI 2
        · rw [if_pos hz, if_pos hz, v_replace a8]; rfl
        · rw [if_neg hz, if_neg hz, v_replace0]; rfl
      · rw [if_neg (by decide), if_neg (by decide), if_neg (by decide), if_neg (by decide), if_pos (by decide)]
        rcases q_hand z (im := im) hI with ⟨v, v8, rfl, hv⟩ | ⟨h1, h2⟩
        · rw [v_isH1 hI hC hv, q_bd, v_replace a8, q_bd]
          have hI1 : q_I (q_up τ 4 a v) := q_I_up hI (by omega) ⟨by omega, by omega, by omega, by omega, fun _ => hv⟩
          have h67 : (k_mset σ 11 a (nI v)) 67 = σ 67 := q_ms_ne _ _ (by decide)
          refine ⟨_, _, k_mset (k_mset σ 11 a (nI v)) 68 (32 + a) (nI v - nI a), rfl, ?_, q_up τ 4 a v, im, q_Re_t hR0 (q_up_t (by omega)) (q_up_t (by omega)) hI1 ?_ ?_ (k_Sm_tr (q_tn_set (by decide)) (q_tn_set (by decide))) (fun i h3 h4 => by rw [q_ms, if_neg (by omega), q_ms_ne _ _ (by omega)])⟩
          · rw [wx _ h67, if_pos rfl]
            unfold f_X7_pens j_X7_pens_22 f_X7_puts
            rw [w_isH1 hI (hNσ _ h67) ha, q_bd, if_neg q_10, w_isH1 hI (hNσ _ h67) hv, q_bd, if_neg q_10, if_neg q_10, show (32 : Int32) = nI 32 from rfl, q_add, q_inT (show 32 + a < 250 by omega) (by omega), if_pos rfl, if_pos rfl, q_n (by omega), q_bd, q_bd, q_ms_ne _ _ (by omega)]
            have e1 : σ 11 a = nI (τ 4 a) := (hC.2.2.2.2.1 a ha).2.2.2.2
            have e2 : σ 68 (32 + a) = nI (τ 4 a) - nI a := by have := (hM.1 a ha).2.2.2.2; rwa [show 0 + 32 + a = 32 + a by omega] at this
            rw [e1, e2, Int32.sub_add_cancel]
          · exact q_C_sm (q_C_up (v := v) (a := a) hC (show 4 < 5 by omega)) (fun k k1 k2 => q_ms_ne _ _ (by omega))
          · refine q_M_of hI1 (q_M_pen (v := v) hI hM a8) (fun i _ _ => ?_)
            rw [show 0 + 32 + a = 32 + a by omega, q_ms, q_ms_ne (a := 68) (k := 11) _ _ (by omega), q_ms]
        · rw [h1 6 σ hC, q_bd, v_replace0, q_bd]
          refine ⟨_, _, σ, rfl, ?_, τ, im, hR0⟩
          rw [wx _ rfl, if_pos rfl]
          unfold f_X7_pens j_X7_pens_21 j_X7_pens_22 f_X7_puts
          rw [w_isH1 hI hN ha, q_bd, if_neg q_10, h2 σ hN, q_bd, if_pos rfl, if_pos rfl]; rfl
    · have ne : ∀ t, t ≤ 4 → ¬ y = nI t := fun t ht e => hn (by rw [e]; exact q_rng_t (by omega) ht)
      rw [if_neg (show ¬ y = 0 from ne 0 (by omega)), if_neg (show ¬ y = 1 from ne 1 (by omega)), if_neg (show ¬ y = 2 from ne 2 (by omega)), if_neg (show ¬ y = 3 from ne 3 (by omega)), if_neg (show ¬ y = 4 from ne 4 (by omega))]
      refine ⟨_, _, _, rfl, ?_, τ, im, hR0⟩
      rw [w_isH1 hI hN ha, q_bd, if_neg q_10, w_in y 4 (by omega) 4 (by decide), q_bd, if_neg hn, if_pos rfl]
  · unfold f_X6_alter f_X7_alter
    rw [h1 6 σ hC, q_bd, if_pos rfl]
    refine ⟨_, _, _, rfl, ?_, τ, im, hR0⟩
    rw [h2 σ hN, q_bd, if_pos rfl]
