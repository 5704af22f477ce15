/-! PURE: images and sheets -/
def q_kb (im : Nat → Option k_TW) : Nat := (if (im 0).isSome then 1 else 0) + (if (im 1).isSome then 2 else 0)
theorem q_kb4 (im : Nat → Option k_TW) : q_kb im < 4 := by unfold q_kb; split <;> split <;> omega
theorem q_kbt (im : Nat → Option k_TW) {k : Nat} (hk : k < 2) : (q_kb im).testBit k = (im k).isSome := by
  have h : k = 0 ∨ k = 1 := by omega
  unfold q_kb
  rcases h with rfl | rfl <;> generalize (im 0).isSome = p <;> generalize (im 1).isSome = q <;> revert p q <;> decide
theorem q_bo0 (b : Bool) : (nI (if b = true then 1 else 0) = 0) = (b = false) := by cases b <;> simp <;> decide
theorem v_hasImage {τ : k_TW} {im : Nat → Option k_TW} {σ : k_Mem} (h : q_im τ im σ) {k : Nat} (hk : k < 2) : f_X6_hasImage (nI k) σ = some (q_b (im k).isSome, σ) := by
  unfold f_X6_hasImage
  rw [show σ 0 4 = nI (q_kb im) from h.1]
  have := q_kb4 im
  simp only [q_bit1 (show q_kb im < 2 ^ 31 by omega) (show k < 32 by omega), q_kbt im hk]
  cases (im k).isSome <;> simp [q_b]
theorem q_im79 {τ : k_TW} {im : Nat → Option k_TW} {σ : k_Mem} (h : q_im τ im σ) {k : Nat} (hk : k < 2) : σ 79 k = nI (if (im k).isSome = true then 1 else 0) := by
  have : k = 0 ∨ k = 1 := by omega
  rcases this with rfl | rfl
  · exact h.2.1
  · exact h.2.2.1
theorem o_keep (x : Int32) : q_Op (fun σ => f_X6_keep x σ) (fun σ => f_X7_keep x σ) := by
  intro σ hr
  obtain ⟨τ, im, hR⟩ := hr
  have hR0 := hR
  obtain ⟨hI, hC, hN, hM, him, htp, hsn, hss, hot⟩ := hR
  dsimp only
  unfold f_X6_keep f_X7_keep
  rw [q_gd]
  rcases q_rng x (n := 1) (by omega) with ⟨k, hk, rfl⟩ | hn
  · have hQ := q_rng_t (n := 1) (by omega) hk
    have hk2 : k = 0 ∨ k = 1 := by omega
    rw [if_pos (show 0 ≤ nI k ∧ nI k ≤ 1 from hQ), v_hasImage him (by omega), q_bd]
    have himg : f_X6_imageOf (nI k) σ = some (22 + 8 * k, σ) := by
      unfold f_X6_imageOf
      rcases hk2 with rfl | rfl
      · rw [if_pos (by decide)]
      · rw [if_neg (by decide)]
    have htb : k_isTb (22 + 8 * k) = true := by rcases hk2 with rfl | rfl <;> decide
    obtain ⟨σ1, e1, e2, e3⟩ := v_become (b0 := 22 + 8 * k) (b1 := 6) hI (by omega) hC
    have e3' : ∀ c, c < 22 + 8 * k ∨ 22 + 8 * k + 7 < c → σ1 c = σ c := fun c hc => e3 c (by simp; omega)
    have hcls : ∀ v : Int32, j_X6_keep_24 (nI k) v σ = some (v, k_mset σ1 0 4 (nI (q_kb im) ||| k_shl 1 (nI k))) := fun v => by
      unfold j_X6_keep_24
      rw [himg, q_bd, htb, if_pos rfl, e1, q_bd, e3' 0 (by omega), show σ 0 4 = nI (q_kb im) from him.1]
    have hA : (if q_b (im k).isSome = 0 then j_X6_keep_24 (nI k) 0 σ else j_X6_keep_24 (nI k) 1 σ) = some (q_b (im k).isSome, k_mset σ1 0 4 (nI (q_kb im) ||| k_shl 1 (nI k))) := by
      rw [hcls, hcls]
      simp only [q_b0]
      cases (im k).isSome
      · rw [if_pos rfl]; rfl
      · rw [if_neg (by decide)]; rfl
    rw [hA]
    generalize hσ2 : k_mset σ1 0 4 (nI (q_kb im) ||| k_shl 1 (nI k)) = σ2
    have ev : ∀ c, c < 22 + 8 * k ∨ 22 + 8 * k + 7 < c → c ≠ 0 → σ2 c = σ c := fun c hc h0 => by rw [← hσ2, q_ms_ne _ _ h0, e3' c hc]
    obtain ⟨σ3, g1, g2, g3⟩ := w_copies (p := 0) (q := 50 * (k + 1)) (by omega) (by omega) (by omega) σ2
    refine ⟨_, σ2, k_mset σ3 79 k 1, rfl, ?_, ?_⟩
    · rw [w_in (nI k) 1 (by omega) 1 (by decide), q_bd, if_pos hQ, if_neg q_10, show (50 : Int32) = nI 50 from rfl, show nI k + 1 = nI (k + 1) from nI_1 k, q_mul, show (0 : Int32) = nI 0 from rfl, g1, q_bd, q_inT (show k < 2 by omega) (by omega), if_pos rfl, q_n (by omega), g3 79 (by decide), ev 79 (by omega) (by omega), q_im79 him (show k < 2 by omega)]
      unfold j_X7_keep_37
      rw [q_inT (show k < 2 by omega) (by omega), if_pos rfl, if_pos rfl, q_n (by omega), show vp_nar .boolean 1 = 1 by decide]
      rw [show nI 0 = (0 : Int32) from rfl]
      simp only [q_bo0]
      cases (im k).isSome
      · rw [if_pos rfl]; rfl
      · rw [if_neg (by decide)]; rfl
    · generalize hσ4 : k_mset σ3 79 k 1 = σ4
      have e4 : ∀ c, c < 22 + 8 * k ∨ 22 + 8 * k + 7 < c → c ≠ 0 → c ≠ 68 → c ≠ 79 → σ4 c = σ c := fun c hc h0 h1 h2 => by rw [← hσ4, q_ms_ne _ _ h2, g3 c h1, ev c hc h0]
      have e0 : ∀ i, i ≠ 4 → σ4 0 i = σ 0 i := fun i hi => by rw [← hσ4, q_ms_ne _ _ (by decide), g3 0 (by decide), ← hσ2, q_ms, if_neg (fun h => hi h.2), e3' 0 (by omega)]
      have e68 : ∀ i, σ4 68 i = if 50 * (k + 1) ≤ i ∧ i < 50 * (k + 1) + 50 then σ 68 (i - 50 * (k + 1)) else σ 68 i := fun i => by
        rw [← hσ4, q_ms_ne _ _ (by decide), g2 i, ev 68 (by omega) (by omega), Nat.zero_add]
      have hMk : q_M (50 * (k + 1)) τ σ4 := by
        refine q_M_mk (fun t a ht ha => ?_) (fun a ha => ?_) (fun a ha => ?_) ?_ ?_
        · have := q_H8 hI ha
          rw [e68, if_pos (by omega), show 50 * (k + 1) + 8 * t + a - 50 * (k + 1) = 0 + 8 * t + a by omega]; exact q_Mrow hM ht ha
        · have := q_H8 hI ha
          rw [e68, if_pos (by omega), show 50 * (k + 1) + 32 + a - 50 * (k + 1) = 0 + 32 + a by omega]; exact (hM.1 a ha).2.2.2.2
        · rw [e68, if_pos (by omega), e68, if_pos (by omega), show 50 * (k + 1) + 40 + a - 50 * (k + 1) = 0 + 40 + a by omega, show 50 * (k + 1) + 45 + a - 50 * (k + 1) = 0 + 45 + a by omega]; exact hM.2.1 a ha
        · rw [e68, if_pos (by omega), show 50 * (k + 1) + 44 - 50 * (k + 1) = 0 + 44 by omega]; exact hM.2.2.1
        · rw [e68, if_pos (by omega), show 50 * (k + 1) + 49 - 50 * (k + 1) = 0 + 49 by omega]; exact hM.2.2.2
      refine ⟨τ, fun j => if j = k then some τ else im j, hI, q_C_sm hC (fun c c1 c2 => e4 c (by omega) (by omega) (by omega) (by omega)), q_N_sm hN (e4 67 (by omega) (by omega) (by omega) (by omega)), q_M_of hI hM (fun i _ hi => by rw [e68, if_neg (by omega)]), ⟨?_, ?_, ?_, fun j hj τ' hτ' => ?_⟩, ?_, ?_, ?_, ?_⟩
      · rw [← hσ4, q_ms_ne _ _ (by decide), g3 0 (by decide), ← hσ2, q_ms, if_pos ⟨rfl, rfl⟩]
        unfold q_kb
        have k1 : ∀ p q : Bool, nI ((if p = true then 1 else 0) + if q = true then 2 else 0) ||| k_shl 1 (nI 0) = nI ((if true = true then 1 else 0) + if q = true then 2 else 0) := by decide
        have k2 : ∀ p q : Bool, nI ((if p = true then 1 else 0) + if q = true then 2 else 0) ||| k_shl 1 (nI 1) = nI ((if p = true then 1 else 0) + if true = true then 2 else 0) := by decide
        rcases hk2 with rfl | rfl
        · exact k1 _ _
        · exact k2 _ _
      · rw [← hσ4, q_ms]
        rcases hk2 with rfl | rfl
        · simp; decide
        · rw [if_neg (by omega), g3 79 (by decide), ev 79 (by omega) (by omega)]
          exact him.2.1
      · rw [← hσ4, q_ms]
        rcases hk2 with rfl | rfl
        · rw [if_neg (by omega), g3 79 (by decide), ev 79 (by omega) (by omega)]
          exact him.2.2.1
        · simp; decide
      · by_cases hjk : j = k
        · subst hjk
          dsimp only at hτ'
          rw [if_pos rfl] at hτ'
          cases hτ'
          refine ⟨hI, q_C_sm e2 (fun c c1 c2 => ?_), hMk, rfl, rfl⟩
          rw [← hσ4, q_ms_ne _ _ (by omega), g3 c (by omega), ← hσ2, q_ms_ne _ _ (by omega)]
        · dsimp only at hτ'
          rw [if_neg hjk] at hτ'
          obtain ⟨f1, f2, f3, f4⟩ := him.2.2.2 j hj τ' hτ'
          exact ⟨f1, q_C_sm f2 (fun c c1 c2 => e4 c (by omega) (by omega) (by omega) (by omega)), q_M_of f1 f3 (fun i i1 i2 => by rw [e68, if_neg (by omega)]), f4⟩
      · exact q_tp_of htp (by rw [e4 1 (by omega) (by omega) (by omega) (by omega)]) (by rw [e4 67 (by omega) (by omega) (by omega) (by omega)]) (e4 2 (by omega) (by omega) (by omega) (by omega)) (e4 70 (by omega) (by omega) (by omega) (by omega))
      · exact q_sn_of hsn q_Hmono (by rw [e4 55 (by omega) (by omega) (by omega) (by omega)]) (by rw [e4 67 (by omega) (by omega) (by omega) (by omega)]) (e4 56 (by omega) (by omega) (by omega) (by omega)) (e4 57 (by omega) (by omega) (by omega) (by omega)) (e4 58 (by omega) (by omega) (by omega) (by omega)) (e4 77 (by omega) (by omega) (by omega) (by omega))
      · exact q_ss_of hss (fun c c1 c2 => e4 c (by omega) (by omega) (by omega) (by omega)) (e4 80 (by omega) (by omega) (by omega) (by omega)) (e4 81 (by omega) (by omega) (by omega) (by omega)) (e4 82 (by omega) (by omega) (by omega) (by omega))
      · exact q_ot_of hot (by rw [e4 3 (by omega) (by omega) (by omega) (by omega)]) (by rw [e4 67 (by omega) (by omega) (by omega) (by omega)]) (e0 11 (by omega)) (by rw [e4 67 (by omega) (by omega) (by omega) (by omega)]) (e4 71 (by omega) (by omega) (by omega) (by omega)) (e4 72 (by omega) (by omega) (by omega) (by omega))
  · rw [if_neg (show ¬ (0 ≤ x ∧ x ≤ 1) from hn)]
    refine ⟨_, _, _, rfl, ?_, τ, im, hR0⟩
    rw [w_in x 1 (by omega) 1 (by decide), q_bd, if_neg hn, if_pos rfl]
theorem o_back (x : Int32) : q_Op (fun σ => f_X6_back x σ) (fun σ => f_X7_back x σ) := by
  intro σ hr
  obtain ⟨τ, im, hR⟩ := hr
  have hR0 := hR
  obtain ⟨hI, hC, hN, hM, him, htp, hsn, hss, hot⟩ := hR
  dsimp only
  unfold f_X6_back f_X7_back
  rw [q_gd]
  rcases q_rng x (n := 1) (by omega) with ⟨k, hk, rfl⟩ | hn
  · have hQ := q_rng_t (n := 1) (by omega) hk
    have hk2 : k = 0 ∨ k = 1 := by omega
    rw [if_pos (show 0 ≤ nI k ∧ nI k ≤ 1 from hQ), v_hasImage him (by omega), q_bd]
    simp only [q_b0]
    cases hi : im k with
    | none =>
      rw [if_pos (show (none : Option k_TW).isSome = false from rfl)]
      refine ⟨_, _, _, rfl, ?_, τ, im, hR0⟩
      rw [w_in (nI k) 1 (by omega) 1 (by decide), q_bd, if_pos hQ, if_neg q_10, q_inT (show k < 2 by omega) (by omega), if_pos rfl, q_n (by omega), q_im79 him (show k < 2 by omega), hi, if_pos (by decide)]
    | some τ' =>
      obtain ⟨f1, f2, f3, f4, f5⟩ := him.2.2.2 k (by omega) τ' hi
      have himg : f_X6_imageOf (nI k) σ = some (22 + 8 * k, σ) := by
        unfold f_X6_imageOf
        rcases hk2 with rfl | rfl
        · rw [if_pos (by decide)]
        · rw [if_neg (by decide)]
      have htb : k_isTb (22 + 8 * k) = true := by rcases hk2 with rfl | rfl <;> decide
      obtain ⟨σ1, e1, e2, e3⟩ := v_become (b0 := 6) (b1 := 22 + 8 * k) f1 (by omega) f2
      rw [if_neg (by simp), himg, q_bd, htb, if_pos rfl, e1, q_bd]
      have e3' : ∀ c, c < 6 ∨ 13 < c → σ1 c = σ c := fun c hc => e3 c (by simp; omega)
      obtain ⟨σ3, g1, g2, g3⟩ := w_copies (p := 50 * (k + 1)) (q := 0) (by omega) (by omega) (by omega) σ1
      have e68 : ∀ i, σ3 68 i = if i < 50 then σ 68 (50 * (k + 1) + i) else σ 68 i := fun i => by
        rw [g2 i, e3' 68 (by omega)]
        by_cases h : i < 50
        · rw [if_pos (by omega), if_pos h, Nat.sub_zero]
        · rw [if_neg (by omega), if_neg h]
      have hM3 : q_M 0 τ' σ3 := by
        refine q_M_mk (fun t a ht ha => ?_) (fun a ha => ?_) (fun a ha => ?_) ?_ ?_
        · have := q_H8 f1 ha
          rw [e68, if_pos (by omega), show 50 * (k + 1) + (0 + 8 * t + a) = 50 * (k + 1) + 8 * t + a by omega]; exact q_Mrow f3 ht ha
        · have := q_H8 f1 ha
          rw [e68, if_pos (by omega), show 50 * (k + 1) + (0 + 32 + a) = 50 * (k + 1) + 32 + a by omega]; exact (f3.1 a ha).2.2.2.2
        · rw [e68, if_pos (by omega), e68, if_pos (by omega), show 50 * (k + 1) + (0 + 40 + a) = 50 * (k + 1) + 40 + a by omega, show 50 * (k + 1) + (0 + 45 + a) = 50 * (k + 1) + 45 + a by omega]; exact f3.2.1 a ha
        · rw [e68, if_pos (by omega)]; exact f3.2.2.1
        · rw [e68, if_pos (by omega)]; exact f3.2.2.2
      refine ⟨nI (τ' 7 3), σ1, σ3, by rw [show σ1 6 10 = nI (τ' 7 3) from e2.2.2.2.1], ?_, τ', im, q_Re_t hR0 f4 f5 f1 (q_C_sm e2 (fun c c1 c2 => g3 c (by omega))) hM3 (fun c hc => ?_) (fun i i1 i2 => by rw [e68, if_neg (by omega)])⟩
      · rw [w_in (nI k) 1 (by omega) 1 (by decide), q_bd, if_pos hQ, if_neg q_10, q_inT (show k < 2 by omega) (by omega), if_pos rfl, q_n (by omega), e3' 79 (by omega), q_im79 him (show k < 2 by omega), hi, if_neg (show ¬ nI (if (some τ').isSome = true then 1 else 0) = 0 from (show ¬ nI 1 = 0 by decide)), show (50 : Int32) = nI 50 from rfl, show nI k + 1 = nI (k + 1) from nI_1 k, q_mul, show (0 : Int32) = nI 0 from rfl, g1, q_bd, if_pos (by decide), show k_n 49 = 49 by decide, show σ3 68 49 = nI (τ' 7 3) from hM3.2.2.2]
      · have h68 : c ≠ 68 := fun e => hc (by rw [e]; decide)
        have hc6 : c < 6 ∨ 13 < c := by
          by_cases h : c < 6 ∨ 13 < c
          · exact h
          · exfalso
            have : c = 6 ∨ c = 7 ∨ c = 8 ∨ c = 9 ∨ c = 10 ∨ c = 11 ∨ c = 12 ∨ c = 13 := by omega
            exact hc (by rcases this with rfl | rfl | rfl | rfl | rfl | rfl | rfl | rfl <;> decide)
        rw [g3 c h68, e3' c hc6]
  · rw [if_neg (show ¬ (0 ≤ x ∧ x ≤ 1) from hn)]
    refine ⟨_, _, _, rfl, ?_, τ, im, hR0⟩
    rw [w_in x 1 (by omega) 1 (by decide), q_bd, if_neg hn, if_pos rfl]
