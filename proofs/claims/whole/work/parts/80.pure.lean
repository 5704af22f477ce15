/-! PURE: the whole law -/
theorem q_Re0 : q_Re k_σ0 := by
  refine ⟨q_t0, fun _ => none, ?_, ?_, ?_, ?_, ?_, ?_, ?_, ?_, ?_⟩
  · refine q_PI_I q_t0_P (fun c hc h => ?_)
    exfalso
    unfold q_NM at h
    rcases h with h | h | h | ⟨x, x1, x2⟩ | ⟨x, x1, x2, x3⟩
    · rw [Nat.zero_testBit] at h; cases h
    · rw [show q_t0 7 2 = 0 from rfl, Nat.zero_testBit] at h; cases h
    · exact h rfl
    · rw [show q_t0 6 x = 0 from rfl, Nat.zero_testBit] at x2; cases x2
    · rw [Nat.zero_testBit] at x2; cases x2
  · refine ⟨rfl, rfl, rfl, rfl, fun a ha => absurd ha (by rw [q_t0_H]; decide), fun a ha => ?_⟩
    have h : ∀ a, a < 8 → k_σ0 12 a = -1 ∧ k_σ0 13 a = 0 := by decide +kernel
    exact h a ha
  · exact ⟨rfl, rfl⟩
  · exact ⟨fun a ha => absurd ha (by rw [q_t0_H]; decide), fun a ha => ⟨rfl, rfl⟩, rfl, rfl⟩
  · exact ⟨rfl, rfl, rfl, fun k hk τ' h => absurd h (by simp)⟩
  · exact ⟨0, by omega, rfl, rfl, fun i hi => absurd hi (by omega)⟩
  · exact ⟨0, by omega, rfl, rfl, fun i hi => absurd hi (by omega)⟩
  · intro k hk
    have : k = 0 ∨ k = 1 ∨ k = 2 ∨ k = 3 := by omega
    rcases this with rfl | rfl | rfl | rfl
    · exact ⟨Or.inl ⟨rfl, by decide⟩, ⟨0, by omega, rfl, rfl⟩, fun i hi => rfl⟩
    · exact ⟨Or.inl ⟨rfl, by decide⟩, ⟨0, by omega, rfl, rfl⟩, fun i hi => rfl⟩
    · exact ⟨Or.inl ⟨rfl, by decide⟩, ⟨0, by omega, rfl, rfl⟩, fun i hi => rfl⟩
    · exact ⟨Or.inl ⟨rfl, by decide⟩, ⟨0, by omega, rfl, rfl⟩, fun i hi => rfl⟩
  · exact ⟨rfl, rfl, rfl, rfl⟩
theorem q_opS {A B : k_Mem → Option (Int32 × k_Mem)} (h : q_Op A B) {σ : k_Mem} (hR : q_Re σ) {K : k_Mem → Option (Int32 × k_Mem)} (hK : ∀ σ2, q_Re σ2 → ∃ σ1, K σ2 = some (1, σ1)) : ∃ σ1, k_bd (A σ) (fun r σ' => k_bd (B σ') (fun r' σ'' => if r = r' then K σ'' else some (0, σ''))) = some (1, σ1) := by
  obtain ⟨r, σ1, σ2, e1, e2, e3⟩ := h σ hR
  rw [e1, q_bd, e2, q_bd, if_pos rfl]
  exact hK σ2 e3
theorem q_opL {A B : k_Mem → Option (Int64 × k_Mem)} (h : q_Op A B) {σ : k_Mem} (hR : q_Re σ) {K : k_Mem → Option (Int32 × k_Mem)} (hK : ∀ σ2, q_Re σ2 → ∃ σ1, K σ2 = some (1, σ1)) : ∃ σ1, k_bd (A σ) (fun r σ' => k_bd (B σ') (fun r' σ'' => if (lg_cmp r r') = 0 then K σ'' else some (0, σ''))) = some (1, σ1) := by
  obtain ⟨r, σ1, σ2, e1, e2, e3⟩ := h σ hR
  rw [e1, q_bd, e2, q_bd, if_pos (by rw [q_cmp_eq])]
  exact hK σ2 e3
theorem q_lp {L : Nat} (hL : L ≤ 320) (xs : Nat → Int32) : ∀ (f j : Nat) (σ : k_Mem), 0 < f → L < j + 5 * f → j ≤ 400 → q_Re σ → ∃ σ1, l_L_law_18 L xs f (nI j) σ = some (1, σ1) := by
  intro f
  induction f with
  | zero => intro j σ h; omega
  | succ f ih =>
    intro j σ _ h2 h3 hR
    rw [l_L_law_18]
    have hlt : ((nI L - 5) < nI j) = (L < j + 5) := by
      apply propext
      rw [Int32.lt_iff_toInt_lt, nI_toInt (by omega), Int32.toInt_sub, nI_toInt (by omega), show (5 : Int32).toInt = 5 from rfl, Int.bmod]
      split <;> omega
    by_cases hend : L < j + 5
    · rw [if_pos (by rw [hlt]; exact hend)]
      exact ⟨σ, rfl⟩
    · have i0 : k_in (nI j) L = true := q_inT (by omega) (by omega)
      have i1 : k_in (nI j + 1) L = true := by rw [show nI j + 1 = nI (j + 1) from nI_1 _]; exact q_inT (by omega) (by omega)
      have i2 : k_in (nI j + 2) L = true := by rw [show (2 : Int32) = nI 2 from rfl, q_add]; exact q_inT (by omega) (by omega)
      have i3 : k_in (nI j + 3) L = true := by rw [show (3 : Int32) = nI 3 from rfl, q_add]; exact q_inT (by omega) (by omega)
      have i4 : k_in (nI j + 4) L = true := by rw [show (4 : Int32) = nI 4 from rfl, q_add]; exact q_inT (by omega) (by omega)
      have hK : ∀ σ2, q_Re σ2 → ∃ σ1, j_L_law_1355 L xs (fun x3 σ => l_L_law_18 L xs f x3 σ) (nI j) σ2 = some (1, σ1) := by
        intro σ2 hR2
        unfold j_L_law_1355
        rw [show (5 : Int32) = nI 5 from rfl, q_add]
        exact ih (j + 5) σ2 (by omega) (by omega) (by omega) hR2
      rw [if_neg (by rw [hlt]; exact hend), if_pos i0]
      unfold j_L_law_493 j_L_law_547 j_L_law_515 j_L_law_574
      generalize hKK : j_L_law_1355 L xs (fun x3 σ => l_L_law_18 L xs f x3 σ) (nI j) = K
      rw [hKK] at hK
      clear hKK ih
      generalize xs (k_n (nI j)) &&& 63 = c
      generalize xs (k_n (nI j + 1)) = a1
      generalize xs (k_n (nI j + 2)) = a2
      generalize xs (k_n (nI j + 3)) = a3
      generalize xs (k_n (nI j + 4)) = a4
      simp only [i1, i2, i3, i4, eq_self, if_true]
      by_cases h0 : c = 0
      · rw [if_pos h0]; exact q_opS (o_feed _) hR hK
      rw [if_neg h0]
      by_cases h1 : c = 1
      · rw [if_pos h1]; exact q_opS (o_end _) hR hK
      rw [if_neg h1]
      by_cases h2 : c = 2
      · rw [if_pos h2]; exact q_opS o_text hR hK
      rw [if_neg h2]
      by_cases h3 : c = 3
      · rw [if_pos h3]; exact q_opS o_fault hR hK
      rw [if_neg h3]
      by_cases h4 : c = 4
      · rw [if_pos h4]; exact q_opS (o_rule _) hR hK
      rw [if_neg h4]
      by_cases h5 : c = 5
      · rw [if_pos h5]; exact q_opS (o_hand _ _) hR hK
      rw [if_neg h5]
      by_cases h6 : c = 6
      · rw [if_pos h6]; exact q_opS (o_page _ _) hR hK
      rw [if_neg h6]
      by_cases h7 : c = 7
      · rw [if_pos h7]; exact q_opS (o_likes _ _) hR hK
      rw [if_neg h7]
      by_cases h8 : c = 8
      · rw [if_pos h8]; exact q_opS (o_rather _ _) hR hK
      rw [if_neg h8]
      by_cases h9 : c = 9
      · rw [if_pos h9]; exact q_opS (o_alter _ _ _) hR hK
      rw [if_neg h9]
      by_cases h10 : c = 10
      · rw [if_pos h10]
        by_cases hz : a2 = 0
        · simp only [if_pos hz]
          exact q_opS (o_run _ _) hR hK
        · simp only [if_neg hz]
          exact q_opS (o_run _ _) hR hK
      rw [if_neg h10]
      by_cases h11 : c = 11
      · rw [if_pos h11]
        by_cases hz : a3 = 0
        · simp only [if_pos hz]
          exact q_opS (o_fold _ _ _) hR hK
        · simp only [if_neg hz]
          exact q_opS (o_fold _ _ _) hR hK
      rw [if_neg h11]
      by_cases h12 : c = 12
      · rw [if_pos h12]; exact q_opS (o_wed _ _) hR hK
      rw [if_neg h12]
      by_cases h13 : c = 13
      · rw [if_pos h13]; exact q_opS (o_part _) hR hK
      rw [if_neg h13]
      by_cases h14 : c = 14
      · rw [if_pos h14]; exact q_opS (o_asked _ _) hR hK
      rw [if_neg h14]
      by_cases h15 : c = 15
      · rw [if_pos h15]; exact q_opS (o_sum _) hR hK
      rw [if_neg h15]
      by_cases h16 : c = 16
      · rw [if_pos h16]; exact q_opS (o_hold _) hR hK
      rw [if_neg h16]
      by_cases h17 : c = 17
      · rw [if_pos h17]; exact q_opS (o_most _) hR hK
      rw [if_neg h17]
      by_cases h18 : c = 18
      · rw [if_pos h18]; exact q_opS (o_quarrel _) hR hK
      rw [if_neg h18]
      by_cases h19 : c = 19
      · rw [if_pos h19]; exact q_opS o_alone hR hK
      rw [if_neg h19]
      by_cases h20 : c = 20
      · rw [if_pos h20]; exact q_opS (o_years _) hR hK
      rw [if_neg h20]
      by_cases h21 : c = 21
      · rw [if_pos h21]; exact q_opS o_alike hR hK
      rw [if_neg h21]
      by_cases h22 : c = 22
      · rw [if_pos h22]; exact q_opS (o_near _) hR hK
      rw [if_neg h22]
      by_cases h23 : c = 23
      · rw [if_pos h23]; exact q_opS (o_forge _ _) hR hK
      rw [if_neg h23]
      by_cases h24 : c = 24
      · rw [if_pos h24]; exact q_opS (o_swap _) hR hK
      rw [if_neg h24]
      by_cases h25 : c = 25
      · rw [if_pos h25]; exact q_opL (o_mean _ _) hR hK
      rw [if_neg h25]
      by_cases h26 : c = 26
      · rw [if_pos h26]; exact q_opL (o_luck _ _ _) hR hK
      rw [if_neg h26]
      by_cases h27 : c = 27
      · rw [if_pos h27]; exact q_opS (o_see _ _ _) hR hK
      rw [if_neg h27]
      by_cases h28 : c = 28
      · rw [if_pos h28]; exact q_opS (o_forget _) hR hK
      rw [if_neg h28]
      by_cases h29 : c = 29
      · rw [if_pos h29]; exact q_opS (o_fits _) hR hK
      rw [if_neg h29]
      by_cases h30 : c = 30
      · rw [if_pos h30]; exact q_opS (o_look _ _) hR hK
      rw [if_neg h30]
      by_cases h31 : c = 31
      · rw [if_pos h31]; exact q_opS (o_drift _ _ _) hR hK
      rw [if_neg h31]
      by_cases h32 : c = 32
      · rw [if_pos h32]; exact q_opS (o_keep _) hR hK
      rw [if_neg h32]
      by_cases h33 : c = 33
      · rw [if_pos h33]; exact q_opS (o_back _) hR hK
      rw [if_neg h33]
      by_cases h34 : c = 34
      · rw [if_pos h34]; exact q_opS (o_sheet _ _ _) hR hK
      rw [if_neg h34]
      by_cases h35 : c = 35
      · rw [if_pos h35]; exact q_opS (o_lay _ _ _) hR hK
      rw [if_neg h35]
      by_cases h36 : c = 36
      · rw [if_pos h36]; exact q_opS (o_read _ _ _ _) hR hK
      rw [if_neg h36]
      by_cases h37 : c = 37
      · rw [if_pos h37]; exact q_opS o_torn hR hK
      rw [if_neg h37]
      by_cases h38 : c = 38
      · rw [if_pos h38]; exact q_opS (o_count _) hR hK
      rw [if_neg h38]
      exact hK σ hR
theorem k_pure (L : Nat) (xs : Nat → Int32) (hL : L ≤ 320) : ∃ σ1, l_L_law_18 L xs 1000 0 k_σ0 = some (1, σ1) := q_lp hL xs 1000 0 k_σ0 (by omega) (by omega) (by omega) q_Re0
