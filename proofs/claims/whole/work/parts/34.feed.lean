/-! PURE: what of the relation stays when some cells change -/
theorem q_M_of {o : Nat} {τ : k_TW} {σ σ1 : k_Mem} (hI : q_I τ) (h : q_M o τ σ) (e : ∀ i, o ≤ i → i < o + 50 → σ1 68 i = σ 68 i) : q_M o τ σ1 := by
  obtain ⟨h1, h2, h3, h4⟩ := h
  refine ⟨fun a ha => ?_, fun a ha => ?_, ?_, ?_⟩
  · have := q_H8 hI ha
    rw [e (o + a) (by omega) (by omega), e (o + 8 + a) (by omega) (by omega), e (o + 16 + a) (by omega) (by omega), e (o + 24 + a) (by omega) (by omega), e (o + 32 + a) (by omega) (by omega)]
    exact h1 a ha
  · rw [e (o + 40 + a) (by omega) (by omega), e (o + 45 + a) (by omega) (by omega)]
    exact h2 a ha
  · rw [e _ (by omega) (by omega)]; exact h3
  · rw [e _ (by omega) (by omega)]; exact h4
theorem q_im_of {τ τ1 : k_TW} {im : Nat → Option k_TW} {σ σ1 : k_Mem} (h : q_im τ im σ) (ht0 : τ1 7 0 = τ 7 0) (ht1 : τ1 7 1 = τ 7 1) (e0 : σ1 0 4 = σ 0 4) (e79 : σ1 79 = σ 79) (e68 : ∀ i, 50 ≤ i → i < 150 → σ1 68 i = σ 68 i) (eC : ∀ k, 22 ≤ k → k ≤ 37 → σ1 k = σ k) : q_im τ1 im σ1 := by
  obtain ⟨g1, g2, g3, g4⟩ := h
  refine ⟨by rw [e0]; exact g1, by rw [e79]; exact g2, by rw [e79]; exact g3, fun k hk τ' ht => ?_⟩
  obtain ⟨f1, f2, f3, f4, f5⟩ := g4 k hk τ' ht
  exact ⟨f1, q_C_sm f2 (fun j j1 j2 => eC j (by omega) (by omega)), q_M_of f1 f3 (fun i i1 i2 => e68 i (by omega) (by omega)), by rw [ht0]; exact f4, by rw [ht1]; exact f5⟩
theorem q_tp_of {σ σ1 : k_Mem} (h : q_tp σ) (e1 : σ1 1 1 = σ 1 1) (e2 : σ1 67 10 = σ 67 10) (e3 : σ1 2 = σ 2) (e4 : σ1 70 = σ 70) : q_tp σ1 := by
  unfold q_tp; rw [e1, e2, e3, e4]; exact h
theorem q_sn_of {τ τ1 : k_TW} {σ σ1 : k_Mem} (h : q_sn τ σ) (hH : ∀ a, q_H τ a = true → q_H τ1 a = true) (e1 : σ1 55 3 = σ 55 3) (e2 : σ1 67 25 = σ 67 25) (e3 : σ1 56 = σ 56) (e4 : σ1 57 = σ 57) (e5 : σ1 58 = σ 58) (e6 : σ1 77 = σ 77) : q_sn τ1 σ1 := by
  unfold q_sn; rw [e1, e2, e3, e4, e5, e6]
  obtain ⟨m, h1, h2, h3, h4⟩ := h
  refine ⟨m, h1, h2, h3, fun i hi => ?_⟩
  obtain ⟨a, t, v, g1, g2⟩ := h4 i hi
  exact ⟨a, t, v, hH a g1, g2⟩
theorem q_ss_of {σ σ1 : k_Mem} (h : q_ss σ) (e : ∀ k, 59 ≤ k → k ≤ 66 → σ1 k = σ k) (e80 : σ1 80 = σ 80) (e81 : σ1 81 = σ 81) (e82 : σ1 82 = σ 82) : q_ss σ1 := by
  intro k hk
  rw [e (59 + 2 * k) (by omega) (by omega), e (60 + 2 * k) (by omega) (by omega), e80, e81, e82]
  exact h k hk
theorem q_ot_of {σ σ1 : k_Mem} (h : q_ot σ) (e1 : σ1 3 2 = σ 3 2) (e2 : σ1 67 11 = σ 67 11) (e3 : σ1 0 11 = σ 0 11) (e4 : σ1 67 32 = σ 67 32) (e5 : σ1 71 = σ 71) (e6 : σ1 72 = σ 72) : q_ot σ1 := by
  unfold q_ot; rw [e1, e2, e3, e4, e5, e6]; exact h
theorem q_nar : ∀ c, c < 128 → vp_nar .byte (Int8.toInt32 (Int32.toInt8 (nI c))) = nI c := by decide +kernel
theorem q_Hmono {τ : k_TW} : ∀ a, q_H τ a = true → q_H τ a = true := fun _ h => h
theorem o_feed (x : Int32) : q_Op (fun σ => f_X6_feed x σ) (fun σ => f_X7_feed x σ) := by
  intro σ hr
  obtain ⟨τ, im, hR⟩ := hr
  have hR0 := hR
  obtain ⟨hI, hC, hN, hM, him, ⟨n, n1, n2, n3, n4⟩, hsn, hss, hot⟩ := hR
  unfold f_X6_feed f_X7_feed f_X4_put
  dsimp only
  rw [show (127 : Int32) = nI 127 from rfl, q_gd]
  rcases q_rng x (n := 127) (by omega) with ⟨c, hc, rfl⟩ | hn
  · rw [if_pos (q_rng_t (by omega) hc), n2, show (160 : Int32) = nI 160 from rfl]
    simp (disch := omega) only [q_lt]
    by_cases h : n < 160
    · rw [if_pos h]
      simp (disch := omega) only [q_inT, eq_self, if_true, q_n, k_ct, q_bd]
      rw [if_neg q_10, q_nar c (by omega)]
      refine ⟨_, _, k_mset (k_mset (k_mset (k_mset σ 2 n (nI c)) 1 1 (nI (n + 1))) 70 n (nI c)) 67 10 (nI (n + 1)), rfl, ?_, ?_⟩
      · rw [w_in (nI c) 127 (by omega) 127 (by decide), q_bd, if_pos (q_rng_t (by omega) hc), if_neg q_10]
        have e1 : (k_mset σ 2 n (nI c)) 1 1 = nI n := by rw [q_ms_ne _ _ (by decide)]; exact n2
        have e2 : (k_mset (k_mset σ 2 n (nI c)) 1 1 ((k_mset σ 2 n (nI c)) 1 1 + 1)) 67 10 = nI n := by rw [q_ms_ne _ _ (by decide), q_ms_ne _ _ (by decide)]; exact n3
        rw [e2]
        simp (disch := omega) only [q_eq, q_inT, eq_self, if_true, q_n]
        rw [if_neg (by omega), e1, show nI n + 1 = nI (n + 1) from nI_1 n]
        rw [q_ms_ne (a := 67) (k := 70) _ _ (by decide), q_ms_ne (a := 67) (k := 1) _ _ (by decide), q_ms_ne (a := 67) (k := 2) _ _ (by decide), n3, show nI n + 1 = nI (n + 1) from nI_1 n]
        rw [q_ms, if_pos ⟨rfl, rfl⟩, q_ms, if_pos ⟨rfl, rfl⟩]
      · generalize hs2 : k_mset (k_mset (k_mset (k_mset σ 2 n (nI c)) 1 1 (nI (n + 1))) 70 n (nI c)) 67 10 (nI (n + 1)) = σ2
        have ev : ∀ k, k ∉ [1, 2, 67, 70] → σ2 k = σ k := fun k hk => by
          simp only [List.mem_cons, List.not_mem_nil, or_false, not_or] at hk
          rw [← hs2, q_ms_ne _ _ hk.2.2.1, q_ms_ne _ _ hk.2.2.2, q_ms_ne _ _ hk.1, q_ms_ne _ _ hk.2.1]
        have e67 : ∀ i, i ≠ 10 → σ2 67 i = σ 67 i := fun i hi => by
          rw [← hs2, q_ms, if_neg (fun h => hi h.2), q_ms_ne _ _ (by decide), q_ms_ne _ _ (by decide), q_ms_ne _ _ (by decide)]
        refine ⟨τ, im, hI, q_C_sm hC (fun k k1 k2 => ev k (by simp; omega)), ?_, q_M_sm hM (ev 68 (by decide)), ?_, ?_, ?_, ?_, ?_⟩
        · unfold q_N; rw [e67 1 (by decide), e67 2 (by decide)]; exact hN
        · exact q_im_of him rfl rfl (by rw [ev 0 (by decide)]) (ev 79 (by decide)) (fun i _ _ => by rw [ev 68 (by decide)]) (fun k k1 k2 => ev k (by simp; omega))
        · refine ⟨n + 1, by omega, ?_, ?_, fun i hi => ?_⟩
          · rw [← hs2, q_ms_ne _ _ (by decide), q_ms_ne _ _ (by decide), q_ms, if_pos ⟨rfl, rfl⟩]
          · rw [← hs2, q_ms, if_pos ⟨rfl, rfl⟩]
          · have a2 : σ2 2 i = if i = n then nI c else σ 2 i := by
              rw [← hs2, q_ms_ne _ _ (by decide), q_ms_ne _ _ (by decide), q_ms_ne _ _ (by decide), q_ms]
              by_cases h : i = n <;> simp [h]
            have a70 : σ2 70 i = if i = n then nI c else σ 70 i := by
              rw [← hs2, q_ms_ne _ _ (by decide), q_ms, q_ms_ne _ _ (by decide), q_ms_ne _ _ (by decide)]
              by_cases h : i = n <;> simp [h]
            rw [a2, a70]
            by_cases h : i = n
            · rw [if_pos h, if_pos h]; exact ⟨c, by omega, rfl, rfl⟩
            · rw [if_neg h, if_neg h]; exact n4 i (by omega)
        · exact q_sn_of hsn q_Hmono (by rw [ev 55 (by decide)]) (e67 25 (by decide)) (ev 56 (by decide)) (ev 57 (by decide)) (ev 58 (by decide)) (ev 77 (by decide))
        · exact q_ss_of hss (fun k k1 k2 => ev k (by simp; omega)) (ev 80 (by decide)) (ev 81 (by decide)) (ev 82 (by decide))
        · exact q_ot_of hot (by rw [ev 3 (by decide)]) (e67 11 (by decide)) (by rw [ev 0 (by decide)]) (e67 32 (by decide)) (ev 71 (by decide)) (ev 72 (by decide))
    · rw [if_neg h, q_bd, if_pos rfl]
      refine ⟨_, _, _, rfl, ?_, τ, im, hR0⟩
      rw [w_in (nI c) 127 (by omega) 127 (by decide), q_bd, if_pos (q_rng_t (by omega) hc), if_neg q_10, n3, if_pos (by rw [show n = 160 by omega])]
  · rw [if_neg hn]
    refine ⟨_, _, _, rfl, ?_, τ, im, hR0⟩
    rw [w_in x 127 (by omega) 127 (by decide), q_bd, if_neg hn, if_pos rfl]
