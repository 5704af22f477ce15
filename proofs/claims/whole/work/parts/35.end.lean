/-! PURE: end, forget, see -/
theorem o_end (x : Int32) : q_Op (fun σ => f_X6_end x σ) (fun σ => f_X7_end x σ) := by
  intro σ hr
  obtain ⟨τ, im, hR⟩ := hr
  have hR0 := hR
  obtain ⟨hI, hC, hN, hM, him, ⟨n, n1, n2, n3, n4⟩, hsn, hss, hot⟩ := hR
  unfold f_X6_end f_X7_end
  dsimp only
  rw [n2, q_gd]
  rcases q_rng x (n := n) (by omega) with ⟨c, hc, rfl⟩ | hn
  · rw [if_pos (q_rng_t (by omega) hc)]
    refine ⟨_, _, k_mset (k_mset σ 1 1 (nI c)) 67 10 (nI c), rfl, ?_, ?_⟩
    · have e2 : (k_mset σ 1 1 (nI c)) 67 10 = nI n := by rw [q_ms_ne _ _ (by decide)]; exact n3
      rw [e2, w_in (nI c) n (by omega) _ rfl, q_bd, if_pos (q_rng_t (by omega) hc), if_neg q_10, e2]
    · generalize hs2 : k_mset (k_mset σ 1 1 (nI c)) 67 10 (nI c) = σ2
      have ev : ∀ k, k ∉ [1, 67] → σ2 k = σ k := fun k hk => by
        simp only [List.mem_cons, List.not_mem_nil, or_false, not_or] at hk
        rw [← hs2, q_ms_ne _ _ hk.2, q_ms_ne _ _ hk.1]
      have e67 : ∀ i, i ≠ 10 → σ2 67 i = σ 67 i := fun i hi => by
        rw [← hs2, q_ms, if_neg (fun h => hi h.2), q_ms_ne _ _ (by decide)]
      refine ⟨τ, im, hI, q_C_sm hC (fun k k1 k2 => ev k (by simp; omega)), ?_, q_M_sm hM (ev 68 (by decide)), ?_, ?_, ?_, ?_, ?_⟩
      · unfold q_N; rw [e67 1 (by decide), e67 2 (by decide)]; exact hN
      · exact q_im_of him rfl rfl (by rw [ev 0 (by decide)]) (ev 79 (by decide)) (fun i _ _ => by rw [ev 68 (by decide)]) (fun k k1 k2 => ev k (by simp; omega))
      · refine ⟨c, by omega, ?_, ?_, fun i hi => ?_⟩
        · rw [← hs2, q_ms_ne _ _ (by decide), q_ms, if_pos ⟨rfl, rfl⟩]
        · rw [← hs2, q_ms, if_pos ⟨rfl, rfl⟩]
        · rw [ev 2 (by decide), ev 70 (by decide)]; exact n4 i (by omega)
      · exact q_sn_of hsn q_Hmono (by rw [ev 55 (by decide)]) (e67 25 (by decide)) (ev 56 (by decide)) (ev 57 (by decide)) (ev 58 (by decide)) (ev 77 (by decide))
      · exact q_ss_of hss (fun k k1 k2 => ev k (by simp; omega)) (ev 80 (by decide)) (ev 81 (by decide)) (ev 82 (by decide))
      · exact q_ot_of hot (by rw [ev 3 (by decide)]) (e67 11 (by decide)) (by rw [ev 0 (by decide)]) (e67 32 (by decide)) (ev 71 (by decide)) (ev 72 (by decide))
  · rw [if_neg hn]
    refine ⟨_, _, _, rfl, ?_, τ, im, hR0⟩
    rw [n3, w_in x n (by omega) _ rfl, q_bd, if_neg hn, if_pos rfl]
theorem o_forget (x : Int32) : q_Op (fun σ => f_X6_forget x σ) (fun σ => f_X7_forget x σ) := by
  intro σ hr
  obtain ⟨τ, im, hR⟩ := hr
  have hR0 := hR
  obtain ⟨hI, hC, hN, hM, him, htp, ⟨n, n1, n2, n3, n4⟩, hss, hot⟩ := hR
  unfold f_X6_forget f_X7_forget
  dsimp only
  rw [n2, q_gd]
  rcases q_rng x (n := n) (by omega) with ⟨c, hc, rfl⟩ | hn
  · rw [if_pos (q_rng_t (by omega) hc)]
    refine ⟨_, _, k_mset (k_mset σ 55 3 (nI c)) 67 25 (nI c), rfl, ?_, ?_⟩
    · have e2 : (k_mset σ 55 3 (nI c)) 67 25 = nI n := by rw [q_ms_ne _ _ (by decide)]; exact n3
      rw [e2, w_in (nI c) n (by omega) _ rfl, q_bd, if_pos (q_rng_t (by omega) hc), if_neg q_10, e2]
    · generalize hs2 : k_mset (k_mset σ 55 3 (nI c)) 67 25 (nI c) = σ2
      have ev : ∀ k, k ∉ [55, 67] → σ2 k = σ k := fun k hk => by
        simp only [List.mem_cons, List.not_mem_nil, or_false, not_or] at hk
        rw [← hs2, q_ms_ne _ _ hk.2, q_ms_ne _ _ hk.1]
      have e67 : ∀ i, i ≠ 25 → σ2 67 i = σ 67 i := fun i hi => by
        rw [← hs2, q_ms, if_neg (fun h => hi h.2), q_ms_ne _ _ (by decide)]
      refine ⟨τ, im, hI, q_C_sm hC (fun k k1 k2 => ev k (by simp; omega)), ?_, q_M_sm hM (ev 68 (by decide)), ?_, ?_, ?_, ?_, ?_⟩
      · unfold q_N; rw [e67 1 (by decide), e67 2 (by decide)]; exact hN
      · exact q_im_of him rfl rfl (by rw [ev 0 (by decide)]) (ev 79 (by decide)) (fun i _ _ => by rw [ev 68 (by decide)]) (fun k k1 k2 => ev k (by simp; omega))
      · exact q_tp_of htp (by rw [ev 1 (by decide)]) (e67 10 (by decide)) (ev 2 (by decide)) (ev 70 (by decide))
      · refine ⟨c, by omega, ?_, ?_, fun i hi => ?_⟩
        · rw [← hs2, q_ms_ne _ _ (by decide), q_ms, if_pos ⟨rfl, rfl⟩]
        · rw [← hs2, q_ms, if_pos ⟨rfl, rfl⟩]
        · rw [ev 56 (by decide), ev 57 (by decide), ev 58 (by decide), ev 77 (by decide)]; exact n4 i (by omega)
      · exact q_ss_of hss (fun k k1 k2 => ev k (by simp; omega)) (ev 80 (by decide)) (ev 81 (by decide)) (ev 82 (by decide))
      · exact q_ot_of hot (by rw [ev 3 (by decide)]) (e67 11 (by decide)) (by rw [ev 0 (by decide)]) (e67 32 (by decide)) (ev 71 (by decide)) (ev 72 (by decide))
  · rw [if_neg hn]
    refine ⟨_, _, _, rfl, ?_, τ, im, hR0⟩
    rw [n3, w_in x n (by omega) _ rfl, q_bd, if_neg hn, if_pos rfl]
theorem o_see (x y z : Int32) : q_Op (fun σ => f_X6_see x y z σ) (fun σ => f_X7_see x y z σ) := by
  intro σ hr
  obtain ⟨τ, im, hR⟩ := hr
  have hR0 := hR
  obtain ⟨hI, hC, hN, hM, him, htp, ⟨n, n1, n2, n3, n4⟩, hss, hot⟩ := hR
  unfold f_X6_see f_X7_see f_X3_add
  dsimp only
  rcases q_hand x (im := im) hI with ⟨a, a8, rfl, ha⟩ | ⟨h1, h2⟩
  · rw [v_isH1 hI hC ha, q_bd, if_neg q_10, v_isTrait, q_bd]
    rcases q_rng y (n := 2) (by omega) with ⟨t, ht, rfl⟩ | hn
    · rw [if_pos (q_rng_t (by omega) ht), if_neg q_10, v_isStrokes, q_bd]
      rcases q_rng z (n := 9) (by omega) with ⟨v, hv, rfl⟩ | hn
      · rw [if_pos (q_rng_t (by omega) hv), if_neg q_10, n2, show (6 : Int32) = nI 6 from rfl]
        have e55 : ∀ (k i : Nat) (v : Int32), k ≠ 55 → ∀ σ', σ' 55 3 = nI n → (k_mset σ' k i v) 55 3 = nI n := fun k i v hk σ' h => by rw [q_ms_ne _ _ (Ne.symm hk)]; exact h
        have e1 := e55 56 n (nI a) (by decide) σ n2
        have e2 := e55 57 n (nI t) (by decide) _ e1
        have e3 := e55 58 n (nI v) (by decide) _ e2
        simp only [q_n (show n < 2 ^ 31 by omega), e1, e2, e3]
        simp (disch := omega) only [q_lt]
        by_cases h : n < 6
        · rw [if_pos h]
          simp only [q_inT h (by omega : 6 < 2 ^ 31), if_true, k_ct, e3, q_bd]
          rw [if_neg q_10, show nI n + 1 = nI (n + 1) from nI_1 n, q_ms, if_pos ⟨rfl, rfl⟩]
          refine ⟨_, _, k_mset (k_mset (k_mset (k_mset (k_mset (k_mset (k_mset (k_mset σ 56 n (nI a)) 57 n (nI t)) 58 n (nI v)) 55 3 (nI (n + 1))) 77 (3 * n) (nI a)) 77 (3 * n + 1) (nI t)) 77 (3 * n + 2) (nI v)) 67 25 (nI (n + 1)), rfl, ?_, ?_⟩
          · generalize hs1 : k_mset (k_mset (k_mset (k_mset σ 56 n (nI a)) 57 n (nI t)) 58 n (nI v)) 55 3 (nI (n + 1)) = σ1
            have ev : ∀ k, k ∉ [55, 56, 57, 58] → σ1 k = σ k := fun k hk => by
              simp only [List.mem_cons, List.not_mem_nil, or_false, not_or] at hk
              rw [← hs1, q_ms_ne _ _ hk.1, q_ms_ne _ _ hk.2.2.2, q_ms_ne _ _ hk.2.2.1, q_ms_ne _ _ hk.2.1]
            have hN1 : q_N τ σ1 := q_N_sm hN (ev 67 (by decide))
            have e67 : σ1 67 25 = nI n := by rw [ev 67 (by decide)]; exact n3
            have e77 : ∀ (i : Nat) (v : Int32) σ', σ' 67 25 = nI n → (k_mset σ' 77 i v) 67 25 = nI n := fun i v σ' h => by rw [q_ms_ne _ _ (by decide)]; exact h
            rw [w_isH1 hI hN1 ha, q_bd, if_neg q_10, w_in (nI t) 2 (by omega) 2 (by decide), q_bd, if_pos (q_rng_t (by omega) ht), if_neg q_10, w_in (nI v) 9 (by omega) 9 (by decide), q_bd, if_pos (q_rng_t (by omega) hv), if_neg q_10, e67, show (3 : Int32) = nI 3 from rfl, show (1 : Int32) = nI 1 from rfl, show (2 : Int32) = nI 2 from rfl]
            have f1 := e77 (k_n (nI 3 * nI n)) (nI a) σ1 e67
            have f2 := e77 (k_n (nI 3 * nI n + nI 1)) (nI t) _ f1
            have f3 := e77 (k_n (nI 3 * nI n + nI 2)) (nI v) _ f2
            simp only [q_mul, q_add, q_n (show 3 * n < 2 ^ 31 by omega), q_n (show 3 * n + 1 < 2 ^ 31 by omega), q_n (show 3 * n + 2 < 2 ^ 31 by omega)] at f1 f2 f3
            simp only [f1, f2, f3, q_mul, q_add, q_n (show 3 * n < 2 ^ 31 by omega), q_n (show 3 * n + 1 < 2 ^ 31 by omega), q_n (show 3 * n + 2 < 2 ^ 31 by omega), k_ct, q_inT (show 3 * n < 18 by omega) (by omega : 18 < 2 ^ 31), q_inT (show 3 * n + 1 < 18 by omega) (by omega : 18 < 2 ^ 31), q_inT (show 3 * n + 2 < 18 by omega) (by omega : 18 < 2 ^ 31), if_true, q_eq (show n < 2 ^ 31 by omega) (by omega : 6 < 2 ^ 31)]
            rw [if_neg (by omega), q_ms, if_pos ⟨rfl, rfl⟩]
          · generalize hs2 : k_mset (k_mset (k_mset (k_mset (k_mset (k_mset (k_mset (k_mset σ 56 n (nI a)) 57 n (nI t)) 58 n (nI v)) 55 3 (nI (n + 1))) 77 (3 * n) (nI a)) 77 (3 * n + 1) (nI t)) 77 (3 * n + 2) (nI v)) 67 25 (nI (n + 1)) = σ2
            have ev : ∀ k, k ∉ [55, 56, 57, 58, 67, 77] → σ2 k = σ k := fun k hk => by
              simp only [List.mem_cons, List.not_mem_nil, or_false, not_or] at hk
              obtain ⟨k1, k2, k3, k4, k5, k6⟩ := hk
              rw [← hs2, q_ms_ne _ _ k5, q_ms_ne _ _ k6, q_ms_ne _ _ k6, q_ms_ne _ _ k6, q_ms_ne _ _ k1, q_ms_ne _ _ k4, q_ms_ne _ _ k3, q_ms_ne _ _ k2]
            have e67 : ∀ i, σ2 67 i = if i = 25 then nI (n + 1) else σ 67 i := fun i => by
              rw [← hs2, q_ms]
              by_cases h : i = 25
              · rw [if_pos ⟨rfl, h⟩, if_pos h]
              · rw [if_neg (fun g => h g.2), if_neg h, q_ms_ne _ _ (by decide), q_ms_ne _ _ (by decide), q_ms_ne _ _ (by decide), q_ms_ne _ _ (by decide), q_ms_ne _ _ (by decide), q_ms_ne _ _ (by decide), q_ms_ne _ _ (by decide)]
            refine ⟨τ, im, hI, q_C_sm hC (fun k k1 k2 => ev k (by simp; omega)), ?_, q_M_sm hM (ev 68 (by decide)), ?_, ?_, ?_, ?_, ?_⟩
            · unfold q_N; rw [e67 1, e67 2]; exact hN
            · exact q_im_of him rfl rfl (by rw [ev 0 (by decide)]) (ev 79 (by decide)) (fun i _ _ => by rw [ev 68 (by decide)]) (fun k k1 k2 => ev k (by simp; omega))
            · exact q_tp_of htp (by rw [ev 1 (by decide)]) (e67 10) (ev 2 (by decide)) (ev 70 (by decide))
            · refine ⟨n + 1, by omega, ?_, e67 25, fun i hi => ?_⟩
              · rw [← hs2, q_ms_ne _ _ (by decide), q_ms_ne _ _ (by decide), q_ms_ne _ _ (by decide), q_ms_ne _ _ (by decide), q_ms, if_pos ⟨rfl, rfl⟩]
              · have g56 : σ2 56 i = if i = n then nI a else σ 56 i := by
                  rw [← hs2]; simp [q_ms]
                have g57 : σ2 57 i = if i = n then nI t else σ 57 i := by
                  rw [← hs2]; simp [q_ms]
                have g58 : σ2 58 i = if i = n then nI v else σ 58 i := by
                  rw [← hs2]; simp [q_ms]
                have g77 : ∀ j, σ2 77 j = if j = 3 * n + 2 then nI v else if j = 3 * n + 1 then nI t else if j = 3 * n then nI a else σ 77 j := fun j => by
                  rw [← hs2]; simp [q_ms]
                by_cases h : i = n
                · subst h
                  refine ⟨a, t, v, ha, by omega, by omega, by rw [g56, if_pos rfl], by rw [g57, if_pos rfl], by rw [g58, if_pos rfl], ?_, ?_, ?_⟩
                  · rw [g77, if_neg (by omega), if_neg (by omega), if_pos rfl]
                  · rw [g77, if_neg (by omega), if_pos rfl]
                  · rw [g77, if_pos rfl]
                · rw [g56, g57, g58, if_neg h, if_neg h, if_neg h, g77, g77, g77]
                  rw [if_neg (by omega), if_neg (by omega), if_neg (by omega), if_neg (by omega), if_neg (by omega), if_neg (by omega), if_neg (by omega), if_neg (by omega), if_neg (by omega)]
                  exact n4 i (by omega)
            · exact q_ss_of hss (fun k k1 k2 => ev k (by simp; omega)) (ev 80 (by decide)) (ev 81 (by decide)) (ev 82 (by decide))
            · exact q_ot_of hot (by rw [ev 3 (by decide)]) (e67 11) (by rw [ev 0 (by decide)]) (e67 32) (ev 71 (by decide)) (ev 72 (by decide))
        · rw [if_neg h, q_bd, if_pos rfl]
          refine ⟨_, _, _, rfl, ?_, τ, im, hR0⟩
          rw [w_isH1 hI hN ha, q_bd, if_neg q_10, w_in (nI t) 2 (by omega) 2 (by decide), q_bd, if_pos (q_rng_t (by omega) ht), if_neg q_10, w_in (nI v) 9 (by omega) 9 (by decide), q_bd, if_pos (q_rng_t (by omega) hv), if_neg q_10, n3, if_pos (by rw [show n = 6 by omega])]
      · rw [if_neg hn, if_pos rfl]
        refine ⟨_, _, _, rfl, ?_, τ, im, hR0⟩
        rw [w_isH1 hI hN ha, q_bd, if_neg q_10, w_in (nI t) 2 (by omega) 2 (by decide), q_bd, if_pos (q_rng_t (by omega) ht), if_neg q_10, w_in z 9 (by omega) 9 (by decide), q_bd, if_neg hn, if_pos rfl]
    · rw [if_neg hn, if_pos rfl]
      refine ⟨_, _, _, rfl, ?_, τ, im, hR0⟩
      rw [w_isH1 hI hN ha, q_bd, if_neg q_10, w_in y 2 (by omega) 2 (by decide), q_bd, if_neg hn, if_pos rfl]
  · rw [h1 6 σ hC, q_bd, if_pos rfl]
    refine ⟨_, _, _, rfl, ?_, τ, im, hR0⟩
    rw [h2 σ hN, q_bd, if_pos rfl]
