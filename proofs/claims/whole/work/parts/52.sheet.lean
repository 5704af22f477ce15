/-! PURE: sheet, lay -/
theorem q_ge1 {n : Nat} (hn : n < 2 ^ 30) (x : Int32) : (nI (n + 1) ≤ x) = ¬ (x ≤ nI n) := by
  apply propext
  rw [Int32.le_iff_toInt_le, Int32.le_iff_toInt_le, nI_toInt (by omega), nI_toInt (by omega)]
  omega
theorem q_gd3 {α : Type} {n : Nat} (hn : n < 2 ^ 30) (x : Int32) (A B : α) : (if x < 0 then A else if nI (n + 1) ≤ x then A else B) = if 0 ≤ x ∧ x ≤ nI n then B else A := by
  by_cases h : x < 0
  · rw [if_pos h, if_neg (fun g => by rw [← q_nle] at g; exact g.1 h)]
  · rw [if_neg h]
    rw [q_nle] at h
    by_cases h2 : x ≤ nI n
    · rw [if_neg (by rw [q_ge1 hn]; exact fun g => g h2), if_pos ⟨h, h2⟩]
    · rw [if_pos (by rw [q_ge1 hn]; exact h2), if_neg (fun g => h2 g.2)]
theorem v_isSheet (x : Int32) (σ : k_Mem) : f_X6_isSheet x σ = some (if 0 ≤ x ∧ x ≤ nI 3 then 1 else 0, σ) := by
  unfold f_X6_isSheet
  rw [show (4 : Int32) = nI (3 + 1) from rfl, q_gd3 (by omega)]
  split <;> rfl
theorem v_isLane (x : Int32) (σ : k_Mem) : f_X6_isLane x σ = some (if 0 ≤ x ∧ x ≤ nI 2 then 1 else 0, σ) := by
  unfold f_X6_isLane
  rw [show (3 : Int32) = nI (2 + 1) from rfl, q_gd3 (by omega)]
  split <;> rfl
theorem q_isSb {k : Nat} (hk : k < 4) : k_isSb (59 + 2 * k) = true := by
  have : k = 0 ∨ k = 1 ∨ k = 2 ∨ k = 3 := by omega
  rcases this with rfl | rfl | rfl | rfl <;> decide
/-- what changes is the sheets -/
theorem q_R_ss {τ : k_TW} {im : Nat → Option k_TW} {σ σ1 : k_Mem} (h : q_R τ im σ) (hs : q_ss σ1) (ev : ∀ k, k < 59 ∨ 66 < k → k ≠ 80 → k ≠ 81 → k ≠ 82 → σ1 k = σ k) : q_R τ im σ1 := by
  obtain ⟨hI, hC, hN, hM, him, htp, hsn, hss, hot⟩ := h
  have e : ∀ k, (k < 59 ∨ 66 < k) ∧ k ≠ 80 ∧ k ≠ 81 ∧ k ≠ 82 → σ1 k = σ k := fun k h => ev k h.1 h.2.1 h.2.2.1 h.2.2.2
  refine ⟨hI, q_C_sm hC (fun c c1 c2 => e c (by omega)), q_N_sm hN (e 67 (by omega)), q_M_sm hM (e 68 (by omega)), ?_, ?_, ?_, hs, ?_⟩
  · exact q_im_of him rfl rfl (by rw [e 0 (by omega)]) (e 79 (by omega)) (fun i _ _ => by rw [e 68 (by omega)]) (fun c c1 c2 => e c (by omega))
  · exact q_tp_of htp (by rw [e 1 (by omega)]) (by rw [e 67 (by omega)]) (e 2 (by omega)) (e 70 (by omega))
  · exact q_sn_of hsn q_Hmono (by rw [e 55 (by omega)]) (by rw [e 67 (by omega)]) (e 56 (by omega)) (e 57 (by omega)) (e 58 (by omega)) (e 77 (by omega))
  · exact q_ot_of hot (by rw [e 3 (by omega)]) (by rw [e 67 (by omega)]) (by rw [e 0 (by omega)]) (by rw [e 67 (by omega)]) (e 71 (by omega)) (e 72 (by omega))
theorem o_sheet (x y z : Int32) : q_Op (fun σ => f_X6_sheet x y z σ) (fun σ => f_X7_sheet x y z σ) := by
  intro σ hr
  obtain ⟨τ, im, hR⟩ := hr
  have hR0 := hR
  obtain ⟨hI, hC, hN, hM, him, htp, hsn, hss, hot⟩ := hR
  dsimp only
  unfold f_X6_sheet f_X7_sheet
  rw [v_isSheet, q_bd]
  rcases q_rng x (n := 3) (by omega) with ⟨k, hk, rfl⟩ | hn
  · have hQ := q_rng_t (n := 3) (by omega) hk
    rw [if_pos hQ, if_neg q_10, v_isLane, q_bd]
    rcases q_rng y (n := 2) (by omega) with ⟨l, hl, rfl⟩ | hn
    · have hQ2 := q_rng_t (n := 2) (by omega) hl
      rw [if_pos hQ2, if_neg q_10]
      have ref : ∀ σ', k_bd (f_X7_in (nI k).toInt64 0 3 σ') (fun r1 σ1 => if r1 = 0 then some (-1, σ1) else k_bd (f_X7_in (nI l).toInt64 0 2 σ1) (fun r3 σ3 => if r3 = 0 then some (-1, σ3) else if z ≤ 40 then if 0 ≤ z then if k_in (nI k) 4 = true then if k_in (nI k) 4 = true then l_X7_sheet_56 1000 (nI k) 0 (k_mset (k_mset σ3 80 (k_n (nI k)) (nI l)) 81 (k_n (nI k)) z) else none else none else some (-14, σ3) else some (-1, σ3))) = (if z ≤ 40 then if 0 ≤ z then l_X7_sheet_56 1000 (nI k) (nI 0) (k_mset (k_mset σ' 80 k (nI l)) 81 k z) else some (-14, σ') else some (-1, σ')) := fun σ' => by
        rw [w_in (nI k) 3 (by omega) 3 (by decide), q_bd, if_pos hQ, if_neg q_10, w_in (nI l) 2 (by omega) 2 (by decide), q_bd, if_pos hQ2, if_neg q_10, q_inT (show k < 4 by omega) (by omega), if_pos rfl, if_pos rfl, q_n (by omega)]
        rfl
      by_cases h40 : z ≤ 40
      · rw [if_pos h40]
        by_cases h0 : 0 ≤ z
        · obtain ⟨n, hn, rfl⟩ : ∃ n, n ≤ 40 ∧ z = nI n := by
            rcases q_rng z (n := 40) (by omega) with h | h
            · exact h
            · exact absurd ⟨h0, h40⟩ h
          rw [if_pos h0, q_inT (show k < 4 by omega) (by omega), if_pos rfl, q_n (by omega), q_isSb (by omega), if_pos rfl]
          unfold f_X2_renew
          obtain ⟨σ1, e1, e2, e3⟩ := v_fill (o := 59 + 2 * k + 1) (n := 40) 0 (k_mset (k_mset σ (59 + 2 * k) 1 (nI l)) (59 + 2 * k) 2 (nI n)) (by omega)
          rw [e1, q_bd, q_bd]
          have key : ∀ (m i f : Nat) (σ2 : k_Mem), i + m = 40 → m < f → (∀ j, j < i → σ2 82 (40 * k + j) = 0) → ∃ σ3, l_X7_sheet_56 f (nI k) (nI i) σ2 = some (1, σ3) ∧ (∀ j, j < 40 → σ3 82 (40 * k + j) = 0) ∧ (∀ j, j < 40 * k ∨ 40 * k + 40 ≤ j → σ3 82 j = σ2 82 j) ∧ ∀ c, c ≠ 82 → σ3 c = σ2 c := by
            intro m
            induction m with
            | zero =>
              intro i f σ2 h1 h2 h3
              obtain ⟨f, rfl⟩ : ∃ g, f = g + 1 := ⟨f - 1, by omega⟩
              rw [l_X7_sheet_56, show (40 : Int32) = nI 40 from rfl, if_pos (nI_le (by omega) (by omega))]
              exact ⟨σ2, rfl, fun j hj => h3 j (by omega), fun _ _ => rfl, fun _ _ => rfl⟩
            | succ m ih =>
              intro i f σ2 h1 h2 h3
              obtain ⟨f, rfl⟩ : ∃ g, f = g + 1 := ⟨f - 1, by omega⟩
              rw [l_X7_sheet_56, show (40 : Int32) = nI 40 from rfl, if_neg (nI_ge (by omega) (by omega)), q_mul, q_add, q_inT (show 40 * k + i < 160 by omega) (by omega), if_pos rfl, q_n (by omega), show nI i + 1 = nI (i + 1) from nI_1 i]
              obtain ⟨σ3, f1, f2, f3, f4⟩ := ih (i + 1) f (k_mset σ2 82 (40 * k + i) 0) (by omega) (by omega) (fun j hj => by
                rw [q_ms]
                by_cases h : j = i
                · rw [if_pos ⟨rfl, by omega⟩]
                · rw [if_neg (by omega)]; exact h3 j (by omega))
              exact ⟨σ3, f1, f2, fun j hj => by rw [f3 j hj, q_ms, if_neg (by omega)], fun c hc => by rw [f4 c hc, q_ms_ne _ _ hc]⟩
          obtain ⟨σ3, f1, f2, f3, f4⟩ := key 40 0 1000 (k_mset (k_mset σ1 80 k (nI l)) 81 k (nI n)) (by omega) (by omega) (fun j hj => absurd hj (by omega))
          have ec : ∀ c, c ≠ 59 + 2 * k + 1 → c ≠ 59 + 2 * k → c ≠ 80 → c ≠ 81 → c ≠ 82 → σ3 c = σ c := fun c h1 h2 h3 h4 h5 => by
            rw [f4 c h5, q_ms_ne _ _ h4, q_ms_ne _ _ h3, e3 c h1, q_ms_ne _ _ h2, q_ms_ne _ _ h2]
          refine ⟨_, σ1, σ3, rfl, ?_, τ, im, q_R_ss hR0 ?_ (fun c h1 h2 h3 h4 => ec c (by omega) (by omega) h2 h3 h4)⟩
          · rw [w_in (nI k) 3 (by omega) 3 (by decide), q_bd, if_pos hQ, if_neg q_10, w_in (nI l) 2 (by omega) 2 (by decide), q_bd, if_pos hQ2, if_neg q_10, if_pos h40, if_pos h0, if_pos rfl, if_pos rfl]
            exact f1
          · intro j hj
            by_cases hjk : j = k
            · subst hjk
              have eb : ∀ i, σ3 (59 + 2 * j) i = (k_mset (k_mset σ (59 + 2 * j) 1 (nI l)) (59 + 2 * j) 2 (nI n)) (59 + 2 * j) i := fun i => by
                rw [f4 _ (by omega), q_ms_ne _ _ (by omega), q_ms_ne _ _ (by omega), e3 _ (by omega)]
              refine ⟨Or.inr ⟨l, by omega, ?_, ?_⟩, ⟨n, hn, ?_, ?_⟩, fun i hi => ?_⟩
              · rw [eb, q_ms, if_neg (by omega), q_ms, if_pos ⟨rfl, rfl⟩]
              · rw [f4 80 (by decide), q_ms_ne _ _ (by decide), q_ms, if_pos ⟨rfl, rfl⟩]
              · rw [eb, q_ms, if_pos ⟨rfl, rfl⟩]
              · rw [f4 81 (by decide), q_ms, if_pos ⟨rfl, rfl⟩]
              · rw [f2 i hi, f4 _ (by omega), q_ms_ne _ _ (by omega), q_ms_ne _ _ (by omega), show 60 + 2 * j = 59 + 2 * j + 1 by omega]
                exact e2 i hi
            · obtain ⟨g1, g2, g3⟩ := hss j hj
              rw [ec (59 + 2 * j) (by omega) (by omega) (by omega) (by omega) (by omega), ec (60 + 2 * j) (by omega) (by omega) (by omega) (by omega) (by omega)]
              have x80 : σ3 80 j = σ 80 j := by rw [f4 80 (by decide), q_ms_ne _ _ (by decide), q_ms, if_neg (fun h => hjk h.2), e3 80 (by omega), q_ms_ne _ _ (by omega), q_ms_ne _ _ (by omega)]
              have x81 : σ3 81 j = σ 81 j := by rw [f4 81 (by decide), q_ms, if_neg (fun h => hjk h.2), q_ms_ne _ _ (by decide), e3 81 (by omega), q_ms_ne _ _ (by omega), q_ms_ne _ _ (by omega)]
              rw [x80, x81]
              refine ⟨g1, g2, fun i hi => ?_⟩
              rw [f3 _ (by omega), q_ms_ne _ _ (by decide), q_ms_ne _ _ (by decide), e3 82 (by omega), q_ms_ne _ _ (by omega), q_ms_ne _ _ (by omega)]
              exact g3 i hi
        · rw [if_neg h0]
          refine ⟨_, _, _, rfl, ?_, τ, im, hR0⟩
          rw [ref σ, if_pos h40, if_neg h0]
      · rw [if_neg h40]
        refine ⟨_, _, _, rfl, ?_, τ, im, hR0⟩
        rw [ref σ, if_neg h40]
    · rw [if_neg hn, if_pos rfl]
      refine ⟨_, _, _, rfl, ?_, τ, im, hR0⟩
      rw [w_in (nI k) 3 (by omega) 3 (by decide), q_bd, if_pos hQ, if_neg q_10, w_in y 2 (by omega) 2 (by decide), q_bd, if_neg hn, if_pos rfl]
  · rw [if_neg hn, if_pos rfl]
    refine ⟨_, _, _, rfl, ?_, τ, im, hR0⟩
    rw [w_in x 3 (by omega) 3 (by decide), q_bd, if_neg hn, if_pos rfl]
