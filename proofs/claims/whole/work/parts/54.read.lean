/-! PURE: read -/
def q_cd (L x : Int32) (n : Nat) (y : Int32) : Int32 := if L = -1 then 1 else if x = L then (if y < 0 then 2 else if y < nI n then 0 else 2) else 3
theorem v_fat {b n : Nat} {L : Int32} (x y : Int32) {σ : k_Mem} (h1 : σ b 1 = L) (h2 : σ b 2 = nI n) : f_X2_faultAtTwo b x y σ = some (if q_cd L x n y = 0 then q_cd L x n (y + 1) else q_cd L x n y, σ) := by
  unfold f_X2_faultAtTwo
  rw [v_fa, q_bd, v_fa, q_bd, h1, h2]
  change (if q_cd L x n y = 0 then some (q_cd L x n (y + 1), σ) else some (q_cd L x n y, σ)) = _
  split <;> rfl
def q_ln (L M : Int32) : Prop := (L = -1 ∧ M = -4) ∨ ∃ l, l < 3 ∧ L = nI l ∧ M = nI l
theorem w_rd1 {L M f x6 : Int32} {k l2 n m j N : Nat} {σ : k_Mem} (hL : q_ln L M) (hk : k < 4) (hl2 : l2 < 3) (hm : m ≤ 40) (hn : n ≤ 20) (hj : j < 2 * n) (h80 : σ 80 k = M) (h81 : σ 81 k = nI m) (hf : f.toInt64 + (nI j).toInt64 = (f + nI j).toInt64) : l_X7_read_56 (N + 1) (nI k) (nI l2) f (nI n) 0 x6 (nI j) σ = j_X7_read_126 (fun x1 x2 x3 x4 x5 x6 x7 σ => l_X7_read_56 N x1 x2 x3 x4 x5 x6 x7 σ) (nI k) (nI l2) f (nI n) x6 (nI j) (q_cd L (nI l2) m (f + nI j)) σ := by
  rw [l_X7_read_56, show (2 : Int32) = nI 2 from rfl, q_mul, if_neg (nI_ge (by omega) (by omega)), if_pos rfl, q_inT (show k < 4 by omega) (by omega), if_pos rfl, if_pos rfl, q_n (by omega), h80, h81, hf, v_in32 (f + nI j) 0 (nI m - 1) 0 _ (by decide) rfl, q_bd]
  simp only [q_le1 (show m < 2 ^ 30 by omega)]
  unfold q_cd
  rcases hL with ⟨rfl, rfl⟩ | ⟨l, hl, rfl, rfl⟩
  · rw [if_pos rfl, if_pos rfl]
  · rw [if_neg (show ¬ nI l = -4 by rw [q_m4 (by omega)]; exact id), if_neg (show ¬ nI l = -1 by rw [q_m1 (by omega)]; exact id), if_pos trivial]
    by_cases he : nI l = nI l2
    · rw [if_pos he, if_pos he.symm]
      by_cases h0 : f + nI j < 0
      · rw [if_pos h0, if_neg (show ¬ (0 ≤ f + nI j ∧ f + nI j < nI m) from fun h => absurd h.1 (by rw [q_nlt]; exact h0)), if_pos rfl]; rfl
      · rw [if_neg h0]
        rw [q_nle] at h0
        by_cases h1 : f + nI j < nI m
        · rw [if_pos (show 0 ≤ f + nI j ∧ f + nI j < nI m from ⟨h0, h1⟩), if_neg q_10, if_pos h1]
        · rw [if_neg (show ¬ (0 ≤ f + nI j ∧ f + nI j < nI m) from fun h => h1 h.2), if_neg h1, if_pos rfl]; rfl
    · rw [if_neg he, if_neg (fun h => he h.symm)]
theorem w_rd2 {x1 x2 x3 x4 t x6 x7 : Int32} {N : Nat} {σ : k_Mem} (ht : ¬ t = 0) : l_X7_read_56 (N + 1) x1 x2 x3 x4 t x6 x7 σ = some (x6, k_mset σ 67 32 t) := by
  rw [l_X7_read_56]
  unfold j_X7_read_198
  split
  · rfl
  · first | rfl | rw [if_neg ht]
theorem v_rd0 {τ1 : k_TW} {σ : k_Mem} (hI : q_I τ1) (hC : q_C 14 τ1 σ) (t r : Int32) : ∃ σ1, j_X6_read_162 t r σ = some (r, σ1) ∧ q_C 6 τ1 σ1 ∧ (∀ i, σ1 0 i = if i = 11 then t else σ 0 i) ∧ ∀ c, c ≠ 0 → (c < 6 ∨ 21 < c) → σ1 c = σ c := by
  obtain ⟨σ1, e1, e2, e3⟩ := v_become (b0 := 6) (b1 := 14) hI (by omega) hC
  unfold j_X6_read_162
  rw [e1, q_bd]
  refine ⟨_, rfl, q_C_sm e2 (fun c c1 c2 => q_ms_ne _ _ (by omega)), fun i => ?_, fun c h1 h2 => ?_⟩
  · rw [q_ms]
    by_cases h : i = 11
    · rw [if_pos ⟨rfl, h⟩, if_pos h]
    · rw [if_neg (fun g => h g.2), if_neg h, e3 0 (by simp)]
  · rw [q_ms_ne _ _ h1, e3 c (by simp; omega)]
/-- what the class's town becomes -/
def q_ro (o : Option k_TW) (t : Int32) (τ : k_TW) (σ σ1 : k_Mem) : Prop := match o with
  | none => ∀ c, c < 14 ∨ 21 < c → σ1 c = σ c
  | some τ2 => q_I τ2 ∧ τ2 7 0 = τ 7 0 ∧ τ2 7 1 = τ 7 1 ∧ q_C 6 τ2 σ1 ∧ (∀ i, σ1 0 i = if i = 11 then t else σ 0 i) ∧ ∀ c, c ≠ 0 → (c < 6 ∨ 21 < c) → σ1 c = σ c
def q_rm (o : Option k_TW) (t : Int32) (τ : k_TW) (σ σ1 : k_Mem) : Prop := (∀ i, 50 ≤ i → i < 150 → σ1 68 i = σ 68 i) ∧ match o with
  | none => q_M 0 τ σ1 ∧ ∀ c, c ≠ 68 → σ1 c = σ c
  | some τ2 => q_M 0 τ2 σ1 ∧ (∀ i, σ1 67 i = if i = 32 then t else σ 67 i) ∧ ∀ c, c ≠ 67 → c ≠ 68 → σ1 c = σ c
theorem q_rd {τ : k_TW} (hI : q_I τ) {L M f : Int32} {k l2 n sz : Nat} (cl : Nat → Int32) (hL : q_ln L M) (hk : k < 4) (hl2 : l2 < 3) (hsz : sz ≤ 40) (hn : n ≤ 20) :
    ∀ m i τ1, i + m = n → q_I τ1 → τ1 7 0 = τ 7 0 → τ1 7 1 = τ 7 1 → (i = 0 ∨ ∃ g, g < 40 ∧ f = nI g) → ∃ (o : Option k_TW) (t r : Int32),
      (∀ σ N, m < N → q_C 14 τ1 σ → q_C 6 τ σ → σ (59 + 2 * k) 1 = L → σ (59 + 2 * k) 2 = nI sz → (∀ j, j < 40 → σ (59 + 2 * k + 1) j = cl j) → ∃ σ1, l_X6_read_56 N (nI l2) f (nI n) (59 + 2 * k) 0 (nI i) (nI i) σ = some (r, σ1) ∧ q_ro o t τ σ σ1) ∧
      (∀ σ N, 2 * m + 1 < N → q_M 0 τ1 σ → q_M 150 τ σ → q_N τ σ → σ 80 k = M → σ 81 k = nI sz → (∀ j, j < 40 → σ 82 (40 * k + j) = cl j) → ∃ σ1, l_X7_read_56 N (nI k) (nI l2) f (nI n) 0 (nI i) (nI (2 * i)) σ = some (r, σ1) ∧ q_rm o t τ σ σ1) := by
  intro m
  induction m with
  | zero =>
    intro i τ1 hi h1 h2 h3 h4
    refine ⟨some τ1, 0, nI i, fun σ N hN c1 c2 c3 c4 c5 => ?_, fun σ N hN d1 d2 d3 d4 d5 d6 => ?_⟩
    · obtain ⟨N, rfl⟩ : ∃ g, N = g + 1 := ⟨N - 1, by omega⟩
      rw [l_X6_read_56, if_pos (nI_le (by omega) (by omega))]
      obtain ⟨σ1, e1, e2, e3, e4⟩ := v_rd0 h1 c1 0 (nI i)
      exact ⟨σ1, e1, h1, h2, h3, e2, e3, e4⟩
    · obtain ⟨N, rfl⟩ : ∃ g, N = g + 1 := ⟨N - 1, by omega⟩
      rw [l_X7_read_56, show (2 : Int32) = nI 2 from rfl, q_mul, if_pos (nI_le (by omega) (by omega))]
      refine ⟨_, rfl, fun i _ _ => by rw [q_ms_ne _ _ (by decide)], q_M_sm d1 (q_ms_ne _ _ (by decide)), fun i => ?_, fun c c1 c2 => q_ms_ne _ _ c1⟩
      rw [q_ms]
      by_cases h : i = 32
      · rw [if_pos ⟨rfl, h⟩, if_pos h]
      · rw [if_neg (fun g => h g.2), if_neg h]
  | succ m ih =>
    intro i τ1 hi h1 h2 h3 h4
    -- the ends at a fault
    have fend : ∀ (t : Int32), ¬ t = 0 → (if q_cd L (nI l2) sz (f + nI (2 * i)) = 0 then q_cd L (nI l2) sz (f + nI (2 * i) + 1) else q_cd L (nI l2) sz (f + nI (2 * i))) = t → ∀ σ N, m + 1 < N → q_C 14 τ1 σ → q_C 6 τ σ → σ (59 + 2 * k) 1 = L → σ (59 + 2 * k) 2 = nI sz → ∃ σ1, l_X6_read_56 N (nI l2) f (nI n) (59 + 2 * k) 0 (nI i) (nI i) σ = some (nI i, σ1) ∧ q_ro (some τ1) t τ σ σ1 := by
      intro t ht hct σ N hN c1 c2 c3 c4
      obtain ⟨N, rfl⟩ : ∃ g, N = g + 1 := ⟨N - 1, by omega⟩
      rw [l_X6_read_56, if_neg (nI_ge (by omega) (by omega)), show (2 : Int32) = nI 2 from rfl, q_mul, v_fat _ _ c3 c4, q_bd, hct, if_neg ht]
      obtain ⟨σ1, e1, e2, e3, e4⟩ := v_rd0 h1 c1 t (nI i)
      exact ⟨σ1, e1, h1, h2, h3, e2, e3, e4⟩
    have rend : ∀ (t : Int32) (σ : k_Mem), q_M 0 τ1 σ → q_rm (some τ1) t τ σ (k_mset σ 67 32 t) := fun t σ d1 => by
      refine ⟨fun i _ _ => by rw [q_ms_ne _ _ (by decide)], q_M_sm d1 (q_ms_ne _ _ (by decide)), fun i => ?_, fun c c1 c2 => q_ms_ne _ _ c1⟩
      rw [q_ms]
      by_cases h : i = 32
      · rw [if_pos ⟨rfl, h⟩, if_pos h]
      · rw [if_neg (fun g => h g.2), if_neg h]
    have hf0 : f.toInt64 + (nI (2 * i)).toInt64 = (f + nI (2 * i)).toInt64 := by
      rcases h4 with rfl | ⟨g, hg, rfl⟩
      · rw [show nI (2 * 0) = 0 from rfl, Int32.add_zero, show Int32.toInt64 0 = 0 from rfl, Int64.add_zero]
      · rw [q_add]
        apply Int64.toInt_inj.mp
        rw [Int64.toInt_add, Int32.toInt_toInt64, Int32.toInt_toInt64, Int32.toInt_toInt64, nI_toInt (by omega), nI_toInt (by omega), nI_toInt (by omega), Int.bmod]
        split <;> omega
    by_cases hc1 : q_cd L (nI l2) sz (f + nI (2 * i)) = 0
    · -- the first of the two is there
      obtain ⟨g, hg, rfl⟩ : ∃ g, g + 2 * i < sz ∧ f = nI g := by
        have hy : ∃ y, y < sz ∧ f + nI (2 * i) = nI y := by
          unfold q_cd at hc1
          split at hc1
          · exact absurd hc1 (by decide)
          · split at hc1
            · split at hc1
              · exact absurd hc1 (by decide)
              · rename_i h0
                split at hc1
                · rename_i h1
                  rcases q_ix (f + nI (2 * i)) (n := sz) (by omega) with h | h | h
                  · exact absurd h h0
                  · exact absurd h1 (by rw [q_nle]; exact h)
                  · exact h
                · exact absurd hc1 (by decide)
            · exact absurd hc1 (by decide)
        obtain ⟨y, hy, he⟩ := hy
        rcases h4 with rfl | ⟨g, hg, rfl⟩
        · exact ⟨y, by omega, by rw [← he, show nI (2 * 0) = 0 from rfl, Int32.add_zero]⟩
        · rw [q_add, q_eq (by omega) (by omega)] at he
          exact ⟨g, by omega, rfl⟩
      have hf1 : (nI g).toInt64 + (nI (2 * i + 1)).toInt64 = (nI g + nI (2 * i + 1)).toInt64 := by
        rw [q_add]
        apply Int64.toInt_inj.mp
        rw [Int64.toInt_add, Int32.toInt_toInt64, Int32.toInt_toInt64, Int32.toInt_toInt64, nI_toInt (by omega), nI_toInt (by omega), nI_toInt (by omega), Int.bmod]
        split <;> omega
      -- the reference at the second
      have ref1 : ∀ (σ : k_Mem) N, q_M 0 τ1 σ → σ 80 k = M → σ 81 k = nI sz → l_X7_read_56 (N + 2) (nI k) (nI l2) (nI g) (nI n) 0 (nI i) (nI (2 * i)) σ = j_X7_read_126 (fun x1 x2 x3 x4 x5 x6 x7 σ => l_X7_read_56 N x1 x2 x3 x4 x5 x6 x7 σ) (nI k) (nI l2) (nI g) (nI n) (nI i) (nI (2 * i + 1)) (q_cd L (nI l2) sz (nI g + nI (2 * i + 1))) σ := by
        intro σ N d1 d4 d5
        rw [w_rd1 hL hk hl2 hsz hn (by omega) d4 d5 hf0, hc1]
        unfold j_X7_read_126
        rw [if_pos rfl, show (2 : Int32) = nI 2 from rfl, q_rem (by omega) (by omega) (by omega), if_neg (show ¬ nI (2 * i % 2) = (1 : Int32) by rw [show 2 * i % 2 = 0 by omega]; decide)]
        unfold j_X7_read_192
        dsimp only
        rw [show nI (2 * i) + 1 = nI (2 * i + 1) from nI_1 _, w_rd1 hL hk hl2 hsz hn (by omega) d4 d5 hf1]
        rfl
      by_cases hc2 : q_cd L (nI l2) sz (nI g + nI (2 * i + 1)) = 0
      · have hg2 : g + 2 * i + 1 < sz := by
          unfold q_cd at hc2
          split at hc2
          · exact absurd hc2 (by decide)
          · split at hc2
            · split at hc2
              · exact absurd hc2 (by decide)
              · split at hc2
                · rename_i h1
                  rw [q_add, q_lt (by omega) (by omega)] at h1; omega
                · exact absurd hc2 (by decide)
            · exact absurd hc2 (by decide)
        have cls : ∀ σ N, q_C 6 τ σ → σ (59 + 2 * k) 1 = L → σ (59 + 2 * k) 2 = nI sz → (∀ j, j < 40 → σ (59 + 2 * k + 1) j = cl j) → l_X6_read_56 (N + 1) (nI l2) (nI g) (nI n) (59 + 2 * k) 0 (nI i) (nI i) σ = k_bd (f_X5_isHand 6 (cl (g + 2 * i)) σ) (fun r13 σ13 => if r13 = 0 then some (-20 - nI i, σ13) else k_bd (f_X5_isHand 6 (cl (g + 2 * i + 1)) σ13) (fun r15 σ15 => if r15 = 0 then some (-20 - nI i, σ15) else if k_in (cl (g + 2 * i)) 8 = true then l_X6_read_56 N (nI l2) (nI g) (nI n) (59 + 2 * k) 0 (nI (i + 1)) (nI (i + 1)) (k_mset σ15 19 (k_n (cl (g + 2 * i))) (cl (g + 2 * i + 1))) else none)) := by
          intro σ N c2 c3 c4 c5
          rw [l_X6_read_56, if_neg (nI_ge (by omega) (by omega)), show (2 : Int32) = nI 2 from rfl, q_mul, v_fat _ _ c3 c4, q_bd, hc1, if_pos rfl, q_add, show nI (g + 2 * i) + 1 = nI (g + 2 * i + 1) from nI_1 _]
          rw [q_add, show g + (2 * i + 1) = g + 2 * i + 1 by omega] at hc2
          rw [hc2, if_pos rfl, q_inT (show g + 2 * i < 40 by omega) (by omega), q_inT (show g + 2 * i + 1 < 40 by omega) (by omega), if_pos rfl, if_pos rfl, q_n (by omega), q_n (by omega), c5 _ (by omega), c5 _ (by omega), show nI i + 1 = nI (i + 1) from nI_1 _]
        have ref2 : ∀ (σ : k_Mem) N, q_M 0 τ1 σ → σ 80 k = M → σ 81 k = nI sz → (∀ j, j < 40 → σ 82 (40 * k + j) = cl j) → l_X7_read_56 (N + 2) (nI k) (nI l2) (nI g) (nI n) 0 (nI i) (nI (2 * i)) σ = k_bd (f_X7_pens (cl (g + 2 * i)) (cl (g + 2 * i + 1)) σ) (fun r13 σ13 => if 0 ≤ r13 then l_X7_read_56 N (nI k) (nI l2) (nI g) (nI n) 0 (nI (i + 1)) (nI (2 * (i + 1))) σ13 else k_bd (f_X7_copies 150 0 σ13) (fun _ σ15 => some (-20 - nI i, σ15))) := by
          intro σ N d1 d4 d5 d6
          rw [ref1 σ N d1 d4 d5, hc2]
          unfold j_X7_read_126
          rw [if_pos rfl, show (2 : Int32) = nI 2 from rfl, q_rem (by omega) (by omega) (by omega), if_pos (show nI ((2 * i + 1) % 2) = (1 : Int32) by rw [show (2 * i + 1) % 2 = 1 by omega]; rfl), show (40 : Int32) = nI 40 from rfl, q_mul, q_add, q_add, show (1 : Int32) = nI 1 from rfl, q_sub (by omega), q_inT (show 40 * k + g + (2 * i + 1) - 1 < 160 by omega) (by omega), q_inT (show 40 * k + g + (2 * i + 1) < 160 by omega) (by omega), if_pos rfl, if_pos rfl, q_n (by omega), q_n (by omega), show 40 * k + g + (2 * i + 1) - 1 = 40 * k + (g + 2 * i) by omega, show 40 * k + g + (2 * i + 1) = 40 * k + (g + 2 * i + 1) by omega, d6 _ (by omega), d6 _ (by omega)]
          unfold j_X7_read_192
          dsimp only
          rw [q_add, show nI (2 * i + 1) + 1 = nI (2 * i + 1 + 1) from nI_1 _, show 2 * i + 1 + 1 = 2 * (i + 1) by omega]
        -- a two that isn't of hands
        have bad : (∀ σ N, m + 1 < N → q_C 6 τ σ → σ (59 + 2 * k) 1 = L → σ (59 + 2 * k) 2 = nI sz → (∀ j, j < 40 → σ (59 + 2 * k + 1) j = cl j) → l_X6_read_56 N (nI l2) (nI g) (nI n) (59 + 2 * k) 0 (nI i) (nI i) σ = some (-20 - nI i, σ)) → (∀ σ, q_N τ σ → f_X7_pens (cl (g + 2 * i)) (cl (g + 2 * i + 1)) σ = some (-1, σ)) → ∃ (o : Option k_TW) (t r : Int32),
            (∀ σ N, m + 1 < N → q_C 14 τ1 σ → q_C 6 τ σ → σ (59 + 2 * k) 1 = L → σ (59 + 2 * k) 2 = nI sz → (∀ j, j < 40 → σ (59 + 2 * k + 1) j = cl j) → ∃ σ1, l_X6_read_56 N (nI l2) (nI g) (nI n) (59 + 2 * k) 0 (nI i) (nI i) σ = some (r, σ1) ∧ q_ro o t τ σ σ1) ∧
            (∀ σ N, 2 * (m + 1) + 1 < N → q_M 0 τ1 σ → q_M 150 τ σ → q_N τ σ → σ 80 k = M → σ 81 k = nI sz → (∀ j, j < 40 → σ 82 (40 * k + j) = cl j) → ∃ σ1, l_X7_read_56 N (nI k) (nI l2) (nI g) (nI n) 0 (nI i) (nI (2 * i)) σ = some (r, σ1) ∧ q_rm o t τ σ σ1) := by
          intro hb1 hb2
          refine ⟨none, 0, -20 - nI i, fun σ N hN c1 c2 c3 c4 c5 => ⟨σ, hb1 σ N hN c2 c3 c4 c5, fun _ _ => rfl⟩, fun σ N hN d1 d2 d3 d4 d5 d6 => ?_⟩
          obtain ⟨N, rfl⟩ : ∃ g, N = g + 2 := ⟨N - 2, by omega⟩
          rw [ref2 σ N d1 d4 d5 d6, hb2 σ d3, q_bd, if_neg (by decide)]
          obtain ⟨σ3, g1, g2, g3⟩ := w_copies (p := 150) (q := 0) (by omega) (by omega) (by omega) σ
          rw [show (150 : Int32) = nI 150 from rfl, show (0 : Int32) = nI 0 from rfl, g1, q_bd]
          have e68 : ∀ i, i < 50 → σ3 68 i = σ 68 (150 + i) := fun i hi => by rw [g2 i, if_pos (by omega), Nat.sub_zero]
          refine ⟨σ3, rfl, fun j j1 j2 => by rw [g2 j, if_neg (by omega)], ?_, g3⟩
          refine q_M_mk (fun t a ht ha => ?_) (fun a ha => ?_) (fun a ha => ?_) ?_ ?_
          · have := q_H8 hI ha
            rw [e68 _ (by omega), show 150 + (0 + 8 * t + a) = 150 + 8 * t + a by omega]; exact q_Mrow d2 ht ha
          · have := q_H8 hI ha
            rw [e68 _ (by omega), show 150 + (0 + 32 + a) = 150 + 32 + a by omega]; exact (d2.1 a ha).2.2.2.2
          · rw [e68 _ (by omega), e68 _ (by omega), show 150 + (0 + 40 + a) = 150 + 40 + a by omega, show 150 + (0 + 45 + a) = 150 + 45 + a by omega]; exact d2.2.1 a ha
          · rw [e68 _ (by omega)]; exact d2.2.2.1
          · rw [e68 _ (by omega)]; exact d2.2.2.2
        rcases q_hand (cl (g + 2 * i)) (im := fun _ => none) hI with ⟨a, a8, ea, ha⟩ | ⟨n1, n2⟩
        · rcases q_hand (cl (g + 2 * i + 1)) (im := fun _ => none) hI with ⟨p, p8, ep, hp⟩ | ⟨n1, n2⟩
          · have hH : ∀ c, q_H τ1 c = q_H τ c := fun c => q_H_eq h2 h3 c
            have hI2 : q_I (q_up τ1 4 a p) := q_I_up h1 (by omega) ⟨by omega, by omega, by omega, by omega, fun _ => by rw [hH]; exact hp⟩
            obtain ⟨o, t, r, k1, k2⟩ := ih (i + 1) (q_up τ1 4 a p) (by omega) hI2 (by rw [q_up_t (by omega)]; exact h2) (by rw [q_up_t (by omega)]; exact h3) (Or.inr ⟨g, by omega, rfl⟩)
            refine ⟨o, t, r, fun σ N hN c1 c2 c3 c4 c5 => ?_, fun σ N hN d1 d2 d3 d4 d5 d6 => ?_⟩
            · obtain ⟨N, rfl⟩ : ∃ g, N = g + 1 := ⟨N - 1, by omega⟩
              rw [cls σ N c2 c3 c4 c5, ea, ep, v_isH1 hI c2 ha, q_bd, if_neg q_10, v_isH1 hI c2 hp, q_bd, if_neg q_10, q_inT a8 (by omega), if_pos rfl, q_n (by omega)]
              obtain ⟨σ1, e1, e2⟩ := k1 (k_mset σ 19 a (nI p)) N (by omega) (q_C_up (t := 4) c1 (by omega)) (q_C_sm c2 (fun c _ _ => q_ms_ne _ _ (by omega))) (by rw [q_ms_ne _ _ (by omega)]; exact c3) (by rw [q_ms_ne _ _ (by omega)]; exact c4) (fun j hj => by rw [q_ms_ne _ _ (by omega)]; exact c5 j hj)
              refine ⟨σ1, e1, ?_⟩
              cases o with
              | none => exact fun c hc => by rw [e2 c hc, q_ms_ne _ _ (by omega)]
              | some τ2 =>
                obtain ⟨f1, f2, f3, f4, f5, f6⟩ := e2
                exact ⟨f1, f2, f3, f4, fun i => by rw [f5, q_ms_ne _ _ (by omega)], fun c hc hc2 => by rw [f6 c hc hc2, q_ms_ne _ _ (by omega)]⟩
            · obtain ⟨N, rfl⟩ : ∃ g, N = g + 2 := ⟨N - 2, by omega⟩
              have hp1 : f_X7_pens (nI a) (nI p) σ = some (nI (τ1 4 a), k_mset σ 68 (0 + 32 + a) (nI p - nI a)) := by
                unfold f_X7_pens j_X7_pens_22 f_X7_puts
                have e32 : σ 68 (32 + a) = nI (τ1 4 a) - nI a := by
                  have := (d1.1 a (by rw [hH]; exact ha)).2.2.2.2
                  rw [Nat.zero_add] at this; exact this
                rw [w_isH1 hI d3 ha, q_bd, if_neg q_10, w_isH1 hI d3 hp, q_bd, if_neg q_10, if_neg q_10, show (32 : Int32) = nI 32 from rfl, q_add, q_inT (show 32 + a < 250 by omega) (by omega), if_pos rfl, if_pos rfl, q_n (by omega), q_bd, e32, Int32.sub_add_cancel, Nat.zero_add]
              have hv : τ1 4 a < 8 := q_H8 h1 ((h1.2.2.2.2.2.1 a (by rw [hH]; exact ha)).2.2.2.2)
              rw [ref2 σ N d1 d4 d5 d6, ea, ep, hp1, q_bd, if_pos (q_rng_t (n := 8) (by omega) (by omega)).1]
              have d2' : q_M 150 τ (k_mset σ 68 (0 + 32 + a) (nI p - nI a)) := q_M_of hI d2 (fun i i1 i2 => by rw [q_ms, if_neg (by omega)])
              obtain ⟨σ1, e1, e2⟩ := k2 (k_mset σ 68 (0 + 32 + a) (nI p - nI a)) N (by omega) (q_M_pen h1 d1 a8) d2' (q_N_sm d3 (q_ms_ne _ _ (by omega))) (by rw [q_ms_ne _ _ (by omega)]; exact d4) (by rw [q_ms_ne _ _ (by omega)]; exact d5) (fun j hj => by rw [q_ms_ne _ _ (by omega)]; exact d6 j hj)
              refine ⟨σ1, e1, fun j j1 j2 => by rw [e2.1 j j1 j2, q_ms, if_neg (by omega)], ?_⟩
              have e3 := e2.2
              cases o with
              | none => exact ⟨e3.1, fun c hc => by rw [e3.2 c hc, q_ms_ne _ _ hc]⟩
              | some τ2 =>
                obtain ⟨f1, f2, f3⟩ := e3
                exact ⟨f1, fun i => by rw [f2, q_ms_ne _ _ (by omega)], fun c hc hc2 => by rw [f3 c hc hc2, q_ms_ne _ _ hc2]⟩
          · refine bad (fun σ N hN c2 c3 c4 c5 => ?_) (fun σ hNσ => ?_)
            · obtain ⟨N, rfl⟩ : ∃ g, N = g + 1 := ⟨N - 1, by omega⟩
              rw [cls σ N c2 c3 c4 c5, ea, v_isH1 hI c2 ha, q_bd, if_neg q_10, n1 6 σ c2, q_bd, if_pos rfl]
            · unfold f_X7_pens j_X7_pens_21 j_X7_pens_22 f_X7_puts
              rw [ea, w_isH1 hI hNσ ha, q_bd, if_neg q_10, n2 σ hNσ, q_bd, if_pos rfl, if_pos rfl, q_bd]
        · refine bad (fun σ N hN c2 c3 c4 c5 => ?_) (fun σ hNσ => ?_)
          · obtain ⟨N, rfl⟩ : ∃ g, N = g + 1 := ⟨N - 1, by omega⟩
            rw [cls σ N c2 c3 c4 c5, n1 6 σ c2, q_bd, if_pos rfl]
          · unfold f_X7_pens j_X7_pens_21 j_X7_pens_22 f_X7_puts
            rw [n2 σ hNσ, q_bd, if_pos rfl, if_pos rfl, q_bd]
      · -- the second isn't there
        refine ⟨some τ1, q_cd L (nI l2) sz (nI g + nI (2 * i + 1)), nI i, fun σ N hN c1 c2 c3 c4 c5 => fend _ hc2 (by rw [if_pos hc1, Int32.add_assoc, show nI (2 * i) + 1 = nI (2 * i + 1) from nI_1 _]) σ N hN c1 c2 c3 c4, fun σ N hN d1 d2 d3 d4 d5 d6 => ?_⟩
        obtain ⟨N, rfl⟩ : ∃ g, N = g + 3 := ⟨N - 3, by omega⟩
        refine ⟨_, ?_, rend _ σ d1⟩
        rw [ref1 σ (N + 1) d1 d4 d5]
        unfold j_X7_read_126 j_X7_read_192
        rw [if_neg hc2]
        exact w_rd2 hc2
    · -- the first isn't there
      refine ⟨some τ1, q_cd L (nI l2) sz (f + nI (2 * i)), nI i, fun σ N hN c1 c2 c3 c4 c5 => fend _ hc1 (by rw [if_neg hc1]) σ N hN c1 c2 c3 c4, fun σ N hN d1 d2 d3 d4 d5 d6 => ?_⟩
      obtain ⟨N, rfl⟩ : ∃ g, N = g + 2 := ⟨N - 2, by omega⟩
      refine ⟨_, ?_, rend _ σ d1⟩
      rw [w_rd1 hL hk hl2 hsz hn (by omega) d4 d5 hf0]
      unfold j_X7_read_126 j_X7_read_192
      rw [if_neg hc1]
      exact w_rd2 hc1
theorem q_R_torn {τ : k_TW} {im : Nat → Option k_TW} {σ : k_Mem} (h : q_R τ im σ) (t : Int32) : q_R τ im (k_mset (k_mset σ 0 11 t) 67 32 t) := by
  obtain ⟨hI, hC, hN, hM, him, htp, hsn, hss, hot⟩ := h
  have e : ∀ c, c ≠ 0 → c ≠ 67 → k_mset (k_mset σ 0 11 t) 67 32 t c = σ c := fun c h1 h2 => by rw [q_ms_ne _ _ h2, q_ms_ne _ _ h1]
  have e67 : ∀ i, i ≠ 32 → k_mset (k_mset σ 0 11 t) 67 32 t 67 i = σ 67 i := fun i h => by rw [q_ms, if_neg (fun g => h g.2), q_ms_ne _ _ (by decide)]
  have e0 : ∀ i, i ≠ 11 → k_mset (k_mset σ 0 11 t) 67 32 t 0 i = σ 0 i := fun i h => by rw [q_ms_ne _ _ (by decide), q_ms, if_neg (fun g => h g.2)]
  refine ⟨hI, q_C_sm hC (fun c c1 c2 => e c (by omega) (by omega)), ⟨by rw [e67 1 (by omega)]; exact hN.1, by rw [e67 2 (by omega)]; exact hN.2⟩, q_M_sm hM (e 68 (by omega) (by omega)), ?_, ?_, ?_, ?_, ?_⟩
  · exact q_im_of him rfl rfl (e0 4 (by omega)) (e 79 (by omega) (by omega)) (fun i _ _ => by rw [e 68 (by omega) (by omega)]) (fun c c1 c2 => e c (by omega) (by omega))
  · exact q_tp_of htp (by rw [e 1 (by omega) (by omega)]) (e67 10 (by omega)) (e 2 (by omega) (by omega)) (e 70 (by omega) (by omega))
  · exact q_sn_of hsn q_Hmono (by rw [e 55 (by omega) (by omega)]) (e67 25 (by omega)) (e 56 (by omega) (by omega)) (e 57 (by omega) (by omega)) (e 58 (by omega) (by omega)) (e 77 (by omega) (by omega))
  · exact q_ss_of hss (fun c c1 c2 => e c (by omega) (by omega)) (e 80 (by omega) (by omega)) (e 81 (by omega) (by omega)) (e 82 (by omega) (by omega))
  · obtain ⟨h1, h2, h3, h4⟩ := hot
    refine ⟨by rw [e 3 (by omega) (by omega), e67 11 (by omega)]; exact h1, ?_, by rw [e 71 (by omega) (by omega)]; exact h3, by rw [e 72 (by omega) (by omega)]; exact h4⟩
    rw [q_ms_ne _ _ (by decide), q_ms, if_pos ⟨rfl, rfl⟩, q_ms, if_pos ⟨rfl, rfl⟩]
theorem q_tn_no {c : Nat} (hc : c ∉ q_tn) : (c < 6 ∨ 21 < c) ∧ c ≠ 68 := by
  refine ⟨?_, fun e => hc (by rw [e]; decide)⟩
  by_cases h : c < 6 ∨ 21 < c
  · exact h
  · exfalso
    have : c = 6 ∨ c = 7 ∨ c = 8 ∨ c = 9 ∨ c = 10 ∨ c = 11 ∨ c = 12 ∨ c = 13 ∨ c = 14 ∨ c = 15 ∨ c = 16 ∨ c = 17 ∨ c = 18 ∨ c = 19 ∨ c = 20 ∨ c = 21 := by omega
    exact hc (by rcases this with rfl | rfl | rfl | rfl | rfl | rfl | rfl | rfl | rfl | rfl | rfl | rfl | rfl | rfl | rfl | rfl <;> decide)
theorem o_read (x y f z : Int32) : q_Op (fun σ => f_X6_read x y f z σ) (fun σ => f_X7_read x y f z σ) := by
  intro σ hr
  obtain ⟨τ, im, hR⟩ := hr
  have hR0 := hR
  obtain ⟨hI, hC, hN, hM, him, htp, hsn, hss, hot⟩ := hR
  dsimp only
  unfold f_X6_read f_X7_read
  rw [v_isSheet, q_bd]
  rcases q_rng x (n := 3) (by omega) with ⟨k, hk, rfl⟩ | hn
  · have hQ := q_rng_t (n := 3) (by omega) hk
    rw [if_pos hQ, if_neg q_10, v_isLane, q_bd]
    rcases q_rng y (n := 2) (by omega) with ⟨l, hl, rfl⟩ | hn
    · have hQ2 := q_rng_t (n := 2) (by omega) hl
      rw [if_pos hQ2, if_neg q_10, q_gd]
      rcases q_rng z (n := 20) (by omega) with ⟨n, hn, rfl⟩ | hn
      · have hQ3 := q_rng_t (n := 20) (by omega) hn
        rw [if_pos (show 0 ≤ nI n ∧ nI n ≤ 20 from hQ3), q_inT (show k < 4 by omega) (by omega), if_pos rfl, q_n (by omega), q_isSb (by omega), if_pos rfl]
        obtain ⟨g1, ⟨sz, hsz, g2, g3⟩, g4⟩ := hss k (by omega)
        obtain ⟨σ8, e1, e2, e3⟩ := v_become (b0 := 14) (b1 := 6) hI (by omega) hC
        have e3' : ∀ c, c < 14 ∨ 21 < c → σ8 c = σ c := fun c hc => e3 c (by simp; omega)
        rw [e1, q_bd]
        obtain ⟨o, t, r, k1, k2⟩ := q_rd hI (L := σ (59 + 2 * k) 1) (M := σ 80 k) (f := f) (k := k) (l2 := l) (n := n) (sz := sz) (fun j => σ (59 + 2 * k + 1) j) g1 (by omega) (by omega) hsz hn n 0 τ (by omega) hI rfl rfl (Or.inl rfl)
        obtain ⟨σ1, f1, f2⟩ := k1 σ8 1000 (by omega) e2 (q_C_sm hC (fun c _ _ => e3' c (by omega))) (by rw [e3' _ (by omega)]) (by rw [e3' _ (by omega)]; exact g2) (fun j _ => by rw [e3' _ (by omega)])
        have s1 : ∀ c, 21 < c → σ1 c = σ c := fun c hc => by
          cases o with
          | none => rw [f2 c (by omega), e3' c (by omega)]
          | some τ2 => rw [f2.2.2.2.2.2 c (by omega) (by omega), e3' c (by omega)]
        obtain ⟨σ7, c1, c2, c3⟩ := w_copies (p := 0) (q := 150) (by omega) (by omega) (by omega) σ1
        have m68 : ∀ i, i < 50 → σ7 68 (150 + i) = σ 68 i := fun i hi => by rw [c2, if_pos (by omega), s1 68 (by omega), show 0 + (150 + i - 150) = i by omega]
        have m68' : ∀ i, i < 150 → σ7 68 i = σ 68 i := fun i hi => by rw [c2, if_neg (by omega), s1 68 (by omega)]
        have hM1 : q_M 150 τ σ7 := by
          refine q_M_mk (fun t a ht ha => ?_) (fun a ha => ?_) (fun a ha => ?_) ?_ ?_
          · have := q_H8 hI ha
            rw [show 150 + 8 * t + a = 150 + (0 + 8 * t + a) by omega, m68 _ (by omega)]; exact q_Mrow hM ht ha
          · have := q_H8 hI ha
            rw [show 150 + 32 + a = 150 + (0 + 32 + a) by omega, m68 _ (by omega)]; exact (hM.1 a ha).2.2.2.2
          · rw [show 150 + 40 + a = 150 + (0 + 40 + a) by omega, show 150 + 45 + a = 150 + (0 + 45 + a) by omega, m68 _ (by omega), m68 _ (by omega)]; exact hM.2.1 a ha
          · rw [show 150 + 44 = 150 + (0 + 44) by omega, m68 _ (by omega)]; exact hM.2.2.1
          · rw [show 150 + 49 = 150 + (0 + 49) by omega, m68 _ (by omega)]; exact hM.2.2.2
        obtain ⟨σ2, d1, d2⟩ := k2 σ7 1000 (by omega) (q_M_of hI hM (fun i i1 i2 => m68' i (by omega))) hM1 (q_N_sm hN (by rw [c3 67 (by omega), s1 67 (by omega)])) (by rw [c3 80 (by omega), s1 80 (by omega)]) (by rw [c3 81 (by omega), s1 81 (by omega)]; exact g3) (fun j hj => by
          rw [c3 82 (by omega), s1 82 (by omega), ← g4 j hj, show 60 + 2 * k = 59 + 2 * k + 1 by omega])
        refine ⟨r, σ1, σ2, f1, ?_, ?_⟩
        · rw [w_in (nI k) 3 (by omega) 3 (by decide), q_bd, if_pos hQ, if_neg q_10, w_in (nI l) 2 (by omega) 2 (by decide), q_bd, if_pos hQ2, if_neg q_10, w_in (nI n) 20 (by omega) 20 (by decide), q_bd, if_pos hQ3, if_neg q_10]
          rw [show (f_X7_copies 0 150 σ1) = some ((), σ7) from c1, q_bd]
          exact d1
        · cases o with
          | none =>
            refine ⟨τ, im, q_Re_t hR0 rfl rfl hI (q_C_sm hC (fun c h1 h2 => ?_)) d2.2.1 (fun c hc => ?_) (fun i i1 i2 => by rw [d2.1 i i1 i2, m68' i i2])⟩
            · rw [d2.2.2 c (by omega), c3 c (by omega), f2 c (by omega), e3' c (by omega)]
            · obtain ⟨n1, n2⟩ := q_tn_no hc
              rw [d2.2.2 c n2, c3 c n2, f2 c (by omega), e3' c (by omega)]
          | some τ2 =>
            obtain ⟨p1, p2, p3, p4, p5, p6⟩ := f2
            obtain ⟨d0, r1, r2, r3⟩ := d2
            refine ⟨τ2, im, q_Re_t (q_R_torn hR0 t) p2 p3 p1 (q_C_sm p4 (fun c h1 h2 => ?_)) r1 (fun c hc => ?_) (fun i i1 i2 => by rw [d0 i i1 i2, m68' i i2, q_ms_ne _ _ (by decide), q_ms_ne _ _ (by decide)])⟩
            · rw [r3 c (by omega) (by omega), c3 c (by omega)]
            · obtain ⟨n1, n2⟩ := q_tn_no hc
              funext i
              by_cases h67 : c = 67
              · subst h67
                rw [r2 i, q_ms, c3 67 (by omega), s1 67 (by omega)]
                by_cases hi : i = 32
                · rw [if_pos hi, if_pos ⟨rfl, hi⟩]
                · rw [if_neg hi, if_neg (fun g => hi g.2), q_ms_ne _ _ (by decide)]
              · rw [r3 c h67 n2, c3 c n2, q_ms_ne _ _ h67]
                by_cases h0 : c = 0
                · subst h0
                  rw [p5 i, q_ms, e3' 0 (by omega)]
                  by_cases hi : i = 11
                  · rw [if_pos hi, if_pos ⟨rfl, hi⟩]
                  · rw [if_neg hi, if_neg (fun g => hi g.2)]
                · rw [p6 c h0 n1, e3' c (by omega), q_ms_ne _ _ h0]
      · rw [if_neg (show ¬ (0 ≤ z ∧ z ≤ 20) from hn)]
        refine ⟨_, _, _, rfl, ?_, τ, im, hR0⟩
        rw [w_in (nI k) 3 (by omega) 3 (by decide), q_bd, if_pos hQ, if_neg q_10, w_in (nI l) 2 (by omega) 2 (by decide), q_bd, if_pos hQ2, if_neg q_10, w_in z 20 (by omega) 20 (by decide), q_bd, if_neg hn, if_pos rfl]
    · rw [if_neg hn, if_pos rfl]
      refine ⟨_, _, _, rfl, ?_, τ, im, hR0⟩
      rw [w_in (nI k) 3 (by omega) 3 (by decide), q_bd, if_pos hQ, if_neg q_10, w_in y 2 (by omega) 2 (by decide), q_bd, if_neg hn, if_pos rfl]
  · rw [if_neg hn, if_pos rfl]
    refine ⟨_, _, _, rfl, ?_, τ, im, hR0⟩
    rw [w_in x 3 (by omega) 3 (by decide), q_bd, if_neg hn, if_pos rfl]
