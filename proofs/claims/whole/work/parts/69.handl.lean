/-! PURE: a line that tells of a hand, whole -/
section
variable {cb : Nat → Nat} {n p : Nat} {τ : k_TW} {T : Nat}
theorem q_k3 : ∀ k, k < 4 → ¬ (3 : Int32) < nI k := by decide
theorem q_e8 : ∀ j, j < 8 → ¬ (0 ≤ nI j - 8 ∧ nI j - 8 ≤ nI 1) := by decide
theorem q_e8s : ∀ s, s < 2 → nI (8 + s) - 8 = nI s ∧ 0 ≤ nI s ∧ nI s ≤ nI 1 := by decide
/-- the class, a side's name read -/
def q_51 (k s : Nat) (σ : k_Mem) : Option (Int32 × k_Mem) := j_X1_handLine_51 (nI k) (nI s) σ
theorem v_hl (hn : n ≤ 160) (hp : p ≤ n) {σ : k_Mem} (hT : q_TP cb n σ) (h4 : σ 1 4 = nI p) (hD : q_DC τ T σ) (h32 : σ 3 2 = 0) (k : Nat) : ∃ σ1, q_fC σ σ1 ∧ q_TP cb n σ1 ∧ q_TA cb n p σ1 ∧ (∀ c, c ≠ 1 → c ≠ 3 → σ1 c = σ c) ∧ (q_lT cb n p ≠ 1 → f_X1_handLine (nI k) σ = some (0, σ1) ∧ σ1 3 2 = nI (if q_lT cb n p = 4 then 1 else 2) ∧ σ1 3 3 = nI (q_lS cb n p)) ∧ (q_lT cb n p = 1 → σ1 3 = σ 3 ∧ f_X1_handLine (nI k) σ = if q_sp cb n p 8 = true then q_51 k 0 σ1 else if q_sp cb n p 9 = true then q_51 k 1 σ1 else some (0, k_mset (k_mset σ1 3 2 2) 3 3 (σ1 1 3))) := by
  obtain ⟨σ1, e1, e2, e3, e4, e5, e6, e7⟩ := v_follows hn hT hp h4 (t := 1) (by omega)
  have hT1 : q_TP cb n σ1 := q_TP_f hT e3 (e2 2 (by omega) (by omega))
  refine ⟨σ1, ⟨fun k a b _ => e2 k a b, e3, e4 4 (by omega) (by omega)⟩, hT1, e5, e2, fun h => ?_, fun h => ⟨e6 h, ?_⟩⟩
  · unfold f_X1_handLine
    rw [show f_X1_follows 1 σ = _ from e1, q_bd, decide_eq_false h, if_pos (show q_b false = 0 from rfl)]
    exact ⟨rfl, e7 h⟩
  · unfold f_X1_handLine
    rw [show f_X1_follows 1 σ = _ from e1, q_bd, decide_eq_true h, if_neg (show ¬ q_b true = 0 by decide), v_spells hn hp hT1 e5 (w := 4) (k := 8) (by omega) (by decide) (by decide), q_bd]
    unfold j_X1_handLine_42 q_51
    cases h8 : q_sp cb n p 8
    · rw [if_pos (show q_b false = 0 from rfl), v_spells hn hp hT1 e5 (w := 5) (k := 9) (by omega) (by decide) (by decide), q_bd]
      cases h9 : q_sp cb n p 9
      · rw [if_pos (show q_b false = 0 from rfl), q_ref2]; rfl
      · rw [if_neg (show ¬ q_b true = 0 by decide), if_pos (show q_b false = 0 from rfl)]; rfl
    · rw [if_neg (show ¬ q_b true = 0 by decide), if_neg (show ¬ q_b true = 0 by decide)]; rfl
theorem q_line_hand (hn : n ≤ 160) (hp : p ≤ n) (hP : q_PI τ T) {k : Nat} (hk : k ≤ 3) : q_JL cb n p τ T (fun σ => f_X1_handLine (nI k) σ) (fun σ => q_rs (nI k) σ) := by
  obtain ⟨b1, b2, b3, b4, b5⟩ := q_lEn (cb := cb) hp
  by_cases hside : ∃ s, s < 2 ∧ q_sp cb n p (8 + s) = true
  · obtain ⟨s, hs, hsp⟩ := hside
    have hs' : s = 0 ∨ s = 1 := by omega
    have hT1 := q_sp_T hsp
    have hlt := b5 (by omega) (by omega)
    have p1 := hP.1
    have p2 := hP.2.1
    -- the class comes to its side
    have cls1 : ∀ σ, q_TP cb n σ → σ 1 4 = nI p → q_DC τ T σ → σ 3 2 = 0 → ∃ σ1, q_fC σ σ1 ∧ q_TP cb n σ1 ∧ σ1 1 3 = nI (q_lS cb n p) ∧ σ1 1 4 = nI (q_lE cb n p) ∧ q_DC τ T σ1 ∧ σ1 3 2 = 0 ∧ f_X1_handLine (nI k) σ = q_51 k s σ1 := by
      intro σ hT h4 hD h32
      obtain ⟨σ1, e1, e2, e3, e4, e5, e6⟩ := v_hl hn hp hT h4 hD h32 k
      obtain ⟨g1, g2⟩ := e6 hT1
      refine ⟨σ1, e1, e2, e3.2.1, e3.2.2.1 (by omega) (by omega), q_DC_sm hD (fun c c1 c2 => e4 c (by omega) (by omega)) (by rw [g1]), by rw [g1]; exact h32, ?_⟩
      rw [g2]
      rcases hs' with rfl | rfl
      · rw [if_pos hsp]
      · rw [if_neg (by rw [q_sp_u (j := 8) (k := 9) (by omega) (by omega) hsp (by omega)]; decide), if_pos hsp]
    -- the reference too
    have ref1 : ∀ σ, q_MP cb n σ → q_LA cb n p σ → q_DM τ T σ → σ 71 = k_σ0 71 → σ 72 = k_σ0 72 → σ 67 12 = 0 ∧ σ 67 15 = nI (q_lS cb n p) ∧ σ 67 14 = nI (q_lE cb n p) ∧ q_rs (nI k) σ = k_bd (k_bd (j_X7_readHand_30 (nI k) (nI s) σ) (fun _ σ12 => some ((), σ12))) (fun _ σ7 => q_tl σ7) := by
      intro σ hM hA hD h71 h72
      have hA' := hA
      obtain ⟨a1, a2⟩ := hA'
      rw [if_neg (by omega)] at a2
      refine ⟨a2.1, a1, a2.2.2.1, ?_⟩
      rw [q_rs_g hA (by omega)]
      unfold f_X7_readMore f_X7_readHand
      have hfw : q_fw (q_sp cb n p) 10 0 = some (8 + s) := q_fw_k hsp (fun j hj => q_sp_u (by omega) (by omega) hsp (by omega)) 10 0 (by omega) (by omega)
      obtain ⟨k1, k2, k3⟩ := q_e8s s hs
      rw [if_neg (q_k3 k (by omega)), w_nameHere hn hp hM h71 h72 (by omega) hA, q_bd, if_pos a2.1, hfw, show q_e4 (some (8 + s)) = nI (8 + s) from rfl, k1, w_in (nI s) 1 (by omega) 1 (by decide), q_bd, if_pos (show 0 ≤ nI s ∧ nI s ≤ nI 1 from ⟨k2, k3⟩), if_neg q_10]
    by_cases hful : τ 7 s < 4
    · -- there is room
      obtain ⟨c1, c2, c3, c4, c5⟩ := q_lEn (cb := cb) b2
      obtain ⟨d1, d2, d3, d4, d5⟩ := q_lEn (cb := cb) c2
      obtain ⟨l1, l2, l3, l4, l5⟩ := q_lEn (cb := cb) d2
      obtain ⟨m1, m2, m3, m4, m5⟩ := q_lEn (cb := cb) l2
      have ha8 : q_sa τ s < 8 := by
        unfold q_sa
        rcases hs' with rfl | rfl
        · rw [if_pos rfl]; omega
        · rw [if_neg (by omega)]; omega
      have cls2 : ∀ σ1, q_DC τ T σ1 → q_51 k s σ1 = k_bd (f_X1_number 0 9 σ1) (fun r12 σ12 => if r12 = (-1) then j_X1_handLine_95 (nI k) (nI s) r12 (-1) σ12 else k_bd (f_X1_number 0 9 σ12) (fun r20 σ20 => j_X1_handLine_95 (nI k) (nI s) r12 r20 σ20)) := by
        intro σ1 hD1
        unfold q_51 j_X1_handLine_51
        rw [v_full38 hP hD1 hs, q_bd, if_pos hful, if_pos rfl]
      have ref2 : ∀ σ, q_MP cb n σ → q_LA cb n p σ → q_DM τ T σ → σ 71 = k_σ0 71 → σ 72 = k_σ0 72 → ∃ σ2, q_fM σ σ2 ∧ q_LA cb n (q_lE cb n p) σ2 ∧ σ2 69 = σ 69 ∧ (∀ j, j < 12 → σ2 67 j = σ 67 j) ∧ q_rs (nI k) σ = k_bd (k_bd (j_X7_readHand_90 (nI k) (nI s) (nI (q_sa τ s)) σ2) (fun _ σ12 => some ((), σ12))) (fun _ σ7 => q_tl σ7) := by
        intro σ hM hA hD h71 h72
        obtain ⟨e1, e2, e3, e4⟩ := ref1 σ hM hA hD h71 h72
        obtain ⟨σ2, f1, f2, f3, f4⟩ := w_step hn hM b2 e1 e3
        refine ⟨σ2, ⟨fun k k1 _ => f3 k k1, fun j hj => f4 j (by omega)⟩, f2, f3 69 (by omega), fun j hj => f4 j (by omega), ?_⟩
        rw [e4]
        unfold j_X7_readHand_30 j_X7_readHand_52 j_X7_readHand_61
        rw [if_pos e1]
        have ne4 : ∀ x, x < 4 → ¬ nI x = 4 := by decide
        rcases hs' with rfl | rfl
        · rw [if_pos (show nI 0 = 0 from rfl), hD.1, if_neg (ne4 _ hful), e1, if_pos (by decide), f1, q_bd, if_pos (show nI 0 = 0 from rfl), f4 4 (by omega), hD.1]; rfl
        · rw [if_neg (show ¬ nI 1 = 0 by decide), hD.2.1, if_neg (ne4 _ hful), e1, if_pos (by decide), f1, q_bd, if_neg (show ¬ nI 1 = 0 by decide), f4 5 (by omega), hD.2.1, show (4 : Int32) = nI 4 from rfl, q_add]; rfl
      have bad : ∀ (c pl : Nat), c ≠ 0 → c < 6 → (∀ σ1, q_TP cb n σ1 → σ1 1 4 = nI (q_lE cb n p) → q_DC τ T σ1 → ∃ σ2, q_51 k s σ1 = some (0, σ2) ∧ q_fC σ1 σ2 ∧ σ2 3 2 = nI c ∧ σ2 3 3 = nI pl) → (∀ σ2, q_MP cb n σ2 → q_LA cb n (q_lE cb n p) σ2 → ∃ σ', j_X7_readHand_90 (nI k) (nI s) (nI (q_sa τ s)) σ2 = some ((), σ') ∧ q_fM σ2 σ' ∧ σ' 67 12 = nI c ∧ σ' 67 13 = nI pl) → q_JL cb n p τ T (fun σ => f_X1_handLine (nI k) σ) (fun σ => q_rs (nI k) σ) := by
        intro c pl hc0 hc6 hA1 hB1
        refine ⟨c, pl, 0, τ, T, hc6, fun h => absurd h hc0, fun σ hT h4 hD h32 => ?_, fun σ hM hA hD h71 h72 => ?_⟩
        · obtain ⟨σ1, e1, e2, e3, e4, e5, e6, e7⟩ := cls1 σ hT h4 hD h32
          obtain ⟨σ2, f1, f2, f3⟩ := hA1 σ1 e2 e4 e5
          exact ⟨0, σ2, by dsimp only; rw [e7, f1], q_fC_tr e1 f2, q_rC_b hc0 f3⟩
        · obtain ⟨σ2, e1, e2, e3, e4, e5⟩ := ref2 σ hM hA hD h71 h72
          obtain ⟨σ', f1, f2, f3⟩ := hB1 σ2 (q_MP_f hM e1) e2
          refine ⟨σ', ?_, q_fM_tr e1 f2, q_rM_b hc0 f3⟩
          dsimp only
          rw [e5, f1, q_bd, q_bd, w_tail_b (c := c) (by omega) (by omega) f3.1]
      have h41 := q_ncd4 (cb := cb) (n := n) (p := q_lE cb n p) (lo := 0) (hi := 9) (t := 0)
      have h42 := q_ncd4 (cb := cb) (n := n) (p := q_lE cb n (q_lE cb n p)) (lo := 0) (hi := 9) (t := 0)
      have h43 := q_ncd4 (cb := cb) (n := n) (p := q_lE cb n (q_lE cb n (q_lE cb n p))) (lo := 0) (hi := 2) (t := 0)
      by_cases hc1 : q_ncd cb n (q_lE cb n p) 0 9 0 = 0
      · by_cases hc2 : q_ncd cb n (q_lE cb n (q_lE cb n p)) 0 9 0 = 0
        · by_cases hc3 : q_ncd cb n (q_lE cb n (q_lE cb n (q_lE cb n p))) 0 2 0 = 0
          · -- all three are there
            obtain ⟨o1, -, w1⟩ := q_nc0 (q_ncd0 hc1).1
            obtain ⟨o2, -, w2⟩ := q_nc0 (q_ncd0 hc2).1
            obtain ⟨o3, -, w3⟩ := q_nc0 (q_ncd0 hc3).1
            have x1 := c5 (by omega) (by omega)
            have x2 := d5 (by omega) (by omega)
            have x3 := l5 (by omega) (by omega)
            refine ⟨q_tc cb n (q_lE cb n (q_lE cb n (q_lE cb n (q_lE cb n p)))), q_lS cb n (q_lE cb n (q_lE cb n (q_lE cb n (q_lE cb n p)))), q_lE cb n (q_lE cb n (q_lE cb n (q_lE cb n (q_lE cb n p)))), q_ua τ s (q_sa τ s) k (q_lV cb n (q_lE cb n p)) (q_lV cb n (q_lE cb n (q_lE cb n p))) (q_lV cb n (q_lE cb n (q_lE cb n (q_lE cb n p)))), T, by unfold q_tc; split <;> (try split) <;> omega, fun _ => ⟨by omega, m2, q_PI_hand hP hs hful hk w1 w2 w3⟩, fun σ hT h4 hD h32 => ?_, fun σ hM hA hD h71 h72 => ?_⟩
            · obtain ⟨σ1, e1, e2, e3, e4, e5, e6, e7⟩ := cls1 σ hT h4 hD h32
              obtain ⟨σ2, f1, f2, f3, f4, f5, f6, -⟩ := v_numok hn b2 e2 e4 (lo := 0) (hi := 9) (t := 0) (by omega) (by omega) hc1
              obtain ⟨σ3, g1, g2, g3, g4, g5, g6, -⟩ := v_numok hn c2 f5 f6 (lo := 0) (hi := 9) (t := 0) (by omega) (by omega) hc2
              obtain ⟨σ4, i1, i2, i3, i4, i5, i6, -⟩ := v_numok hn d2 g5 g6 (lo := 0) (hi := 2) (t := 0) (by omega) (by omega) hc3
              dsimp only
              rw [e7, cls2 σ1 e5, show f_X1_number 0 9 σ1 = _ from f4, q_bd, if_neg (q_nI1 (by omega)), show f_X1_number 0 9 σ2 = _ from g4, q_bd]
              unfold j_X1_handLine_95 j_X1_handLine_113
              rw [if_neg (q_nI1 (by omega)), show f_X1_number 0 2 σ3 = _ from i4, q_bd, if_neg (q_nI1 (by omega))]
              have hD4 : q_DC τ T σ4 := q_DC_sm e5 (fun c c1 c2 => by rw [i2 c (by omega) (by omega), g2 c (by omega) (by omega), f2 c (by omega) (by omega)]) (by rw [i3, g3, f3])
              obtain ⟨σ5, j1, j2, j3, j4, j5⟩ := v_add38 hP hD4 hs hful (k := k) (v1 := q_lV cb n (q_lE cb n p)) (v2 := q_lV cb n (q_lE cb n (q_lE cb n p))) (v3 := q_lV cb n (q_lE cb n (q_lE cb n (q_lE cb n p))))
              rw [j1, q_bd]
              obtain ⟨r, σ6, t1, t2, t3⟩ := v_tail hn l2 (σ := σ5) (q_TP_f i5 (by rw [j3]) (j2.1 2 (by omega) (by omega) (by omega))) (by rw [j3]; exact i6) j5 (by rw [j4, i3, g3, f3]; exact e6)
              exact ⟨r, σ6, t1, q_fC_tr (q_fC_tr e1 f1) (q_fC_tr (q_fC_tr g1 i1) (q_fC_tr j2 t2)), t3⟩
            · obtain ⟨σ2, e1, e2, e3, e4, e5⟩ := ref2 σ hM hA hD h71 h72
              obtain ⟨σ', f1, f2, -, -, -, f6⟩ := w_90 hn b2 (q_MP_f hM e1) e2 (k := k) ha8 hs
              obtain ⟨g1, g2, g3, g4, g5⟩ := f6 hc1 hc2 hc3
              dsimp only
              rw [e5, f1, q_bd, q_bd]
              obtain ⟨σ6, t1, t2, t3⟩ := w_tail hn l2 (σ := σ') (q_MP_f hM (q_fM_tr e1 f2)) g1 (q_DM_hand hP hD hs hful (fun i => by rw [g3 i, e3]) (fun j j1 j2 => by rw [g2 j j1 j2, e4 j (by omega)]) (by rw [g4, e4 4 (by omega)]) (by rw [g5, e4 5 (by omega)]))
              exact ⟨σ6, t1, q_fM_tr (q_fM_tr e1 f2) t2, t3⟩
          · refine bad _ (q_lS cb n (q_lE cb n (q_lE cb n (q_lE cb n p)))) hc3 (by omega) (fun σ1 hT1 h41 hD1 => ?_) (fun σ2 hM2 hA2 => ?_)
            · obtain ⟨σ2, f1, f2, f3, f4, f5, f6, -⟩ := v_numok hn b2 hT1 h41 (lo := 0) (hi := 9) (t := 0) (by omega) (by omega) hc1
              obtain ⟨σ3, g1, g2, g3, g4, g5, g6, -⟩ := v_numok hn c2 f5 f6 (lo := 0) (hi := 9) (t := 0) (by omega) (by omega) hc2
              obtain ⟨σ4, i1, i2, i3⟩ := v_nb0 hn d2 g5 g6 (lo := 0) (hi := 2) (by omega) (by omega) hc3
              have w1 := (q_nc0 (q_ncd0 hc1).1).2.2
              have w2 := (q_nc0 (q_ncd0 hc2).1).2.2
              rw [cls2 σ1 hD1, show f_X1_number 0 9 σ1 = _ from f4, q_bd, if_neg (q_nI1 (by omega)), show f_X1_number 0 9 σ2 = _ from g4, q_bd]
              unfold j_X1_handLine_95 j_X1_handLine_113
              rw [if_neg (q_nI1 (by omega)), show f_X1_number 0 2 σ3 = _ from i2, q_bd, if_pos rfl]
              exact ⟨_, rfl, q_fC_tr f1 (q_fC_tr g1 i1), i3⟩
            · obtain ⟨σ', f1, f2, -, -, f5, -⟩ := w_90 hn b2 hM2 hA2 (k := k) ha8 hs
              exact ⟨σ', f1, f2, f5 hc1 hc2 hc3⟩
        · refine bad _ (q_lS cb n (q_lE cb n (q_lE cb n p))) hc2 (by omega) (fun σ1 hT1 h41 hD1 => ?_) (fun σ2 hM2 hA2 => ?_)
          · obtain ⟨σ2, f1, f2, f3, f4, f5, f6, -⟩ := v_numok hn b2 hT1 h41 (lo := 0) (hi := 9) (t := 0) (by omega) (by omega) hc1
            obtain ⟨σ4, i1, i2, i3⟩ := v_nb0 hn c2 f5 f6 (lo := 0) (hi := 9) (by omega) (by omega) hc2
            have w1 := (q_nc0 (q_ncd0 hc1).1).2.2
            rw [cls2 σ1 hD1, show f_X1_number 0 9 σ1 = _ from f4, q_bd, if_neg (q_nI1 (by omega)), show f_X1_number 0 9 σ2 = _ from i2, q_bd]
            unfold j_X1_handLine_95 j_X1_handLine_113
            rw [if_pos rfl, if_pos rfl]
            exact ⟨_, rfl, q_fC_tr f1 i1, i3⟩
          · obtain ⟨σ', f1, f2, -, f4, -, -⟩ := w_90 hn b2 hM2 hA2 (k := k) ha8 hs
            exact ⟨σ', f1, f2, f4 hc1 hc2⟩
      · refine bad _ (q_lS cb n (q_lE cb n p)) hc1 (by omega) (fun σ1 hT1 h41 hD1 => ?_) (fun σ2 hM2 hA2 => ?_)
        · obtain ⟨σ4, i1, i2, i3⟩ := v_nb0 hn b2 hT1 h41 (lo := 0) (hi := 9) (by omega) (by omega) hc1
          rw [cls2 σ1 hD1, show f_X1_number 0 9 σ1 = _ from i2, q_bd, if_pos rfl]
          unfold j_X1_handLine_95 j_X1_handLine_113
          rw [if_pos rfl, if_pos rfl]
          exact ⟨_, rfl, i1, i3⟩
        · obtain ⟨σ', f1, f2, f3, -⟩ := w_90 hn b2 hM2 hA2 (k := k) ha8 hs
          exact ⟨σ', f1, f2, f3 hc1⟩
    · -- the side is full
      have h4s : τ 7 s = 4 := by rcases hs' with rfl | rfl <;> omega
      refine ⟨5, q_lS cb n p, 0, τ, T, by omega, fun h => by omega, fun σ hT h4 hD h32 => ?_, fun σ hM hA hD h71 h72 => ?_⟩
      · obtain ⟨σ1, e1, e2, e3, e4, e5, e6, e7⟩ := cls1 σ hT h4 hD h32
        dsimp only
        rw [e7]
        unfold q_51 j_X1_handLine_51
        rw [v_full38 hP e5 hs, q_bd, if_neg hful, if_neg q_10, q_ref2]
        exact ⟨_, _, rfl, q_fC_tr e1 (q_fC_tr (q_fC_set (Or.inr ⟨rfl, by omega⟩)) (q_fC_set (Or.inr ⟨rfl, by omega⟩))), q_rC_b (by omega) ⟨by rw [q_ms, if_neg (by omega), q_ms, if_pos ⟨rfl, rfl⟩]; rfl, by rw [q_ms, if_pos ⟨rfl, rfl⟩, e3]⟩⟩
      · obtain ⟨e1, e2, e3, e4⟩ := ref1 σ hM hA hD h71 h72
        dsimp only
        rw [e4]
        unfold j_X7_readHand_30 j_X7_readHand_52
        have h12 : (k_mset (k_mset σ 67 12 5) 67 13 (σ 67 15)) 67 12 = nI 5 := by rw [q_ms, if_neg (by omega), q_ms, if_pos ⟨rfl, rfl⟩]; rfl
        have j61 : j_X7_readHand_61 (nI k) (nI s) (k_mset (k_mset σ 67 12 5) 67 13 (σ 67 15)) = some ((), k_mset (k_mset σ 67 12 5) 67 13 (σ 67 15)) := by
          unfold j_X7_readHand_61
          rw [h12, if_neg (by decide)]
        have e45 : (if nI s = 0 then σ 67 4 else σ 67 5) = 4 := by
          rcases hs' with rfl | rfl
          · rw [if_pos (show nI 0 = 0 from rfl), hD.1, h4s]; rfl
          · rw [if_neg (show ¬ nI 1 = 0 by decide), hD.2.1, h4s]; rfl
        have go : (if nI s = 0 then (if σ 67 4 = 4 then k_bd (f_X7_fails 5 σ) (fun _ σ9 => j_X7_readHand_61 (nI k) (nI s) σ9) else j_X7_readHand_61 (nI k) (nI s) σ) else if σ 67 5 = 4 then k_bd (f_X7_fails 5 σ) (fun _ σ9 => j_X7_readHand_61 (nI k) (nI s) σ9) else j_X7_readHand_61 (nI k) (nI s) σ) = some ((), k_mset (k_mset σ 67 12 5) 67 13 (σ 67 15)) := by
          rw [w_fails e1, q_bd, j61]
          by_cases hs0 : nI s = 0
          · rw [if_pos hs0] at e45 ⊢; rw [if_pos e45]
          · rw [if_neg hs0] at e45 ⊢; rw [if_pos e45]
        rw [if_pos e1, go, q_bd, q_bd, w_tail_b (c := 5) (by omega) (by omega) h12]
        exact ⟨_, rfl, q_fM_tr (q_fM_set (Or.inr ⟨rfl, by omega⟩)) (q_fM_set (Or.inr ⟨rfl, by omega⟩)), q_rM_b (by omega) ⟨h12, by rw [q_ms, if_pos ⟨rfl, rfl⟩, e2]⟩⟩
  · have h8 : q_sp cb n p 8 = false := by
      cases h : q_sp cb n p 8
      · rfl
      · exact absurd ⟨0, by omega, h⟩ hside
    have h9 : q_sp cb n p 9 = false := by
      cases h : q_sp cb n p 9
      · rfl
      · exact absurd ⟨1, by omega, h⟩ hside
    by_cases h4 : q_lT cb n p = 4
    · refine ⟨1, q_lS cb n p, 0, τ, T, by omega, fun h => by omega, fun σ hT h4' hD h32 => ?_, fun σ hM hA hD h71 h72 => ?_⟩
      · obtain ⟨σ1, e1, e2, e3, e4, e5, e6⟩ := v_hl hn hp hT h4' hD h32 k
        obtain ⟨g1, g2, g3⟩ := e5 (by omega)
        rw [if_pos h4] at g2
        exact ⟨0, σ1, g1, e1, q_rC_b (by omega) ⟨g2, g3⟩⟩
      · obtain ⟨g1, g2, g3⟩ := q_rs_b hA h4 (nI k)
        exact ⟨σ, g1, q_fM_rf, q_rM_b (by omega) ⟨g2, g3⟩⟩
    · refine ⟨2, q_lS cb n p, 0, τ, T, by omega, fun h => by omega, fun σ hT h4' hD h32 => ?_, fun σ hM hA hD h71 h72 => ?_⟩
      · obtain ⟨σ1, e1, e2, e3, e4, e5, e6⟩ := v_hl hn hp hT h4' hD h32 k
        by_cases h1 : q_lT cb n p = 1
        · obtain ⟨g1, g2⟩ := e6 h1
          rw [h8, h9, if_neg (by decide), if_neg (by decide)] at g2
          exact ⟨0, _, g2, q_fC_tr e1 (q_fC_tr (q_fC_set (Or.inr ⟨rfl, by omega⟩)) (q_fC_set (Or.inr ⟨rfl, by omega⟩))), q_rC_b (by omega) ⟨by rw [q_ms, if_neg (by omega), q_ms, if_pos ⟨rfl, rfl⟩]; rfl, by rw [q_ms, if_pos ⟨rfl, rfl⟩, e3.2.1]⟩⟩
        · obtain ⟨g1, g2, g3⟩ := e5 h1
          rw [if_neg h4] at g2
          exact ⟨0, σ1, g1, e1, q_rC_b (by omega) ⟨g2, g3⟩⟩
      · have hA' := hA
        obtain ⟨a1, a2⟩ := hA'
        rw [if_neg h4] at a2
        dsimp only
        rw [q_rs_g hA h4]
        unfold f_X7_readMore f_X7_readHand
        have hno : ¬ (0 ≤ q_e4 (q_fw (q_sp cb n p) 10 0) - 8 ∧ q_e4 (q_fw (q_sp cb n p) 10 0) - 8 ≤ nI 1) := by
          rcases q_fw_p (q_sp cb n p) 10 0 with g | ⟨j, j1, j2, j3, j4⟩
          · rw [g]; decide
          · rw [j4]
            have : j < 8 := by
              by_cases hj : j < 8
              · exact hj
              · have : j = 8 ∨ j = 9 := by omega
                rcases this with rfl | rfl
                · rw [h8] at j3; cases j3
                · rw [h9] at j3; cases j3
            exact q_e8 j this
        have h12 : (k_mset (k_mset σ 67 12 2) 67 13 (σ 67 15)) 67 12 = nI 2 := by rw [q_ms, if_neg (by omega), q_ms, if_pos ⟨rfl, rfl⟩]; rfl
        have n12 : ¬ (k_mset (k_mset σ 67 12 2) 67 13 (σ 67 15)) 67 12 = 0 := by rw [h12]; decide
        rw [if_neg (q_k3 k (by omega)), w_nameHere hn hp hM h71 h72 h4 hA, q_bd, if_pos a2.1, w_in _ 1 (by omega) 1 (by decide), q_bd, if_neg hno, if_pos rfl, w_fails a2.1, q_bd]
        unfold j_X7_readHand_30 j_X7_readHand_61
        rw [if_neg n12, h12, if_neg (by decide), q_bd, q_bd, w_tail_b (c := 2) (by omega) (by omega) h12]
        exact ⟨_, rfl, q_fM_tr (q_fM_set (Or.inr ⟨rfl, by omega⟩)) (q_fM_set (Or.inr ⟨rfl, by omega⟩)), q_rM_b (by omega) ⟨h12, by rw [q_ms, if_pos ⟨rfl, rfl⟩, a1]⟩⟩
end
