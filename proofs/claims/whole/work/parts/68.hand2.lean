/-! PURE: a line that tells of a hand, both sides -/
section
variable {cb : Nat → Nat} {n p : Nat} {τ : k_TW} {T : Nat}
theorem w_h3 (σ : k_Mem) (r : Int32) {a s : Nat} (ha : a < 8) (hs : s < 2) : ∃ σ', (if k_in (24 + nI a) 50 then (if nI s = 0 then j_X7_readHand_162 (nI s) ((k_mset σ 69 (k_n (24 + nI a)) r) 67 4) 1 (k_mset σ 69 (k_n (24 + nI a)) r) else j_X7_readHand_162 (nI s) ((k_mset σ 69 (k_n (24 + nI a)) r) 67 4) 0 (k_mset σ 69 (k_n (24 + nI a)) r)) else none) = some ((), σ') ∧ q_fM σ σ' ∧ (∀ j, 6 ≤ j → σ' 67 j = σ 67 j) ∧ (∀ i, σ' 69 i = if i = 24 + a then r else σ 69 i) ∧ σ' 67 4 = σ 67 4 + (if s = 0 then 1 else 0) ∧ σ' 67 5 = σ 67 5 + nI s := by
  rw [show (24 : Int32) = nI 24 from rfl, q_add, q_inT (show 24 + a < 50 by omega) (by omega), if_pos rfl, q_n (by omega)]
  have fin : ∀ x : Int32, (j_X7_readHand_162 (nI s) ((k_mset σ 69 (24 + a) r) 67 4) x (k_mset σ 69 (24 + a) r) = some ((), k_mset (k_mset (k_mset σ 69 (24 + a) r) 67 4 (σ 67 4 + x)) 67 5 (σ 67 5 + nI s))) ∧ q_fM σ (k_mset (k_mset (k_mset σ 69 (24 + a) r) 67 4 (σ 67 4 + x)) 67 5 (σ 67 5 + nI s)) ∧ (∀ j, 6 ≤ j → (k_mset (k_mset (k_mset σ 69 (24 + a) r) 67 4 (σ 67 4 + x)) 67 5 (σ 67 5 + nI s)) 67 j = σ 67 j) ∧ (∀ i, (k_mset (k_mset (k_mset σ 69 (24 + a) r) 67 4 (σ 67 4 + x)) 67 5 (σ 67 5 + nI s)) 69 i = if i = 24 + a then r else σ 69 i) ∧ (k_mset (k_mset (k_mset σ 69 (24 + a) r) 67 4 (σ 67 4 + x)) 67 5 (σ 67 5 + nI s)) 67 4 = σ 67 4 + x ∧ (k_mset (k_mset (k_mset σ 69 (24 + a) r) 67 4 (σ 67 4 + x)) 67 5 (σ 67 5 + nI s)) 67 5 = σ 67 5 + nI s := fun x => by
    refine ⟨?_, q_fM_tr (q_fM_tr (q_fM_set (Or.inl rfl)) (q_fM_set (Or.inr ⟨rfl, by omega⟩))) (q_fM_set (Or.inr ⟨rfl, by omega⟩)), fun j hj => by rw [q_ms, if_neg (by omega), q_ms, if_neg (by omega), q_ms_ne _ _ (by decide)], fun i => ?_, by rw [q_ms, if_neg (by omega), q_ms, if_pos ⟨rfl, rfl⟩], by rw [q_ms, if_pos ⟨rfl, rfl⟩]⟩
    · unfold j_X7_readHand_162
      rw [q_ms_ne (a := 67) (k := 69) _ _ (by decide), q_ms (a := 67) (j := 5), if_neg (show ¬ (67 = 67 ∧ 5 = 4) by omega), q_ms_ne (a := 67) (k := 69) _ _ (by decide)]
    · rw [q_ms_ne _ _ (by decide), q_ms_ne _ _ (by decide), q_ms]
      by_cases h : i = 24 + a
      · rw [if_pos ⟨rfl, h⟩, if_pos h]
      · rw [if_neg (fun g => h g.2), if_neg h]
  have hs' : s = 0 ∨ s = 1 := by omega
  rcases hs' with rfl | rfl
  · rw [if_pos (show nI 0 = 0 from rfl)]
    obtain ⟨g1, g2⟩ := fin 1
    exact ⟨_, g1, g2⟩
  · rw [if_neg (show ¬ nI 1 = 0 by decide)]
    obtain ⟨g1, g2⟩ := fin 0
    exact ⟨_, g1, g2⟩
/-- three numbers of a hand, in the reference -/
theorem w_90 (hn : n ≤ 160) (hp : p ≤ n) {σ : k_Mem} (hM : q_MP cb n σ) (hA : q_LA cb n p σ) {k a s : Nat} (ha : a < 8) (hs : s < 2) :
    ∃ σ', j_X7_readHand_90 (nI k) (nI s) (nI a) σ = some ((), σ') ∧ q_fM σ σ' ∧
      (q_ncd cb n p 0 9 0 ≠ 0 → σ' 67 12 = nI (q_ncd cb n p 0 9 0) ∧ σ' 67 13 = nI (q_lS cb n p)) ∧
      (q_ncd cb n p 0 9 0 = 0 → q_ncd cb n (q_lE cb n p) 0 9 0 ≠ 0 → σ' 67 12 = nI (q_ncd cb n (q_lE cb n p) 0 9 0) ∧ σ' 67 13 = nI (q_lS cb n (q_lE cb n p))) ∧
      (q_ncd cb n p 0 9 0 = 0 → q_ncd cb n (q_lE cb n p) 0 9 0 = 0 → q_ncd cb n (q_lE cb n (q_lE cb n p)) 0 2 0 ≠ 0 → σ' 67 12 = nI (q_ncd cb n (q_lE cb n (q_lE cb n p)) 0 2 0) ∧ σ' 67 13 = nI (q_lS cb n (q_lE cb n (q_lE cb n p)))) ∧
      (q_ncd cb n p 0 9 0 = 0 → q_ncd cb n (q_lE cb n p) 0 9 0 = 0 → q_ncd cb n (q_lE cb n (q_lE cb n p)) 0 2 0 = 0 → q_LA cb n (q_lE cb n (q_lE cb n (q_lE cb n p))) σ' ∧ (∀ j, 6 ≤ j → j ≤ 8 → σ' 67 j = σ 67 j) ∧ (∀ i, σ' 69 i = if i = a then nI k else if i = 8 + a then nI (q_lV cb n p) else if i = 16 + a then nI (q_lV cb n (q_lE cb n p)) else if i = 24 + a then nI (q_lV cb n (q_lE cb n (q_lE cb n p))) else σ 69 i) ∧ σ' 67 4 = σ 67 4 + (if s = 0 then 1 else 0) ∧ σ' 67 5 = σ 67 5 + nI s) := by
  obtain ⟨b1, b2, b3, b4, b5⟩ := q_lEn (cb := cb) hp
  obtain ⟨c1, c2, c3, c4, c5⟩ := q_lEn (cb := cb) b2
  unfold j_X7_readHand_90
  rw [q_inT (show a < 50 by omega) (by omega), if_pos rfl, q_n (by omega)]
  generalize hσ0 : k_mset σ 69 a (nI k) = σ0
  have f0 : q_fM σ σ0 := by rw [← hσ0]; exact q_fM_set (Or.inl rfl)
  have z0 : ∀ j, σ0 67 j = σ 67 j := fun j => by rw [← hσ0, q_ms_ne _ _ (by decide)]
  have y0 : ∀ i, σ0 69 i = if i = a then nI k else σ 69 i := fun i => by
    rw [← hσ0, q_ms]
    by_cases h : i = a
    · rw [if_pos ⟨rfl, h⟩, if_pos h]
    · rw [if_neg (fun g => h g.2), if_neg h]
  obtain ⟨σ1, e1, e2, e3, e4, e5⟩ := w_other hn (q_MP_f hM f0) hp (q_LA_sm hA (fun j _ _ => z0 j)) (lo := 0) (hi := 9) (t := 0) (by omega) (by omega) (by omega)
  rw [show f_X7_other 0 9 0 σ0 = _ from e1, q_bd, show (8 : Int32) = nI 8 from rfl, q_add, q_inT (show 8 + a < 50 by omega) (by omega), if_pos rfl, q_n (by omega)]
  have f1 : q_fM σ σ1 := q_fM_tr f0 ⟨fun k k1 _ => e2 k k1, fun j hj => e3 j (by omega)⟩
  by_cases hc1 : q_ncd cb n p 0 9 0 = 0
  · rw [if_pos hc1]
    generalize hσ2 : k_mset σ1 69 (8 + a) (nI (q_lV cb n p)) = σ2
    have f2 : q_fM σ σ2 := by rw [← hσ2]; exact q_fM_tr f1 (q_fM_set (Or.inl rfl))
    have z2 : ∀ j, σ2 67 j = σ1 67 j := fun j => by rw [← hσ2, q_ms_ne _ _ (by decide)]
    have y2 : ∀ i, σ2 69 i = if i = 8 + a then nI (q_lV cb n p) else σ0 69 i := fun i => by
      rw [← hσ2, q_ms]
      by_cases h : i = 8 + a
      · rw [if_pos ⟨rfl, h⟩, if_pos h]
      · rw [if_neg (fun g => h g.2), if_neg h, e2 69 (by decide)]
    obtain ⟨σ3, g1, g2, g3, g4, g5⟩ := w_other hn (q_MP_f hM f2) b2 (q_LA_sm (e4 hc1) (fun j _ _ => z2 j)) (lo := 0) (hi := 9) (t := 0) (by omega) (by omega) (by omega)
    rw [show f_X7_other 0 9 0 σ2 = _ from g1, q_bd, show (16 : Int32) = nI 16 from rfl, q_add, q_inT (show 16 + a < 50 by omega) (by omega), if_pos rfl, q_n (by omega)]
    have f3 : q_fM σ σ3 := q_fM_tr f2 ⟨fun k k1 _ => g2 k k1, fun j hj => g3 j (by omega)⟩
    by_cases hc2 : q_ncd cb n (q_lE cb n p) 0 9 0 = 0
    · rw [if_pos hc2]
      generalize hσ4 : k_mset σ3 69 (16 + a) (nI (q_lV cb n (q_lE cb n p))) = σ4
      have f4 : q_fM σ σ4 := by rw [← hσ4]; exact q_fM_tr f3 (q_fM_set (Or.inl rfl))
      have z4 : ∀ j, σ4 67 j = σ3 67 j := fun j => by rw [← hσ4, q_ms_ne _ _ (by decide)]
      have y4 : ∀ i, σ4 69 i = if i = 16 + a then nI (q_lV cb n (q_lE cb n p)) else σ2 69 i := fun i => by
        rw [← hσ4, q_ms]
        by_cases h : i = 16 + a
        · rw [if_pos ⟨rfl, h⟩, if_pos h]
        · rw [if_neg (fun g => h g.2), if_neg h, g2 69 (by decide)]
      obtain ⟨σ5, k1, k2, k3, k4, k5⟩ := w_other hn (q_MP_f hM f4) c2 (q_LA_sm (g4 hc2) (fun j _ _ => z4 j)) (lo := 0) (hi := 2) (t := 0) (by omega) (by omega) (by omega)
      rw [show f_X7_other 0 2 0 σ4 = _ from k1, q_bd]
      have f5 : q_fM σ σ5 := q_fM_tr f4 ⟨fun k k1 _ => k2 k k1, fun j hj => k3 j (by omega)⟩
      obtain ⟨σ', l1, l2, l3, l4, l5, l6⟩ := w_h3 σ5 (if q_ncd cb n (q_lE cb n (q_lE cb n p)) 0 2 0 = 0 then nI (q_lV cb n (q_lE cb n (q_lE cb n p))) else nI 0) ha hs
      refine ⟨σ', l1, q_fM_tr f5 l2, fun h => absurd hc1 h, fun _ h => absurd hc2 h, fun _ _ h => ?_, fun _ _ h => ⟨?_, fun j j1 j2 => ?_, fun i => ?_, ?_, ?_⟩⟩
      · rw [l3 12 (by omega), l3 13 (by omega)]; exact k5 h
      · exact q_LA_sm (k4 h) (fun j j1 _ => l3 j (by omega))
      · rw [l3 j j1, k3 j (by omega), z4, g3 j (by omega), z2, e3 j (by omega), z0]
      · rw [l4 i, if_pos h, k2 69 (by decide), y4 i, y2 i, y0 i]
        by_cases i1 : i = a
        · rw [if_neg (by omega), if_neg (by omega), if_neg (by omega), if_pos i1, if_pos i1]
        · rw [if_neg i1, if_neg i1]
          by_cases i2 : i = 8 + a
          · rw [if_neg (by omega), if_neg (by omega), if_pos i2, if_pos i2]
          · rw [if_neg i2, if_neg i2]
            by_cases i3 : i = 16 + a
            · rw [if_neg (by omega), if_pos i3, if_pos i3]
            · rw [if_neg i3, if_neg i3]
      · rw [l5, k3 4 (by omega), z4, g3 4 (by omega), z2, e3 4 (by omega), z0]
      · rw [l6, k3 5 (by omega), z4, g3 5 (by omega), z2, e3 5 (by omega), z0]
    · have hc4 := q_ncd4 (cb := cb) (n := n) (p := q_lE cb n p) (lo := 0) (hi := 9) (t := 0)
      obtain ⟨m1, m2⟩ := g5 hc2
      rw [w_other_b (c := q_ncd cb n (q_lE cb n p) 0 9 0) (by omega) (by omega) (by rw [q_ms_ne _ _ (by decide)]; exact m1), q_bd]
      obtain ⟨σ', l1, l2, l3, l4, l5, l6⟩ := w_h3 (k_mset σ3 69 (16 + a) (if q_ncd cb n (q_lE cb n p) 0 9 0 = 0 then nI (q_lV cb n (q_lE cb n p)) else nI 0)) 0 ha hs
      refine ⟨σ', l1, q_fM_tr f3 (q_fM_tr (q_fM_set (Or.inl rfl)) l2), fun h => absurd hc1 h, fun _ h => ?_, fun _ h => absurd h hc2, fun _ h => absurd h hc2⟩
      rw [l3 12 (by omega), l3 13 (by omega), q_ms_ne _ _ (by decide)]; exact ⟨m1, m2⟩
  · have hc4 := q_ncd4 (cb := cb) (n := n) (p := p) (lo := 0) (hi := 9) (t := 0)
    obtain ⟨m1, m2⟩ := e5 hc1
    rw [w_other_b (c := q_ncd cb n p 0 9 0) (by omega) (by omega) (by rw [q_ms_ne _ _ (by decide)]; exact m1), q_bd, show (16 : Int32) = nI 16 from rfl, q_add, q_inT (show 16 + a < 50 by omega) (by omega), if_pos rfl, q_n (by omega), w_other_b (c := q_ncd cb n p 0 9 0) (by omega) (by omega) (by rw [q_ms_ne _ _ (by decide), q_ms_ne _ _ (by decide)]; exact m1), q_bd]
    obtain ⟨σ', l1, l2, l3, l4, l5, l6⟩ := w_h3 (k_mset (k_mset σ1 69 (8 + a) (if q_ncd cb n p 0 9 0 = 0 then nI (q_lV cb n p) else nI 0)) 69 (16 + a) 0) 0 ha hs
    refine ⟨σ', l1, q_fM_tr f1 (q_fM_tr (q_fM_tr (q_fM_set (Or.inl rfl)) (q_fM_set (Or.inl rfl))) l2), fun _ => ?_, fun h => absurd h hc1, fun h => absurd h hc1, fun h => absurd h hc1⟩
    rw [l3 12 (by omega), l3 13 (by omega), q_ms_ne _ _ (by decide), q_ms_ne _ _ (by decide)]; exact ⟨m1, m2⟩
theorem q_DM_hand (hP : q_PI τ T) {σ σ1 : k_Mem} (h : q_DM τ T σ) {s k v1 v2 v3 : Nat} (hs : s < 2) (h4 : τ 7 s < 4) (e69 : ∀ i, σ1 69 i = if i = q_sa τ s then nI k else if i = 8 + q_sa τ s then nI v1 else if i = 16 + q_sa τ s then nI v2 else if i = 24 + q_sa τ s then nI v3 else σ 69 i) (e67 : ∀ j, 6 ≤ j → j ≤ 8 → σ1 67 j = σ 67 j) (e4 : σ1 67 4 = σ 67 4 + (if s = 0 then 1 else 0)) (e5 : σ1 67 5 = σ 67 5 + nI s) : q_DM (q_ua τ s (q_sa τ s) k v1 v2 v3) T σ1 := by
  obtain ⟨h1, h2, h3, ⟨W, w1, w2, w3⟩, ⟨N, n1, n2, n3⟩, h6, h7, h8, h9, h10⟩ := h
  have hs' : s = 0 ∨ s = 1 := by omega
  have p1 := hP.1
  have p2 := hP.2.1
  have ha8 : q_sa τ s < 8 := by
    unfold q_sa
    rcases hs' with rfl | rfl
    · rw [if_pos rfl]; omega
    · rw [if_neg (by omega)]; omega
  have e69' : ∀ i, 32 ≤ i → σ1 69 i = σ 69 i := fun i hi => by rw [e69, if_neg (by omega), if_neg (by omega), if_neg (by omega), if_neg (by omega)]
  have u5 : ∀ c, q_ua τ s (q_sa τ s) k v1 v2 v3 5 c = τ 5 c := fun c => q_ua_t _ _ _ _ _ _ _ (by omega) (by omega)
  have u6 : ∀ c, q_ua τ s (q_sa τ s) k v1 v2 v3 6 c = τ 6 c := fun c => q_ua_t _ _ _ _ _ _ _ (by omega) (by omega)
  have u4 : ∀ c, q_ua τ s (q_sa τ s) k v1 v2 v3 4 c = τ 4 c := fun c => q_ua_t _ _ _ _ _ _ _ (by omega) (by omega)
  have u72 : q_ua τ s (q_sa τ s) k v1 v2 v3 7 2 = τ 7 2 := by rw [q_ua_7, if_neg (by omega)]
  refine ⟨?_, ?_, by rw [e67 6 (by omega) (by omega)]; exact h3, ⟨W, w1, by rw [e67 7 (by omega) (by omega)]; exact w2, fun c hc => by rw [u5]; exact w3 c hc⟩, ⟨N, n1, by rw [e67 8 (by omega) (by omega)]; exact n2, fun c hc => ?_⟩, fun c hc => ?_, fun c hc => ?_, fun c hc => ?_, by rw [e69' 44 (by omega), u72]; exact h9, by rw [e69' 49 (by omega), q_ua_7, if_neg (by omega)]; exact h10⟩
  · rw [e4, h1, q_ua_7]
    rcases hs' with rfl | rfl
    · rw [if_pos rfl, if_pos rfl]; exact nI_1 _
    · rw [if_neg (by omega), if_neg (by omega), Int32.add_zero]
  · rw [e5, h2, q_ua_7]
    rcases hs' with rfl | rfl
    · rw [if_neg (by omega), show nI 0 = 0 from rfl, Int32.add_zero]
    · rw [if_pos rfl]; exact nI_1 _
  · rw [n3 c hc]
    unfold q_NM
    simp only [u4, u5, u6, u72]
  · rcases q_ua_H hs h4 p1 hc with g | ⟨g1, g2⟩
    · subst g
      obtain ⟨a1, a2, a3, a4⟩ := q_ua_a (τ := τ) s (q_sa τ s) k v1 v2 v3
      rw [a1, a2, a3, a4, e69, e69, e69, e69]
      refine ⟨by rw [if_pos rfl], by rw [if_neg (by omega), if_pos rfl], by rw [if_neg (by omega), if_neg (by omega), if_pos rfl], by rw [if_neg (by omega), if_neg (by omega), if_neg (by omega), if_pos rfl]⟩
    · have c8 := q_PH8 hP g2
      have e : ∀ i, i = c ∨ i = 8 + c ∨ i = 16 + c ∨ i = 24 + c → σ1 69 i = σ 69 i := fun i hi => by rw [e69, if_neg (by omega), if_neg (by omega), if_neg (by omega), if_neg (by omega)]
      rw [q_ua_n _ _ _ _ _ (by omega) g1, q_ua_n _ _ _ _ _ (by omega) g1, q_ua_n _ _ _ _ _ (by omega) g1, q_ua_n _ _ _ _ _ (by omega) g1, e _ (by omega), e _ (by omega), e _ (by omega), e _ (by omega)]
      exact h6 c g2
  · rw [e69' _ (by omega), u4]; exact h7 c hc
  · rw [e69' _ (by omega), e69' _ (by omega), u5, u6]; exact h8 c hc
end
