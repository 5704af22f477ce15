/-! PURE: numbers on the tape -/
def q_nc (cb : Nat → Nat) (n p lo hi : Nat) : Nat := if q_lT cb n p = 4 then 1 else if q_lT cb n p = 2 then (if lo ≤ q_lV cb n p ∧ q_lV cb n p ≤ hi then 0 else 3) else 2
def q_ncd (cb : Nat → Nat) (n p lo hi t : Nat) : Nat := if q_nc cb n p lo hi = 0 then (if t.testBit (q_lV cb n p) then 4 else 0) else q_nc cb n p lo hi
section
variable {cb : Nat → Nat} {n : Nat} {σ : k_Mem} {p : Nat}
theorem q_lT4 : q_lT cb n p ≤ 4 := by
  unfold q_lT
  split
  · omega
  · split
    · omega
    · split
      · omega
      · split <;> omega
theorem q_lV99 (h : q_lT cb n p = 2) : q_lV cb n p ≤ 99 := by
  have hD : q_lD cb n p = q_lS cb n p + 1 ∨ q_lD cb n p = q_lS cb n p + 2 := by
    unfold q_lT at h
    split at h
    · omega
    · split at h
      · omega
      · split at h
        · omega
        · split at h
          · assumption
          · omega
  unfold q_lV q_va
  have d : ∀ i, q_lS cb n p ≤ i → i < q_lD cb n p → 48 ≤ cb i ∧ cb i ≤ 57 := fun i h1 h2 => q_re_b h1 h2
  have d0 := d (q_lS cb n p) (by omega) (by omega)
  rcases hD with hD | hD
  · rw [if_neg (by omega), if_pos hD]; omega
  · have d1 := d (q_lS cb n p + 1) (by omega) (by omega)
    rw [if_neg (by omega), if_neg (by omega)]; omega
theorem q_nc0 {lo hi : Nat} (h : q_nc cb n p lo hi = 0) : q_lT cb n p = 2 ∧ lo ≤ q_lV cb n p ∧ q_lV cb n p ≤ hi := by
  unfold q_nc at h
  split at h
  · omega
  · split at h
    · split at h
      · rename_i h1 h2 h3; exact ⟨h2, h3⟩
      · omega
    · omega
theorem q_nc3 {lo hi : Nat} : q_nc cb n p lo hi ≤ 3 := by
  unfold q_nc
  split
  · omega
  · split
    · split <;> omega
    · omega
theorem v_refuse (x : Int32) : f_X1_refuse x σ = some (0, k_mset (k_mset σ 3 2 x) 3 3 (σ 1 3)) := by
  unfold f_X1_refuse
  rw [q_ms_ne (a := 1) (k := 3) _ _ (by decide)]
theorem v_stands (hA : q_TA cb n p σ) {t : Nat} (ht : t < 4) : f_X1_stands (nI t) σ = if q_lT cb n p = t then some (1, σ) else some (0, k_mset (k_mset σ 3 2 (nI (if q_lT cb n p = 4 then 1 else 2))) 3 3 (nI (q_lS cb n p))) := by
  have := q_lT4 (cb := cb) (n := n) (p := p)
  unfold f_X1_stands
  rw [hA.1, v_refuse, v_refuse, q_bd, q_bd, hA.2.1, show (4 : Int32) = nI 4 from rfl]
  simp (disch := omega) only [q_eq]
  by_cases h4 : q_lT cb n p = 4
  · rw [if_pos h4, if_neg (show ¬ q_lT cb n p = t by omega), if_pos h4, if_pos (by simp)]; rfl
  · rw [if_neg h4, if_neg h4]
    by_cases h : q_lT cb n p = t
    · rw [if_pos h, if_pos h]
    · rw [if_neg h, if_neg h, if_pos trivial]; rfl
theorem v_follows (hn : n ≤ 160) (hT : q_TP cb n σ) (hp : p ≤ n) (h4 : σ 1 4 = nI p) {t : Nat} (ht : t < 4) : ∃ σ1, f_X1_follows (nI t) σ = some (q_b (decide (q_lT cb n p = t)), σ1) ∧ (∀ k, k ≠ 1 → k ≠ 3 → σ1 k = σ k) ∧ σ1 1 1 = σ 1 1 ∧ (∀ j, j ≠ 2 → j ≠ 3 → σ1 3 j = σ 3 j) ∧ q_TA cb n p σ1 ∧ (q_lT cb n p = t → σ1 3 = σ 3) ∧ (q_lT cb n p ≠ t → σ1 3 2 = nI (if q_lT cb n p = 4 then 1 else 2) ∧ σ1 3 3 = nI (q_lS cb n p)) := by
  obtain ⟨σ1, e1, e2, e3, e4⟩ := v_advance hn hT hp h4
  unfold f_X1_follows
  rw [e1, q_bd, v_stands e4 ht]
  by_cases h : q_lT cb n p = t
  · rw [if_pos h, q_bd, if_pos (Or.inr rfl), decide_eq_true h]
    exact ⟨σ1, rfl, fun k k1 k3 => e2 k k1, e3, fun j _ _ => by rw [e2 3 (by omega)], e4, fun _ => e2 3 (by omega), fun g => absurd h g⟩
  · rw [if_neg h, q_bd, if_pos (Or.inl rfl), decide_eq_false h]
    refine ⟨_, rfl, fun k k1 k3 => by rw [q_ms_ne _ _ k3, q_ms_ne _ _ k3, e2 k k1], by rw [q_ms_ne _ _ (by decide), q_ms_ne _ _ (by decide), e3], fun j j2 j3 => by rw [q_ms, if_neg (fun g => j3 g.2), q_ms, if_neg (fun g => j2 g.2), e2 3 (by omega)], ?_, fun g => absurd g h, fun _ => ⟨by rw [q_ms, if_neg (by omega), q_ms, if_pos ⟨rfl, rfl⟩], by rw [q_ms, if_pos ⟨rfl, rfl⟩]⟩⟩
    unfold q_TA
    rw [q_ms_ne _ _ (by decide), q_ms_ne _ _ (by decide)]; exact e4
theorem v_number (hn : n ≤ 160) (hT : q_TP cb n σ) (hp : p ≤ n) (h4 : σ 1 4 = nI p) {lo hi : Nat} (hlo : lo < 128) (hhi : hi < 128) : ∃ σ1, f_X1_number (nI lo) (nI hi) σ = some (if q_nc cb n p lo hi = 0 then nI (q_lV cb n p) else -1, σ1) ∧ (∀ k, k ≠ 1 → k ≠ 3 → σ1 k = σ k) ∧ σ1 1 1 = σ 1 1 ∧ (∀ j, j ≠ 2 → j ≠ 3 → σ1 3 j = σ 3 j) ∧ q_TA cb n p σ1 ∧ (q_nc cb n p lo hi = 0 → σ1 3 = σ 3) ∧ (q_nc cb n p lo hi ≠ 0 → σ1 3 2 = nI (q_nc cb n p lo hi) ∧ σ1 3 3 = nI (q_lS cb n p)) := by
  obtain ⟨σ1, e1, e2, e3, e4⟩ := v_advance hn hT hp h4
  unfold f_X1_number
  rw [e1, q_bd, show (2 : Int32) = nI 2 from rfl, v_stands e4 (by omega)]
  have fin : ∀ c : Nat, (∀ k, k ≠ 1 → k ≠ 3 → (k_mset (k_mset σ1 3 2 (nI c)) 3 3 (nI (q_lS cb n p))) k = σ k) ∧ (k_mset (k_mset σ1 3 2 (nI c)) 3 3 (nI (q_lS cb n p))) 1 1 = σ 1 1 ∧ (∀ j, j ≠ 2 → j ≠ 3 → (k_mset (k_mset σ1 3 2 (nI c)) 3 3 (nI (q_lS cb n p))) 3 j = σ 3 j) ∧ q_TA cb n p (k_mset (k_mset σ1 3 2 (nI c)) 3 3 (nI (q_lS cb n p))) ∧ (k_mset (k_mset σ1 3 2 (nI c)) 3 3 (nI (q_lS cb n p))) 3 2 = nI c ∧ (k_mset (k_mset σ1 3 2 (nI c)) 3 3 (nI (q_lS cb n p))) 3 3 = nI (q_lS cb n p) := fun c => by
    refine ⟨fun k k1 k3 => by rw [q_ms_ne _ _ k3, q_ms_ne _ _ k3, e2 k k1], by rw [q_ms_ne _ _ (by decide), q_ms_ne _ _ (by decide), e3], fun j j2 j3 => by rw [q_ms, if_neg (fun g => j3 g.2), q_ms, if_neg (fun g => j2 g.2), e2 3 (by omega)], ?_, by rw [q_ms, if_neg (by omega), q_ms, if_pos ⟨rfl, rfl⟩], by rw [q_ms, if_pos ⟨rfl, rfl⟩]⟩
    unfold q_TA
    rw [q_ms_ne _ _ (by decide), q_ms_ne _ _ (by decide)]; exact e4
  by_cases h : q_lT cb n p = 2
  · have hv := q_lV99 h
    rw [if_pos h, q_bd, if_neg q_10, e4.2.2.2 h]
    unfold j_X1_number_39
    rw [v_refuse, q_bd, e4.2.1]
    simp (disch := omega) only [q_lt, q_le]
    by_cases hr : lo ≤ q_lV cb n p ∧ q_lV cb n p ≤ hi
    · have hc : q_nc cb n p lo hi = 0 := by unfold q_nc; rw [if_neg (by omega), if_pos h, if_pos hr]
      rw [if_neg (by omega), if_pos hr.2, if_pos hc]
      exact ⟨σ1, rfl, fun k k1 _ => e2 k k1, e3, fun j _ _ => by rw [e2 3 (by omega)], e4, fun _ => e2 3 (by omega), fun g => absurd hc g⟩
    · have hc : q_nc cb n p lo hi = 3 := by unfold q_nc; rw [if_neg (by omega), if_pos h, if_neg hr]
      rw [hc, if_neg (show ¬ 3 = 0 by omega)]
      have := fin 3
      obtain ⟨g1, g2, g3, g4, g5, g6⟩ := this
      by_cases hl : q_lV cb n p < lo
      · rw [if_pos hl]
        exact ⟨_, rfl, g1, g2, g3, g4, fun g => by omega, fun _ => ⟨g5, g6⟩⟩
      · rw [if_neg hl, if_neg (by omega)]
        exact ⟨_, rfl, g1, g2, g3, g4, fun g => by omega, fun _ => ⟨g5, g6⟩⟩
  · have hc : q_nc cb n p lo hi = if q_lT cb n p = 4 then 1 else 2 := by
      unfold q_nc
      by_cases h4 : q_lT cb n p = 4
      · rw [if_pos h4, if_pos h4]
      · rw [if_neg h4, if_neg h4, if_neg h]
    have hc0 : ¬ (if q_lT cb n p = 4 then 1 else 2) = 0 := by split <;> omega
    rw [if_neg h, q_bd, if_pos rfl, hc, if_neg hc0]
    obtain ⟨g1, g2, g3, g4, g5, g6⟩ := fin (if q_lT cb n p = 4 then 1 else 2)
    exact ⟨_, rfl, g1, g2, g3, g4, fun g => absurd g hc0, fun _ => ⟨g5, g6⟩⟩
/-- the reference -/
theorem w_fails (h : σ 67 12 = 0) (x : Int32) : f_X7_fails x σ = some ((), k_mset (k_mset σ 67 12 x) 67 13 (σ 67 15)) := by
  unfold f_X7_fails
  rw [if_pos h, q_ms, if_neg (show ¬ (67 = 67 ∧ 15 = 12) by omega)]
theorem w_step_b {c : Nat} (h0 : 0 < c) (hc : c < 100) (h : σ 67 12 = nI c) : f_X7_step σ = some ((), σ) := by
  unfold f_X7_step
  rw [h, if_neg (show ¬ nI c ≤ 0 from nI_ge (a := 0) (b := c) h0 (by omega))]
theorem w_other_b {c : Nat} (h0 : 0 < c) (hc : c < 100) (h : σ 67 12 = nI c) (x1 x2 x3 : Int32) : f_X7_other x1 x2 x3 σ = some (x1, σ) := by
  have hn : ¬ σ 67 12 = 0 := by rw [h, show (0 : Int32) = nI 0 from rfl, q_eq (by omega) (by omega)]; omega
  unfold f_X7_other
  rw [if_neg hn]
  unfold j_X7_other_20
  rw [if_neg hn]
  unfold j_X7_other_47
  rw [if_neg hn]
  unfold j_X7_other_71
  rw [if_neg hn]
  unfold j_X7_other_86
  rw [w_step_b h0 hc h, q_bd]
theorem w_other (hn : n ≤ 160) (hT : q_MP cb n σ) (hp : p ≤ n) (hA : q_LA cb n p σ) {lo hi t : Nat} (hlo : lo < 128) (hhi : hi < 32) (ht : t < 256) : ∃ σ1, f_X7_other (nI lo) (nI hi) (nI t) σ = some (if q_ncd cb n p lo hi t = 0 then nI (q_lV cb n p) else nI lo, σ1) ∧ (∀ k, k ≠ 67 → σ1 k = σ k) ∧ (∀ j, j < 12 ∨ 17 < j → σ1 67 j = σ 67 j) ∧ (q_ncd cb n p lo hi t = 0 → q_LA cb n (q_lE cb n p) σ1) ∧ (q_ncd cb n p lo hi t ≠ 0 → σ1 67 12 = nI (q_ncd cb n p lo hi t) ∧ σ1 67 13 = nI (q_lS cb n p)) := by
  obtain ⟨b1, b2, b3, b4, b5⟩ := q_lEn (cb := cb) hp
  obtain ⟨a1, a2⟩ := hA
  -- a fault found here
  have bad : ∀ c : Nat, 0 < c → c < 100 → σ 67 12 = 0 → (∀ k, k ≠ 67 → (k_mset (k_mset σ 67 12 (nI c)) 67 13 (nI (q_lS cb n p))) k = σ k) ∧ (∀ j, j < 12 ∨ 17 < j → (k_mset (k_mset σ 67 12 (nI c)) 67 13 (nI (q_lS cb n p))) 67 j = σ 67 j) ∧ (k_mset (k_mset σ 67 12 (nI c)) 67 13 (nI (q_lS cb n p))) 67 12 = nI c ∧ (k_mset (k_mset σ 67 12 (nI c)) 67 13 (nI (q_lS cb n p))) 67 13 = nI (q_lS cb n p) := fun c _ _ _ =>
    ⟨fun k hk => by rw [q_ms_ne _ _ hk, q_ms_ne _ _ hk], fun j hj => by rw [q_ms, if_neg (by omega), q_ms, if_neg (by omega)], by rw [q_ms, if_neg (by omega), q_ms, if_pos ⟨rfl, rfl⟩], by rw [q_ms, if_pos ⟨rfl, rfl⟩]⟩
  have tail : ∀ (c : Nat) (σ' : k_Mem), 0 < c → c < 100 → σ' 67 12 = nI c → j_X7_other_20 (nI lo) (nI hi) (nI t) σ' = some (nI lo, σ') ∧ j_X7_other_47 (nI lo) (nI t) σ' = some (nI lo, σ') ∧ j_X7_other_71 (nI lo) σ' = some (nI lo, σ') := by
    intro c σ' h0 hc h
    have hn : ¬ σ' 67 12 = 0 := by rw [h, show (0 : Int32) = nI 0 from rfl, q_eq (by omega) (by omega)]; omega
    have t71 : j_X7_other_71 (nI lo) σ' = some (nI lo, σ') := by
      unfold j_X7_other_71 j_X7_other_86
      rw [if_neg hn, w_step_b h0 hc h, q_bd]
    have t47 : j_X7_other_47 (nI lo) (nI t) σ' = some (nI lo, σ') := by
      unfold j_X7_other_47
      rw [if_neg hn, t71]
    refine ⟨?_, t47, t71⟩
    unfold j_X7_other_20
    rw [if_neg hn, t47]
  by_cases h4 : q_lT cb n p = 4
  · rw [if_pos h4] at a2
    have hc : q_nc cb n p lo hi = 1 := by unfold q_nc; rw [if_pos h4]
    have hcd : q_ncd cb n p lo hi t = 1 := by unfold q_ncd; rw [hc, if_neg (by omega)]
    rw [hcd, w_other_b (c := 1) (by omega) (by omega) a2.1, if_neg (show ¬ 1 = 0 by omega)]
    exact ⟨σ, rfl, fun _ _ => rfl, fun _ _ => rfl, fun g => by omega, fun _ => a2⟩
  · rw [if_neg h4] at a2
    obtain ⟨c1, c2, c3, c4⟩ := a2
    have hlT := q_lT4 (cb := cb) (n := n) (p := p)
    unfold f_X7_other
    rw [if_pos c1, c2, show (2 : Int32) = nI 2 from rfl]
    simp (disch := omega) only [q_eq]
    by_cases h2 : q_lT cb n p = 2
    · have hv := q_lV99 h2
      have c5 := c4 h2
      rw [if_pos h2]
      unfold j_X7_other_20
      rw [if_pos c1, c5, v_in32 _ (nI lo) (nI hi) _ _ rfl rfl, q_bd]
      simp (disch := omega) only [q_le]
      by_cases hr : lo ≤ q_lV cb n p ∧ q_lV cb n p ≤ hi
      · have hc : q_nc cb n p lo hi = 0 := by unfold q_nc; rw [if_neg h4, if_pos h2, if_pos hr]
        rw [if_pos hr, if_neg q_10]
        unfold j_X7_other_47
        rw [if_pos c1, c5]
        simp only [q_bit1 (show t < 2 ^ 31 by omega) (show q_lV cb n p < 32 by omega)]
        cases htb : t.testBit (q_lV cb n p)
        · have hcd : q_ncd cb n p lo hi t = 0 := by unfold q_ncd; rw [if_pos hc, htb]; rfl
          rw [if_neg (by decide), hcd, if_pos rfl]
          unfold j_X7_other_71 j_X7_other_86
          rw [if_pos c1, c5]
          obtain ⟨σ1, f1, f2, f3, f4⟩ := w_step hn hT b2 c1 c3
          rw [f1, q_bd]
          exact ⟨σ1, rfl, f3, f4, fun _ => f2, fun g => absurd rfl g⟩
        · have hcd : q_ncd cb n p lo hi t = 4 := by unfold q_ncd; rw [if_pos hc, htb]; rfl
          rw [if_pos rfl, w_fails c1, q_bd, a1, hcd, if_neg (show ¬ 4 = 0 by omega)]
          obtain ⟨g1, g2, g3, g4⟩ := bad 4 (by omega) (by omega) c1
          refine ⟨_, (tail 4 _ (by omega) (by omega) g3).2.2, g1, g2, fun g => by omega, fun _ => ⟨g3, g4⟩⟩
      · have hc : q_nc cb n p lo hi = 3 := by unfold q_nc; rw [if_neg h4, if_pos h2, if_neg hr]
        have hcd : q_ncd cb n p lo hi t = 3 := by unfold q_ncd; rw [hc, if_neg (by omega)]
        rw [if_neg hr, if_pos rfl, w_fails c1, q_bd, a1, hcd, if_neg (show ¬ 3 = 0 by omega)]
        obtain ⟨g1, g2, g3, g4⟩ := bad 3 (by omega) (by omega) c1
        refine ⟨_, (tail 3 _ (by omega) (by omega) g3).2.1, g1, g2, fun g => by omega, fun _ => ⟨g3, g4⟩⟩
    · have hc : q_nc cb n p lo hi = 2 := by unfold q_nc; rw [if_neg h4, if_neg h2]
      have hcd : q_ncd cb n p lo hi t = 2 := by unfold q_ncd; rw [hc, if_neg (by omega)]
      rw [if_neg h2, w_fails c1, q_bd, a1, hcd, if_neg (show ¬ 2 = 0 by omega)]
      obtain ⟨g1, g2, g3, g4⟩ := bad 2 (by omega) (by omega) c1
      refine ⟨_, (tail 2 _ (by omega) (by omega) g3).1, g1, g2, fun g => by omega, fun _ => ⟨g3, g4⟩⟩
end
