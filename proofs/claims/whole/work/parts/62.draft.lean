/-! PURE: what the lines tell -/
def q_PI (τ : k_TW) (T : Nat) : Prop :=
  τ 7 0 ≤ 4 ∧ τ 7 1 ≤ 4 ∧ τ 7 2 < 256 ∧ τ 7 3 = 0 ∧ T < 256 ∧
  (∀ a, q_H τ a = true → τ 0 a ≤ 3 ∧ τ 1 a ≤ 9 ∧ τ 2 a ≤ 9 ∧ τ 3 a ≤ 2) ∧
  (∀ a, a < 8 → τ 4 a < 8 ∧ (T.testBit a = false → τ 4 a = a)) ∧
  (∀ a, a < 8 → τ 5 a ≤ 8 ∧ (τ 5 a ≠ 0 → a / 4 ≠ (τ 5 a - 1) / 4 ∧ τ 5 (τ 5 a - 1) = a + 1)) ∧
  (∀ a, a < 8 → τ 6 a < 256 ∧ ∀ b, (τ 6 a).testBit b = true → a / 4 ≠ b / 4 ∧ (τ 6 b).testBit a = true)
def q_NM (τ : k_TW) (T c : Nat) : Prop := T.testBit c = true ∨ (τ 7 2).testBit c = true ∨ τ 5 c ≠ 0 ∨ (∃ a, a < 8 ∧ (τ 6 a).testBit c = true) ∨ ∃ a, a < 8 ∧ T.testBit a = true ∧ τ 4 a = c
def q_DC (τ : k_TW) (T : Nat) (σ : k_Mem) : Prop :=
  σ 38 7 = nI (τ 7 0) ∧ σ 38 8 = nI (τ 7 1) ∧ σ 38 9 = nI (τ 7 2) ∧ σ 38 10 = nI (τ 7 3) ∧
  (∀ a, q_H τ a = true → σ 39 a = nI (τ 0 a) ∧ σ 40 a = nI (τ 1 a) ∧ σ 41 a = nI (τ 2 a) ∧ σ 42 a = nI (τ 3 a)) ∧
  (∀ a, a < 8 → σ 43 a = nI (τ 4 a) ∧ σ 44 a = nI (τ 5 a) - 1 ∧ σ 45 a = nI (τ 6 a)) ∧ σ 3 5 = nI T
def q_DM (τ : k_TW) (T : Nat) (σ : k_Mem) : Prop :=
  σ 67 4 = nI (τ 7 0) ∧ σ 67 5 = nI (τ 7 1) ∧ σ 67 6 = nI T ∧
  (∃ W, W < 256 ∧ σ 67 7 = nI W ∧ ∀ c, c < 8 → (W.testBit c = true ↔ τ 5 c ≠ 0)) ∧
  (∃ N, N < 256 ∧ σ 67 8 = nI N ∧ ∀ c, c < 8 → (N.testBit c = true ↔ q_NM τ T c)) ∧
  (∀ a, q_H τ a = true → σ 69 a = nI (τ 0 a) ∧ σ 69 (8 + a) = nI (τ 1 a) ∧ σ 69 (16 + a) = nI (τ 2 a) ∧ σ 69 (24 + a) = nI (τ 3 a)) ∧
  (∀ a, a < 8 → σ 69 (32 + a) = nI (τ 4 a) - nI a) ∧
  (∀ a, a < 4 → σ 69 (40 + a) = nI (τ 6 a) ∧ σ 69 (45 + a) = nI (τ 5 a - 1)) ∧
  σ 69 44 = nI (τ 7 2) ∧ σ 69 49 = nI (τ 7 3)
def q_fC (σ σ1 : k_Mem) : Prop := (∀ k, k ≠ 1 → k ≠ 3 → (k < 38 ∨ 45 < k) → σ1 k = σ k) ∧ σ1 1 1 = σ 1 1 ∧ σ1 3 4 = σ 3 4
def q_fM (σ σ1 : k_Mem) : Prop := (∀ k, k ≠ 67 → k ≠ 69 → σ1 k = σ k) ∧ ∀ j, (j < 4 ∨ (8 < j ∧ j < 12) ∨ 17 < j) → σ1 67 j = σ 67 j
theorem q_fC_rf {σ : k_Mem} : q_fC σ σ := ⟨fun _ _ _ _ => rfl, rfl, rfl⟩
theorem q_fM_rf {σ : k_Mem} : q_fM σ σ := ⟨fun _ _ _ => rfl, fun _ _ => rfl⟩
theorem q_fC_tr {σ σ1 σ2 : k_Mem} (h : q_fC σ σ1) (h2 : q_fC σ1 σ2) : q_fC σ σ2 := ⟨fun k a b c => by rw [h2.1 k a b c, h.1 k a b c], by rw [h2.2.1, h.2.1], by rw [h2.2.2, h.2.2]⟩
theorem q_fM_tr {σ σ1 σ2 : k_Mem} (h : q_fM σ σ1) (h2 : q_fM σ1 σ2) : q_fM σ σ2 := ⟨fun k a b => by rw [h2.1 k a b, h.1 k a b], fun j hj => by rw [h2.2 j hj, h.2 j hj]⟩
theorem q_fC_set {σ : k_Mem} {k i : Nat} {v : Int32} (h : 38 ≤ k ∧ k ≤ 45 ∨ k = 3 ∧ i ≠ 4) : q_fC σ (k_mset σ k i v) := by
  refine ⟨fun c c1 c2 c3 => q_ms_ne _ _ (by omega), q_ms_ne _ _ (show 1 ≠ k by omega) ▸ rfl, ?_⟩
  rw [q_ms]
  split
  · omega
  · rfl
theorem q_fM_set {σ : k_Mem} {k i : Nat} {v : Int32} (h : k = 69 ∨ k = 67 ∧ (4 ≤ i ∧ i ≤ 8 ∨ 12 ≤ i ∧ i ≤ 17)) : q_fM σ (k_mset σ k i v) := by
  refine ⟨fun c c1 c2 => q_ms_ne _ _ (by omega), fun j hj => ?_⟩
  rw [q_ms, if_neg (by omega)]
theorem q_DC_sm {τ : k_TW} {T : Nat} {σ σ1 : k_Mem} (h : q_DC τ T σ) (e : ∀ k, 38 ≤ k → k ≤ 45 → σ1 k = σ k) (e5 : σ1 3 5 = σ 3 5) : q_DC τ T σ1 := by
  unfold q_DC
  rw [e 38 (by omega) (by omega), e 39 (by omega) (by omega), e 40 (by omega) (by omega), e 41 (by omega) (by omega), e 42 (by omega) (by omega), e 43 (by omega) (by omega), e 44 (by omega) (by omega), e 45 (by omega) (by omega), e5]
  exact h
theorem q_DM_sm {τ : k_TW} {T : Nat} {σ σ1 : k_Mem} (h : q_DM τ T σ) (e : ∀ j, 4 ≤ j → j ≤ 8 → σ1 67 j = σ 67 j) (e69 : σ1 69 = σ 69) : q_DM τ T σ1 := by
  unfold q_DM
  rw [e 4 (by omega) (by omega), e 5 (by omega) (by omega), e 6 (by omega) (by omega), e 7 (by omega) (by omega), e 8 (by omega) (by omega), e69]
  exact h
theorem q_TP_f {cb : Nat → Nat} {n : Nat} {σ σ1 : k_Mem} (h : q_TP cb n σ) (e1 : σ1 1 1 = σ 1 1) (e2 : σ1 2 = σ 2) : q_TP cb n σ1 := ⟨by rw [e1]; exact h.1, fun i hi => by rw [e2]; exact h.2 i hi⟩
theorem q_MP_f {cb : Nat → Nat} {n : Nat} {σ σ1 : k_Mem} (h : q_MP cb n σ) (e : q_fM σ σ1) : q_MP cb n σ1 := ⟨by rw [e.2 10 (by omega)]; exact h.1, fun i hi => by rw [e.1 70 (by omega) (by omega)]; exact h.2 i hi⟩
theorem q_LA_sm {cb : Nat → Nat} {n p : Nat} {σ σ1 : k_Mem} (h : q_LA cb n p σ) (e : ∀ j, 12 ≤ j → j ≤ 17 → σ1 67 j = σ 67 j) : q_LA cb n p σ1 := by
  unfold q_LA
  rw [e 12 (by omega) (by omega), e 13 (by omega) (by omega), e 14 (by omega) (by omega), e 15 (by omega) (by omega), e 16 (by omega) (by omega), e 17 (by omega) (by omega)]
  exact h
def q_rC (code place q : Nat) (τ : k_TW) (T : Nat) (r : Int32) (σ1 : k_Mem) : Prop := if code = 0 then r = 1 ∧ q_DC τ T σ1 ∧ σ1 1 4 = nI q ∧ σ1 3 2 = 0 else r = 0 ∧ σ1 3 2 = nI code ∧ σ1 3 3 = nI place
def q_rM (cb : Nat → Nat) (n code place q : Nat) (τ : k_TW) (T : Nat) (σ1 : k_Mem) : Prop := if code = 0 then q_LA cb n q σ1 ∧ q_DM τ T σ1 else σ1 67 12 = nI code ∧ σ1 67 13 = nI place
/-- the end of a line, in the reference -/
def q_tl (σ7 : k_Mem) : Option (Unit × k_Mem) := if (σ7 67 12) = 0 then (if (σ7 67 16) = 3 then j_X7_readLine_60 σ7 else k_bd (f_X7_fails 2 σ7) (fun _ σ11 => j_X7_readLine_60 σ11)) else j_X7_readLine_60 σ7
/-- the rest of a line, behind its first name -/
def q_rs (x : Int32) (σ5 : k_Mem) : Option (Unit × k_Mem) := if (σ5 67 12) ≤ 0 then k_bd (f_X7_readMore x σ5) (fun _ σ7 => q_tl σ7) else some ((), σ5)
def q_tc (cb : Nat → Nat) (n p : Nat) : Nat := if q_lT cb n p = 3 then 0 else if q_lT cb n p = 4 then 1 else 2
def q_JL (cb : Nat → Nat) (n p : Nat) (τ : k_TW) (T : Nat) (A : k_Mem → Option (Int32 × k_Mem)) (B : k_Mem → Option (Unit × k_Mem)) : Prop :=
  ∃ code place q τ' T', code < 6 ∧ (code = 0 → p < q ∧ q ≤ n ∧ q_PI τ' T') ∧
    (∀ σ, q_TP cb n σ → σ 1 4 = nI p → q_DC τ T σ → σ 3 2 = 0 → ∃ r σ1, A σ = some (r, σ1) ∧ q_fC σ σ1 ∧ q_rC code place q τ' T' r σ1) ∧
    (∀ σ, q_MP cb n σ → q_LA cb n p σ → q_DM τ T σ → σ 71 = k_σ0 71 → σ 72 = k_σ0 72 → ∃ σ1, B σ = some ((), σ1) ∧ q_fM σ σ1 ∧ q_rM cb n code place q τ' T' σ1)
section
variable {cb : Nat → Nat} {n p : Nat} {τ : k_TW} {T : Nat} {σ : k_Mem}
theorem v_tail (hn : n ≤ 160) (hp : p ≤ n) (hT : q_TP cb n σ) (h4 : σ 1 4 = nI p) (hD : q_DC τ T σ) (h32 : σ 3 2 = 0) : ∃ r σ1, (k_bd (f_X1_follows 3 σ) (fun r σ => if r = 0 ∨ r = 1 then some (r, σ) else none)) = some (r, σ1) ∧ q_fC σ σ1 ∧ q_rC (q_tc cb n p) (q_lS cb n p) (q_lE cb n p) τ T r σ1 := by
  obtain ⟨σ1, e1, e2, e3, e4, e5, e6, e7⟩ := v_follows hn hT hp h4 (t := 3) (by omega)
  rw [show (3 : Int32) = nI 3 from rfl, e1, q_bd]
  have hf : q_fC σ σ1 := ⟨fun k a b _ => e2 k a b, e3, e4 4 (by omega) (by omega)⟩
  refine ⟨q_b (decide (q_lT cb n p = 3)), σ1, ?_, hf, ?_⟩
  · cases decide (q_lT cb n p = 3)
    · rw [if_pos (show q_b false = 0 ∨ q_b false = 1 by decide)]
    · rw [if_pos (show q_b true = 0 ∨ q_b true = 1 by decide)]
  · unfold q_rC q_tc
    by_cases h : q_lT cb n p = 3
    · rw [if_pos h, if_pos rfl, decide_eq_true h]
      exact ⟨rfl, q_DC_sm hD (fun k k1 k2 => e2 k (by omega) (by omega)) (by rw [e6 h]), e5.2.2.1 (by omega) (by omega), by rw [e6 h]; exact h32⟩
    · rw [if_neg h, decide_eq_false h, if_neg (by split <;> omega)]
      exact ⟨rfl, e7 h⟩
theorem w_tail_b {c : Nat} (h0 : 0 < c) (hc : c < 100) (h : σ 67 12 = nI c) : q_tl σ = some ((), σ) := by
  have hn : ¬ σ 67 12 = 0 := by rw [h, show (0 : Int32) = nI 0 from rfl, q_eq (by omega) (by omega)]; omega
  unfold q_tl j_X7_readLine_60
  rw [if_neg hn, w_step_b h0 hc h, q_bd]
theorem w_tail (hn : n ≤ 160) (hp : p ≤ n) (hT : q_MP cb n σ) (hA : q_LA cb n p σ) (hD : q_DM τ T σ) : ∃ σ1, q_tl σ = some ((), σ1) ∧ q_fM σ σ1 ∧ q_rM cb n (q_tc cb n p) (q_lS cb n p) (q_lE cb n p) τ T σ1 := by
  obtain ⟨b1, b2, b3, b4, b5⟩ := q_lEn (cb := cb) hp
  have hlT := q_lT4 (cb := cb) (n := n) (p := p)
  unfold q_rM q_tc
  obtain ⟨a1, a2⟩ := hA
  by_cases h4 : q_lT cb n p = 4
  · rw [if_pos h4] at a2
    rw [w_tail_b (c := 1) (by omega) (by omega) a2.1]
    refine ⟨σ, rfl, q_fM_rf, ?_⟩
    rw [if_neg (show ¬ q_lT cb n p = 3 by omega), if_pos h4, if_neg (by omega)]
    exact a2
  · rw [if_neg h4] at a2
    obtain ⟨c1, c2, c3, c4⟩ := a2
    unfold q_tl
    rw [if_pos c1, c2, show (3 : Int32) = nI 3 from rfl]
    simp (disch := omega) only [q_eq]
    by_cases h3 : q_lT cb n p = 3
    · rw [if_pos h3]
      unfold j_X7_readLine_60
      obtain ⟨σ1, f1, f2, f3, f4⟩ := w_step hn hT b2 c1 c3
      rw [f1, q_bd]
      refine ⟨σ1, rfl, ⟨fun k hk _ => f3 k hk, fun j hj => f4 j (by omega)⟩, ?_⟩
      rw [if_pos h3, if_pos rfl]
      exact ⟨f2, q_DM_sm hD (fun j j1 j2 => f4 j (by omega)) (f3 69 (by omega))⟩
    · rw [if_neg h3, w_fails c1, q_bd, a1]
      unfold j_X7_readLine_60
      have e12 : (k_mset (k_mset σ 67 12 2) 67 13 (nI (q_lS cb n p))) 67 12 = nI 2 := by rw [q_ms, if_neg (by omega), q_ms, if_pos ⟨rfl, rfl⟩]; rfl
      rw [w_step_b (c := 2) (by omega) (by omega) e12, q_bd]
      refine ⟨_, rfl, q_fM_tr (q_fM_set (Or.inr ⟨rfl, by omega⟩)) (q_fM_set (Or.inr ⟨rfl, by omega⟩)), ?_⟩
      rw [if_neg h3, if_neg h4, if_neg (by omega)]
      exact ⟨e12, by rw [q_ms, if_pos ⟨rfl, rfl⟩]⟩
theorem q_orb : ∀ u, u < 256 → ∀ a, a < 8 → (nI u ||| k_shl 1 (nI a)) = nI (u ||| 2 ^ a) := by decide +kernel
theorem q_orl {u a : Nat} (hu : u < 256) (ha : a < 8) : u ||| 2 ^ a < 256 := Nat.or_lt_two_pow (n := 8) hu (Nat.pow_lt_pow_right (by decide) ha)
theorem q_ort {u a c : Nat} : (u ||| 2 ^ a).testBit c = true ↔ u.testBit c = true ∨ c = a := by
  rw [Nat.testBit_or, Nat.testBit_two_pow]
  simp
  exact or_congr Iff.rfl ⟨fun h => h.symm, fun h => h.symm⟩
theorem q_rs_b (hA : q_LA cb n p σ) (h4 : q_lT cb n p = 4) (x : Int32) : q_rs x σ = some ((), σ) ∧ σ 67 12 = nI 1 ∧ σ 67 13 = nI (q_lS cb n p) := by
  obtain ⟨a1, a2⟩ := hA
  rw [if_pos h4] at a2
  unfold q_rs
  rw [a2.1, if_neg (by decide)]
  exact ⟨rfl, rfl, a2.2⟩
theorem q_rs_g (hA : q_LA cb n p σ) (h4 : q_lT cb n p ≠ 4) (x : Int32) : q_rs x σ = k_bd (f_X7_readMore x σ) (fun _ σ7 => q_tl σ7) := by
  obtain ⟨a1, a2⟩ := hA
  rw [if_neg h4] at a2
  unfold q_rs
  rw [a2.1, if_pos (by decide)]
theorem q_ncd4 {lo hi t : Nat} : q_ncd cb n p lo hi t ≤ 4 := by
  unfold q_ncd
  split
  · split <;> omega
  · have := q_nc3 (cb := cb) (n := n) (p := p) (lo := lo) (hi := hi); omega
theorem q_ncd0 {lo hi t : Nat} (h : q_ncd cb n p lo hi t = 0) : q_nc cb n p lo hi = 0 ∧ t.testBit (q_lV cb n p) = false := by
  unfold q_ncd at h
  split at h
  · rename_i h1
    split at h
    · omega
    · rename_i h2; exact ⟨h1, by simpa using h2⟩
  · omega
theorem w_handHere (hn : n ≤ 160) (hT : q_MP cb n σ) (hp : p ≤ n) (hA : q_LA cb n p σ) {lo hi t : Nat} (hlo : lo < 128) (hhi : hi < 8) (hlh : lo ≤ hi) (ht : t < 256) {N : Nat} (hN : N < 256) (h8 : σ 67 8 = nI N) : ∃ σ1, f_X7_handHere (nI lo) (nI hi) (nI t) σ = some (if q_ncd cb n p lo hi t = 0 then nI (q_lV cb n p) else nI lo, σ1) ∧ q_fM σ σ1 ∧ σ1 69 = σ 69 ∧ (∀ j, 4 ≤ j → j < 8 → σ1 67 j = σ 67 j) ∧ (∃ M, M < 256 ∧ σ1 67 8 = nI M ∧ (q_ncd cb n p lo hi t = 0 → M = N ||| 2 ^ q_lV cb n p)) ∧ (q_ncd cb n p lo hi t = 0 → q_LA cb n (q_lE cb n p) σ1) ∧ (q_ncd cb n p lo hi t ≠ 0 → σ1 67 12 = nI (q_ncd cb n p lo hi t) ∧ σ1 67 13 = nI (q_lS cb n p)) := by
  obtain ⟨σ1, e1, e2, e3, e4, e5⟩ := w_other hn hT hp hA hlo (show hi < 32 by omega) ht
  unfold f_X7_handHere
  rw [e1, q_bd]
  have fr : ∀ v : Int32, q_fM σ (k_mset σ1 67 8 v) ∧ (k_mset σ1 67 8 v) 69 = σ 69 ∧ (∀ j, 4 ≤ j → j < 8 → (k_mset σ1 67 8 v) 67 j = σ 67 j) ∧ (∀ j, 12 ≤ j → j ≤ 17 → (k_mset σ1 67 8 v) 67 j = σ1 67 j) := fun v => by
    refine ⟨⟨fun k h1 h2 => by rw [q_ms_ne _ _ h1, e2 k h1], fun j hj => by rw [q_ms, if_neg (by omega), e3 j (by omega)]⟩, by rw [q_ms_ne _ _ (by decide), e2 69 (by decide)], fun j j1 j2 => by rw [q_ms, if_neg (by omega), e3 j (by omega)], fun j j1 j2 => by rw [q_ms, if_neg (by omega)]⟩
  rw [e3 8 (by omega), h8]
  by_cases hc : q_ncd cb n p lo hi t = 0
  · have hv := (q_nc0 (q_ncd0 hc).1).2
    rw [if_pos hc, q_orb N hN _ (by omega)]
    obtain ⟨f1, f2, f3, f4⟩ := fr (nI (N ||| 2 ^ q_lV cb n p))
    exact ⟨_, rfl, f1, f2, f3, ⟨N ||| 2 ^ q_lV cb n p, q_orl hN (by omega), by rw [q_ms, if_pos ⟨rfl, rfl⟩], fun _ => rfl⟩, fun _ => q_LA_sm (e4 hc) f4, fun g => absurd hc g⟩
  · rw [if_neg hc, q_orb N hN _ (by omega)]
    obtain ⟨f1, f2, f3, f4⟩ := fr (nI (N ||| 2 ^ lo))
    refine ⟨_, rfl, f1, f2, f3, ⟨N ||| 2 ^ lo, q_orl hN (by omega), by rw [q_ms, if_pos ⟨rfl, rfl⟩], fun g => absurd g hc⟩, fun g => absurd g hc, fun g => ?_⟩
    rw [f4 12 (by omega) (by omega), f4 13 (by omega) (by omega)]; exact e5 g
theorem w_handHere_b {c : Nat} (h0 : 0 < c) (hc : c < 100) (h : σ 67 12 = nI c) (x1 x2 x3 : Int32) : f_X7_handHere x1 x2 x3 σ = some (x1, k_mset σ 67 8 ((σ 67 8) ||| (k_shl 1 x1))) := by
  unfold f_X7_handHere
  rw [w_other_b h0 hc h, q_bd]
end
