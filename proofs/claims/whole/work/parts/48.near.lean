/-! PURE: near; a pen by which one is taken best -/
/-- over all a < b: the step st -/
def q_ni {S : Type} (st : Nat → Nat → S → S) (a : Nat) : Nat → Nat → S → S
  | _, 0, s => s
  | b, n + 1, s => q_ni st a (b + 1) n (st a b s)
def q_nu {S : Type} (st : Nat → Nat → S → S) : Nat → Nat → S → S
  | _, 0, s => s
  | a, n + 1, s => q_nu st (a + 1) n (q_ni st a (a + 1) (7 - a) s)
theorem q_ni_p {S : Type} {st : Nat → Nat → S → S} {P : S → Prop} (h : ∀ a b s, P s → P (st a b s)) {a : Nat} : ∀ (n b : Nat) (s : S), P s → P (q_ni st a b n s)
  | 0, _, _, hs => hs
  | n + 1, b, s, hs => q_ni_p h n (b + 1) _ (h a b s hs)
theorem q_nu_p {S : Type} {st : Nat → Nat → S → S} {P : S → Prop} (h : ∀ a b s, P s → P (st a b s)) : ∀ (n a : Nat) (s : S), P s → P (q_nu st a n s)
  | 0, _, _, hs => hs
  | n + 1, a, s, hs => q_nu_p h n (a + 1) _ (q_ni_p h (7 - a) (a + 1) s hs)
def q_ns (τ : k_TW) (a b : Nat) (s : Option (Nat × Nat)) : Option (Nat × Nat) := if (q_H τ a && q_H τ b) = true then (match s with
  | none => some (q_ul τ a b, 10 * a + b)
  | some p => if q_ul τ a b < p.1 then some (q_ul τ a b, 10 * a + b) else some p) else s
def q_nB (s : Option (Nat × Nat)) : Prop := ∀ p, s = some p → p.1 < 1000 ∧ p.2 < 1000
section NE
variable {τ : k_TW}
theorem q_nsB (hI : q_I τ) (a b : Nat) (s : Option (Nat × Nat)) (h : q_nB s) : q_nB (q_ns τ a b s) := by
  unfold q_ns
  by_cases hh : (q_H τ a && q_H τ b) = true
  · rw [if_pos hh]
    simp only [Bool.and_eq_true] at hh
    have h18 := q_ul18 hI hh.1 hh.2
    have a8 := q_H8 hI hh.1
    have b8 := q_H8 hI hh.2
    cases s with
    | none =>
      intro p e; cases e
      exact ⟨by show q_ul τ a b < 1000; omega, by show 10 * a + b < 1000; omega⟩
    | some q =>
      intro p e
      by_cases h2 : q_ul τ a b < q.1
      · simp only [if_pos h2] at e; cases e
        exact ⟨by show q_ul τ a b < 1000; omega, by show 10 * a + b < 1000; omega⟩
      · simp only [if_neg h2] at e; cases e
        exact h q rfl
  · rw [if_neg hh]; exact h
theorem v_near_i (hI : q_I τ) {σ : k_Mem} (hC : q_C 6 τ σ) {x1 : Int32} {a : Nat} (ha : a < 8) (k20 : Int32 → Int32 → Int32 → Int32 → k_Mem → Option (Int32 × k_Mem)) : ∀ (m b f : Nat) (s : Option (Nat × Nat)), b + m = 8 → m < f → q_nB s → l_X6_near_33 k20 f x1 (q_e4 (s.map (fun p => p.2))) (q_e4 (s.map (fun p => p.1))) (nI a) (nI b) σ = k20 x1 (q_e4 ((q_ni (q_ns τ) a b m s).map (fun p => p.2))) (q_e4 ((q_ni (q_ns τ) a b m s).map (fun p => p.1))) (nI (a + 1)) σ := by
  intro m
  induction m with
  | zero =>
    intro b f s h1 h2 hs
    obtain ⟨f, rfl⟩ : ∃ g, f = g + 1 := ⟨f - 1, by omega⟩
    rw [l_X6_near_33, show (8 : Int32) = nI 8 from rfl, if_pos (nI_le (by omega) (by omega)), show nI a + 1 = nI (a + 1) from nI_1 a]; rfl
  | succ m ih =>
    intro b f s h1 h2 hs
    obtain ⟨f, rfl⟩ : ∃ g, f = g + 1 := ⟨f - 1, by omega⟩
    have hih := ih (b + 1) f (q_ns τ a b s) (by omega) (by omega) (q_nsB hI a b s hs)
    rw [l_X6_near_33, show (8 : Int32) = nI 8 from rfl, if_neg (nI_ge (by omega) (by omega)), v_isHand hI hC (by omega), q_bd]
    simp only [q_b0, j_X6_near_104, j_X6_near_92, show nI b + 1 = nI (b + 1) from nI_1 b]
    rw [show q_ni (q_ns τ) a b (m + 1) s = q_ni (q_ns τ) a (b + 1) m (q_ns τ a b s) from rfl, ← hih]
    cases hA : q_H τ a
    · rw [if_pos rfl, show q_ns τ a b s = s by simp [q_ns, hA]]
    · rw [if_neg (by decide), v_isHand hI hC (by omega), q_bd]
      simp only [q_b0]
      cases hB : q_H τ b
      · rw [if_pos rfl, show q_ns τ a b s = s by simp [q_ns, hB]]
      · have h18 := q_ul18 hI hA hB
        rw [if_neg (by decide), v_unlike hI (q_C_Cy hC) hA hB, q_bd, show (10 : Int32) = nI 10 from rfl, q_mul, q_add]
        cases s with
        | none =>
          rw [show q_ns τ a b none = some (q_ul τ a b, 10 * a + b) by simp [q_ns, hA, hB]]
          rw [if_pos (show q_e4 (Option.map (fun p : Nat × Nat => p.1) none) = -4 from rfl)]; rfl
        | some p =>
          have hp := hs p rfl
          rw [if_neg (show ¬ q_e4 (Option.map (fun p : Nat × Nat => p.1) (some p)) = -4 by show ¬ nI p.1 = -4; rw [q_m4 (by omega)]; exact id)]
          rw [show q_e4 (Option.map (fun p : Nat × Nat => p.1) (some p)) = nI p.1 from rfl]
          simp (disch := omega) only [q_le]
          by_cases hlt : q_ul τ a b < p.1
          · rw [if_neg (by omega), show q_ns τ a b (some p) = some (q_ul τ a b, 10 * a + b) by simp [q_ns, hA, hB, hlt]]; rfl
          · rw [if_pos (by omega), show q_ns τ a b (some p) = some p by simp [q_ns, hA, hB, hlt]]; rfl
theorem v_near_o (hI : q_I τ) {σ : k_Mem} (hC : q_C 6 τ σ) {x1 : Int32} : ∀ (m a f : Nat) (s : Option (Nat × Nat)), a + m = 8 → m < f → q_nB s → l_X6_near_20 f x1 (q_e4 (s.map (fun p => p.2))) (q_e4 (s.map (fun p => p.1))) (nI a) σ = some (if x1 = 0 then q_e4 ((q_nu (q_ns τ) a m s).map (fun p => p.2)) else q_e4 ((q_nu (q_ns τ) a m s).map (fun p => p.1)), σ) := by
  intro m
  induction m with
  | zero =>
    intro a f s h1 h2 hs
    obtain ⟨f, rfl⟩ : ∃ g, f = g + 1 := ⟨f - 1, by omega⟩
    rw [l_X6_near_20, show (8 : Int32) = nI 8 from rfl, if_pos (nI_le (by omega) (by omega))]
    by_cases h : x1 = 0
    · rw [if_pos h, if_pos h]; rfl
    · rw [if_neg h, if_neg h]; rfl
  | succ m ih =>
    intro a f s h1 h2 hs
    obtain ⟨f, rfl⟩ : ∃ g, f = g + 1 := ⟨f - 1, by omega⟩
    rw [l_X6_near_20, show (8 : Int32) = nI 8 from rfl, if_neg (nI_ge (by omega) (by omega)), show nI a + 1 = nI (a + 1) from nI_1 a, v_near_i hI hC (by omega) _ (7 - a) (a + 1) 1000 s (by omega) (by omega) hs]
    exact ih (a + 1) f _ (by omega) (by omega) (q_ni_p (P := q_nB) (q_nsB hI) (7 - a) (a + 1) s hs)
def q_e6 (o : Option Nat) : Int32 := match o with
  | none => 1000000
  | some x => nI x
theorem w_near_i (hI : q_I τ) {σ : k_Mem} (hN : q_N τ σ) (hM : q_M 0 τ σ) {x1 : Int32} {a : Nat} (ha : a < 8) (k22 : Int32 → Int32 → Int32 → Int32 → k_Mem → Option (Int32 × k_Mem)) : ∀ (m b f : Nat) (s : Option (Nat × Nat)), b + m = 8 → m < f → q_nB s → l_X7_near_35 k22 f x1 (q_e6 (s.map (fun p => p.1))) (q_e4 (s.map (fun p => p.2))) (nI a) (nI b) σ = k22 x1 (q_e6 ((q_ni (q_ns τ) a b m s).map (fun p => p.1))) (q_e4 ((q_ni (q_ns τ) a b m s).map (fun p => p.2))) (nI (a + 1)) σ := by
  intro m
  induction m with
  | zero =>
    intro b f s h1 h2 hs
    obtain ⟨f, rfl⟩ : ∃ g, f = g + 1 := ⟨f - 1, by omega⟩
    rw [l_X7_near_35, show (8 : Int32) = nI 8 from rfl, if_pos (nI_le (by omega) (by omega)), show nI a + 1 = nI (a + 1) from nI_1 a]; rfl
  | succ m ih =>
    intro b f s h1 h2 hs
    obtain ⟨f, rfl⟩ : ∃ g, f = g + 1 := ⟨f - 1, by omega⟩
    have hih := ih (b + 1) f (q_ns τ a b s) (by omega) (by omega) (q_nsB hI a b s hs)
    rw [l_X7_near_35, show (8 : Int32) = nI 8 from rfl, if_neg (nI_ge (by omega) (by omega)), w_isHand hI hN (by omega), q_bd]
    simp only [q_b0, j_X7_near_90, show nI b + 1 = nI (b + 1) from nI_1 b]
    rw [show q_ni (q_ns τ) a b (m + 1) s = q_ni (q_ns τ) a (b + 1) m (q_ns τ a b s) from rfl, ← hih]
    cases hA : q_H τ a
    · rw [if_pos rfl, show q_ns τ a b s = s by simp [q_ns, hA]]
    · rw [if_neg (by decide), w_isHand hI hN (by omega), q_bd]
      simp only [q_b0]
      cases hB : q_H τ b
      · rw [if_pos rfl, show q_ns τ a b s = s by simp [q_ns, hB]]
      · have h18 := q_ul18 hI hA hB
        rw [if_neg (by decide), w_unlike hI (q_M_My hM) hA hB, q_bd, w_unlike hI (q_M_My hM) hA hB, q_bd, show (10 : Int32) = nI 10 from rfl, q_mul, q_add]
        cases s with
        | none =>
          rw [show q_ns τ a b none = some (q_ul τ a b, 10 * a + b) by simp [q_ns, hA, hB]]
          rw [if_neg (show ¬ q_e6 (Option.map (fun p : Nat × Nat => p.1) none) ≤ nI (q_ul τ a b) from nI_ge (b := 1000000) (by omega) (by omega))]; rfl
        | some p =>
          have hp := hs p rfl
          rw [show q_e6 (Option.map (fun p : Nat × Nat => p.1) (some p)) = nI p.1 from rfl]
          simp (disch := omega) only [q_le]
          by_cases hlt : q_ul τ a b < p.1
          · rw [if_neg (by omega), show q_ns τ a b (some p) = some (q_ul τ a b, 10 * a + b) by simp [q_ns, hA, hB, hlt]]; rfl
          · rw [if_pos (by omega), show q_ns τ a b (some p) = some p by simp [q_ns, hA, hB, hlt]]; rfl
theorem w_near_o (hI : q_I τ) {σ : k_Mem} (hN : q_N τ σ) (hM : q_M 0 τ σ) {x1 : Int32} : ∀ (m a f : Nat) (s : Option (Nat × Nat)), a + m = 8 → m < f → q_nB s → l_X7_near_22 f x1 (q_e6 (s.map (fun p => p.1))) (q_e4 (s.map (fun p => p.2))) (nI a) σ = some (if x1 = 0 then q_e4 ((q_nu (q_ns τ) a m s).map (fun p => p.2)) else q_e4 ((q_nu (q_ns τ) a m s).map (fun p => p.1)), σ) := by
  intro m
  induction m with
  | zero =>
    intro a f s h1 h2 hs
    obtain ⟨f, rfl⟩ : ∃ g, f = g + 1 := ⟨f - 1, by omega⟩
    rw [l_X7_near_22, show (8 : Int32) = nI 8 from rfl, if_pos (nI_le (by omega) (by omega))]
    cases s with
    | none => rw [if_pos (show q_e4 (Option.map (fun p : Nat × Nat => p.2) none) = -4 from rfl)]; split <;> rfl
    | some p =>
      have hp := hs p rfl
      rw [if_neg (show ¬ q_e4 (Option.map (fun p : Nat × Nat => p.2) (some p)) = -4 by show ¬ nI p.2 = -4; rw [q_m4 (by omega)]; exact id)]
      by_cases h : x1 = 0
      · rw [if_pos h, if_pos h]; rfl
      · rw [if_neg h, if_neg h]; rfl
  | succ m ih =>
    intro a f s h1 h2 hs
    obtain ⟨f, rfl⟩ : ∃ g, f = g + 1 := ⟨f - 1, by omega⟩
    rw [l_X7_near_22, show (8 : Int32) = nI 8 from rfl, if_neg (nI_ge (by omega) (by omega)), show nI a + 1 = nI (a + 1) from nI_1 a, w_near_i hI hN hM (by omega) _ (7 - a) (a + 1) 1000 s (by omega) (by omega) hs]
    exact ih (a + 1) f _ (by omega) (by omega) (q_ni_p (P := q_nB) (q_nsB hI) (7 - a) (a + 1) s hs)
end NE
theorem o_near (x : Int32) : q_Op (fun σ => f_X6_near x σ) (fun σ => f_X7_near x σ) := q_q0 (fun τ im σ h => by
  obtain ⟨hI, hC, hN, hM, -⟩ := h
  unfold f_X6_near f_X7_near
  rw [show (1 : Int32) = nI 1 from rfl, q_gd, w_in x 1 (by omega) 1 (by decide), q_bd]
  by_cases hx : 0 ≤ x ∧ x ≤ nI 1
  · rw [if_pos hx, if_pos hx, if_neg q_10]
    exact ⟨_, v_near_o hI hC 8 0 1000 none (by omega) (by omega) (fun p h => by cases h), w_near_o hI hN hM 8 0 1000 none (by omega) (by omega) (fun p h => by cases h)⟩
  · rw [if_neg hx, if_neg hx, if_pos rfl]
    exact ⟨_, rfl, rfl⟩)
/-- forge: a pen after another -/
def q_fv (τ : k_TW) (a : Nat) : Nat := match q_pa (q_can τ) (q_lk τ) 0 a with
  | none => 0
  | some c => q_lk τ a c + 1
def q_fs (τ : k_TW) (a p : Nat) (s : Option (Nat × Option Nat × Nat)) : Option (Nat × Option Nat × Nat) := if q_H τ p = true then (match s with
  | none => some (p, q_pa (q_can (q_up τ 4 a p)) (q_lk (q_up τ 4 a p)) 0 a, q_fv (q_up τ 4 a p) a)
  | some q => if q.2.2 < q_fv (q_up τ 4 a p) a then some (p, q_pa (q_can (q_up τ 4 a p)) (q_lk (q_up τ 4 a p)) 0 a, q_fv (q_up τ 4 a p) a) else some q) else s
def q_fu (τ : k_TW) (a : Nat) : Nat → Nat → Option (Nat × Option Nat × Nat) → Option (Nat × Option Nat × Nat)
  | _, 0, s => s
  | p, n + 1, s => q_fu τ a (p + 1) n (q_fs τ a p s)
def q_fB (s : Option (Nat × Option Nat × Nat)) : Prop := ∀ q, s = some q → q.1 < 8 ∧ q.2.2 ≤ 24 ∧ ∀ c, q.2.1 = some c → c < 8
theorem q_up_up (τ : k_TW) (t a v w : Nat) : q_up (q_up τ t a v) t a w = q_up τ t a w := by
  funext t' a'
  unfold q_up
  by_cases h : t' = t ∧ a' = a
  · rw [if_pos h, if_pos h]
  · rw [if_neg h, if_neg h, if_neg h]
theorem q_up_id (τ : k_TW) (t a : Nat) : q_up τ t a (τ t a) = τ := by
  funext t' a'
  unfold q_up
  by_cases h : t' = t ∧ a' = a
  · rw [if_pos h, h.1, h.2]
  · rw [if_neg h]
theorem q_subm {a b : Nat} (ha : a < 2 ^ 30) (hb : b < 2 ^ 30) : (nI a - 1 ≤ nI b - 1) = (a ≤ b) := by
  apply propext
  rw [Int32.le_iff_toInt_le, show (1 : Int32) = nI 1 from rfl, pk_sub_toInt ha (by omega), pk_sub_toInt hb (by omega)]
  omega
section FO
variable {τ : k_TW}
theorem q_pa8 (hI : q_I τ) {x c : Nat} (h : q_pa (q_can τ) (q_lk τ) 0 x = some c) : c < 8 ∧ q_can τ x c = true := by
  have hMt := q_Mt_g (g := 0) hI (s := 0) (by omega)
  rw [q_cg0] at hMt
  exact ⟨(hMt x c h).2.1, (hMt x c h).2.2.1⟩
theorem q_fv24 (hI : q_I τ) {a : Nat} : q_fv τ a ≤ 24 := by
  unfold q_fv
  cases h : q_pa (q_can τ) (q_lk τ) 0 a with
  | none => exact Nat.zero_le _
  | some c =>
    have hc := (q_pa8 hI h).2
    have := q_lk23 hI (q_can_H hc).1 (q_can_H hc).2.1
    show q_lk τ a c + 1 ≤ 24
    omega
theorem q_fsB (hI : q_I τ) {a p : Nat} {s : Option (Nat × Option Nat × Nat)} (h : q_fB s) : q_fB (q_fs τ a p s) := by
  unfold q_fs
  by_cases hp : q_H τ p = true
  · rw [if_pos hp]
    have hI1 : q_I (q_up τ 4 a p) := q_I_up hI (by omega) ⟨by omega, by omega, by omega, by omega, fun _ => hp⟩
    have p8 := q_H8 hI hp
    have new : q_fB (some (p, q_pa (q_can (q_up τ 4 a p)) (q_lk (q_up τ 4 a p)) 0 a, q_fv (q_up τ 4 a p) a)) := fun q e => by
      cases e
      exact ⟨p8, q_fv24 hI1, fun c hc => (q_pa8 hI1 hc).1⟩
    cases s with
    | none => exact new
    | some q =>
      by_cases h2 : q.2.2 < q_fv (q_up τ 4 a p) a
      · simp only [if_pos h2]; exact new
      · simp only [if_neg h2]; exact h
  · rw [if_neg hp]; exact h
theorem q_fu_some {a : Nat} (ha : q_H τ a = true) : ∀ (n p : Nat) (s : Option (Nat × Option Nat × Nat)), (s.isSome = true ∨ (p ≤ a ∧ a < p + n)) → (q_fu τ a p n s).isSome = true
  | 0, p, s, h => by rcases h with h | h; exact h; omega
  | n + 1, p, s, h => by
    rw [q_fu]
    refine q_fu_some ha n (p + 1) _ ?_
    by_cases hs : s.isSome = true
    · left
      obtain ⟨q, rfl⟩ := Option.isSome_iff_exists.mp hs
      unfold q_fs
      by_cases hp : q_H τ p = true
      · rw [if_pos hp]; split <;> try rfl
        rename_i heq; cases heq; split <;> rfl
      · rw [if_neg hp]; rfl
    · by_cases hpa : p = a
      · left
        subst hpa
        cases s with
        | none => unfold q_fs; rw [if_pos ha]; rfl
        | some q => exact absurd rfl hs
      · right
        rcases h with h | h
        · exact absurd h hs
        · omega
def q_f1 (s : Option (Nat × Option Nat × Nat)) : Int32 := match s with
  | none => -1
  | some q => nI q.1
def q_f2 (s : Option (Nat × Option Nat × Nat)) : Int32 := match s with
  | none => -1
  | some q => q_e1 q.2.1
def q_f3 (s : Option (Nat × Option Nat × Nat)) : Int32 := match s with
  | none => 0
  | some q => nI q.2.2 - 1
theorem v_forge_l (hI : q_I τ) {a : Nat} (ha : q_H τ a = true) {x2 : Int32} : ∀ (m p f : Nat) (s : Option (Nat × Option Nat × Nat)) (p0 : Nat) (σ : k_Mem), p + m = 8 → m < f → q_fB s → q_C 6 τ σ → q_C 14 (q_up τ 4 a p0) σ → ∃ σ1, l_X6_forge_44 f (nI a) x2 (q_f1 s) (q_f2 s) (q_f3 s) (nI p) σ = some (if x2 = 0 then q_e4 ((q_fu τ a p m s).map (fun q => q.1)) else q_e4 ((q_fu τ a p m s).bind (fun q => q.2.1)), σ1) := by
  have a8 := q_H8 hI ha
  intro m
  induction m with
  | zero =>
    intro p f s p0 σ h1 h2 hs hC hC2
    obtain ⟨f, rfl⟩ : ∃ g, f = g + 1 := ⟨f - 1, by omega⟩
    rw [l_X6_forge_44, show (8 : Int32) = nI 8 from rfl, if_pos (nI_le (by omega) (by omega))]
    have e1 : q_f1 s = q_e1 (s.map (fun q => q.1)) := by cases s <;> rfl
    have e2 : q_f2 s = q_e1 (s.bind (fun q => q.2.1)) := by cases s <;> rfl
    rw [e1, e2, v_orNone (fun c h => by
      cases s with
      | none => cases h
      | some q => have h8 := (hs q rfl).1; cases h; show q.1 < 2 ^ 31; omega), v_orNone (fun c h => by
      cases s with
      | none => cases h
      | some q => have := (hs q rfl).2.2 c h; omega), q_bd, q_bd]
    refine ⟨σ, ?_⟩
    rw [show q_fu τ a p 0 s = s from rfl]
    split <;> rfl
  | succ m ih =>
    intro p f s p0 σ h1 h2 hs hC hC2
    obtain ⟨f, rfl⟩ : ∃ g, f = g + 1 := ⟨f - 1, by omega⟩
    rw [l_X6_forge_44, show (8 : Int32) = nI 8 from rfl, if_neg (nI_ge (by omega) (by omega)), v_isHand hI hC (by omega), q_bd]
    simp only [q_b0, j_X6_forge_145, show nI p + 1 = nI (p + 1) from nI_1 p]
    rw [show q_fu τ a p (m + 1) s = q_fu τ a (p + 1) m (q_fs τ a p s) from rfl]
    cases hp : q_H τ p
    · rw [if_pos rfl, show q_fs τ a p s = s by simp [q_fs, hp]]
      exact ih (p + 1) f s p0 σ (by omega) (by omega) hs hC hC2
    · have hI1 : q_I (q_up τ 4 a p) := q_I_up hI (by omega) ⟨by omega, by omega, by omega, by omega, fun _ => hp⟩
      have hC3 : q_C 14 (q_up τ 4 a p) (k_mset σ 19 a (nI p)) := by
        have := q_C_up (v := p) (a := a) hC2 (show 4 < 5 by omega)
        rw [q_up_up] at this; exact this
      obtain ⟨σ1, e1, e2, e3, e4, e5⟩ := v_court (b := 14) (by omega) hI1 hC3 (s := 0) (by omega)
      have hC6 : q_C 6 τ σ1 := q_C_sm hC (fun k k1 k2 => by rw [e5 k (by simp; omega), q_ms_ne _ _ (by omega)])
      rw [if_neg (by decide), q_inT a8 (by omega), if_pos rfl, q_n (by omega), show f_X0_court 14 0 (k_mset σ 19 a (nI p)) = some ((), σ1) from e1, q_bd, if_pos rfl, e4 a a8]
      have fin : ∀ v, v = q_fv (q_up τ 4 a p) a → ∃ σ2, j_X6_forge_120 (fun x1 x2 x3 x4 x5 x6 σ => l_X6_forge_44 f x1 x2 x3 x4 x5 x6 σ) (nI a) x2 (q_f1 s) (q_f2 s) (q_f3 s) (nI p) (q_e1 (q_pa (q_can (q_up τ 4 a p)) (q_lk (q_up τ 4 a p)) 0 a)) (nI v - 1) σ1 = some (if x2 = 0 then q_e4 ((q_fu τ a (p + 1) m (q_fs τ a p s)).map (fun q => q.1)) else q_e4 ((q_fu τ a (p + 1) m (q_fs τ a p s)).bind (fun q => q.2.1)), σ2) := by
        intro v hv
        have v24 := q_fv24 hI1 (a := a)
        have hih := ih (p + 1) f (q_fs τ a p s) p σ1 (by omega) (by omega) (q_fsB hI hs) hC6 e2
        unfold j_X6_forge_120
        simp only [j_X6_forge_134, j_X6_forge_145, show nI p + 1 = nI (p + 1) from nI_1 p]
        cases s with
        | none =>
          rw [if_pos (show q_f1 none = -1 from rfl)]
          rw [show q_fs τ a p none = some (p, q_pa (q_can (q_up τ 4 a p)) (q_lk (q_up τ 4 a p)) 0 a, v) by simp [q_fs, hp, hv]] at hih ⊢
          exact hih
        | some q =>
          obtain ⟨b1, b2, b3⟩ := hs q rfl
          rw [if_neg (show ¬ q_f1 (some q) = -1 by show ¬ nI q.1 = -1; rw [q_m1 (by omega)]; exact id), show q_f3 (some q) = nI q.2.2 - 1 from rfl]
          simp only [q_subm (show v < 2 ^ 30 by omega) (show q.2.2 < 2 ^ 30 by omega)]
          by_cases hlt : q.2.2 < v
          · rw [if_neg (by omega)]
            rw [show q_fs τ a p (some q) = some (p, q_pa (q_can (q_up τ 4 a p)) (q_lk (q_up τ 4 a p)) 0 a, v) by rw [hv] at hlt; simp [q_fs, hp, hv, hlt]] at hih ⊢
            exact hih
          · rw [if_pos (by omega)]
            rw [show q_fs τ a p (some q) = some q by rw [hv] at hlt; simp [q_fs, hp, hlt]] at hih ⊢
            exact hih
      cases hq : q_pa (q_can (q_up τ 4 a p)) (q_lk (q_up τ 4 a p)) 0 a with
      | none =>
        rw [if_pos (show q_e1 none = -1 from rfl)]
        have := fin 0 (by unfold q_fv; rw [hq])
        rw [hq] at this
        exact this
      | some c =>
        obtain ⟨c8, hcan⟩ := q_pa8 hI1 hq
        obtain ⟨k1, k2, k3⟩ := q_can_H hcan
        rw [if_neg (show ¬ q_e1 (some c) = -1 by show ¬ nI c = -1; rw [q_m1 (by omega)]; exact id)]
        unfold f_X0_liking
        rw [show q_e1 (some c) = nI c from rfl, show (8 : Int32) = nI 8 from rfl, q_mul, q_add, q_inT (show a * 8 + c < 64 by omega) (by omega), if_pos rfl, q_n (by omega), e3.2.1 a c k1 k2 k3, q_bd]
        have := fin (q_lk (q_up τ 4 a p) a c + 1) (by unfold q_fv; rw [hq])
        rw [hq, show nI (q_lk (q_up τ 4 a p) a c + 1) - 1 = nI (q_lk (q_up τ 4 a p) a c) from nI_pred _] at this
        exact this
def q_f4 (s : Option (Nat × Option Nat × Nat)) : Int32 := match s with
  | none => 1000000
  | some q => nI q.1
def q_f5 (s : Option (Nat × Option Nat × Nat)) : Int32 := match s with
  | none => -2
  | some q => nI q.2.2 - 1
def q_f6 (s : Option (Nat × Option Nat × Nat)) : Int32 := match s with
  | none => -4
  | some q => q_e4 q.2.1
theorem w_forge_l (hI : q_I τ) {a : Nat} (ha : q_H τ a = true) {x2 had : Int32} : ∀ (m p f : Nat) (s : Option (Nat × Option Nat × Nat)) (p0 : Nat) (σ : k_Mem), p + m = 8 → m < f → q_fB s → (s.isSome = true ∨ p ≤ a) → q_N τ σ → q_M 0 (q_up τ 4 a p0) σ → ∃ σ1, l_X7_forge_46 f (nI a) x2 had (q_f4 s) (q_f5 s) (q_f6 s) (nI p) σ = some (if x2 = 0 then q_e4 ((q_fu τ a p m s).map (fun q => q.1)) else q_e4 ((q_fu τ a p m s).bind (fun q => q.2.1)), k_mset σ1 68 (32 + a) had) ∧ (∀ i, i ≠ 32 + a → σ1 68 i = σ 68 i) ∧ k_Sm [68, 73, 74, 75] σ σ1 := by
  have a8 := q_H8 hI ha
  intro m
  induction m with
  | zero =>
    intro p f s p0 σ h1 h2 hs hso hN hM
    obtain ⟨f, rfl⟩ : ∃ g, f = g + 1 := ⟨f - 1, by omega⟩
    rw [l_X7_forge_46, show (8 : Int32) = nI 8 from rfl, if_pos (nI_le (by omega) (by omega)), show (32 : Int32) = nI 32 from rfl, q_add, q_inT (show 32 + a < 250 by omega) (by omega), if_pos rfl, q_n (by omega), show q_fu τ a p 0 s = s from rfl]
    refine ⟨σ, ?_, fun _ _ => rfl, sm_rf⟩
    cases s with
    | none => rcases hso with h | h; cases h; omega
    | some q => split <;> rfl
  | succ m ih =>
    intro p f s p0 σ h1 h2 hs hso hN hM
    obtain ⟨f, rfl⟩ : ∃ g, f = g + 1 := ⟨f - 1, by omega⟩
    rw [l_X7_forge_46, show (8 : Int32) = nI 8 from rfl, if_neg (nI_ge (by omega) (by omega)), w_isHand hI hN (by omega), q_bd]
    simp only [q_b0, j_X7_forge_165, show nI p + 1 = nI (p + 1) from nI_1 p]
    rw [show q_fu τ a p (m + 1) s = q_fu τ a (p + 1) m (q_fs τ a p s) from rfl]
    have hso' : (q_fs τ a p s).isSome = true ∨ p + 1 ≤ a := by
      have := q_fu_some ha 1 p s
      by_cases hpa : p < a
      · exact Or.inr hpa
      · left
        refine this ?_
        rcases hso with h | h
        · exact Or.inl h
        · exact Or.inr ⟨h, by omega⟩
    cases hp : q_H τ p
    · rw [if_pos rfl]
      rw [show q_fs τ a p s = s by simp [q_fs, hp]] at hso' ⊢
      exact ih (p + 1) f s p0 σ (by omega) (by omega) hs hso' hN hM
    · have hI1 : q_I (q_up τ 4 a p) := q_I_up hI (by omega) ⟨by omega, by omega, by omega, by omega, fun _ => hp⟩
      have hM3 : q_M 0 (q_up τ 4 a p) (k_mset σ 68 (32 + a) (nI p - nI a)) := by
        by_cases h0 : q_I (q_up τ 4 a p0)
        · have := q_M_pen (v := p) (a := a) h0 hM a8
          rw [q_up_up, show 0 + 32 + a = 32 + a by omega] at this; exact this
        · refine q_M_mk (fun t' a' ht' ha' => ?_) (fun a' ha' => ?_) (fun a' ha' => ?_) ?_ ?_
          · rw [q_H_up (by omega)] at ha'
            have := q_H8 hI ha'
            rw [q_ms, if_neg (by omega), q_up_t (by omega), ← q_up_t (τ := τ) (t := 4) (a := a) (v := p0) (t' := t') (by omega)]; exact q_Mrow hM ht' (by rw [q_H_up (by omega)]; exact ha')
          · rw [q_H_up (by omega)] at ha'
            rw [q_ms]
            by_cases h : a' = a
            · rw [if_pos ⟨rfl, by omega⟩, h, q_up_s]
            · rw [if_neg (by omega), q_up_a h, ← q_up_a (τ := τ) (t := 4) (a := a) (v := p0) (t' := 4) h]; exact (hM.1 a' (by rw [q_H_up (by omega)]; exact ha')).2.2.2.2
          · rw [q_ms, if_neg (by omega), q_ms, if_neg (by omega), q_up_t (by omega), q_up_t (by omega)]
            have := hM.2.1 a' ha'
            rw [q_up_t (by omega), q_up_t (by omega)] at this; exact this
          · rw [q_ms, if_neg (by omega), q_up_t (by omega)]
            have := hM.2.2.1
            rw [q_up_t (by omega)] at this; exact this
          · rw [q_ms, if_neg (by omega), q_up_t (by omega)]
            have := hM.2.2.2
            rw [q_up_t (by omega)] at this; exact this
      have hN3 : q_N (q_up τ 4 a p) (k_mset σ 68 (32 + a) (nI p - nI a)) := by
        unfold q_N; rw [q_up_t (by omega), q_up_t (by omega), q_ms_ne _ _ (by omega)]; exact hN
      obtain ⟨σ1, e1, e2, e3, e4⟩ := w_askingNow hI1 hN3 hM3 (s := 0) (by omega)
      have hN1 : q_N τ σ1 := q_N_sm hN (by rw [e4 67 (by decide), q_ms_ne _ _ (by omega)])
      have hM1 : q_M 0 (q_up τ 4 a p) σ1 := q_M_sm hM3 (e4 68 (by decide))
      have ev68 : ∀ i, i ≠ 32 + a → σ1 68 i = σ 68 i := fun i hi => by rw [e4 68 (by decide), q_ms, if_neg (fun h => hi h.2)]
      have evk : k_Sm [68, 73, 74, 75] σ σ1 := fun k hk => by
        simp only [List.mem_cons, List.not_mem_nil, or_false, not_or] at hk
        rw [e4 k (by simp; exact ⟨hk.2.1, hk.2.2⟩), q_ms_ne _ _ hk.1]
      rw [if_neg (by decide), show (32 : Int32) = nI 32 from rfl, q_add, q_inT (show 32 + a < 250 by omega) (by omega), if_pos rfl, q_n (by omega), show f_X7_askingNow 0 (k_mset σ 68 (32 + a) (nI p - nI a)) = some ((), σ1) from e1, q_bd, q_inT a8 (by omega), if_pos rfl, q_n (by omega), e3 a a8]
      have fin : ∀ v, v = q_fv (q_up τ 4 a p) a → ∃ σ2, j_X7_forge_111 (fun x1 x2 x3 x4 x5 x6 x7 σ => l_X7_forge_46 f x1 x2 x3 x4 x5 x6 x7 σ) (nI a) x2 had (q_f4 s) (q_f5 s) (q_f6 s) (nI p) (nI v - 1) σ1 = some (if x2 = 0 then q_e4 ((q_fu τ a (p + 1) m (q_fs τ a p s)).map (fun q => q.1)) else q_e4 ((q_fu τ a (p + 1) m (q_fs τ a p s)).bind (fun q => q.2.1)), k_mset σ2 68 (32 + a) had) ∧ (∀ i, i ≠ 32 + a → σ2 68 i = σ 68 i) ∧ k_Sm [68, 73, 74, 75] σ σ2 := by
        intro v hv
        have v24 := q_fv24 hI1 (a := a)
        obtain ⟨σ2, g1, g2, g3⟩ := ih (p + 1) f (q_fs τ a p s) p σ1 (by omega) (by omega) (q_fsB hI hs) hso' hN1 hM1
        refine ⟨σ2, ?_, fun i hi => by rw [g2 i hi, ev68 i hi], k_Sm_tr evk g3⟩
        simp only [j_X7_forge_111, j_X7_forge_127, j_X7_forge_147, j_X7_forge_163, j_X7_forge_165, show nI p + 1 = nI (p + 1) from nI_1 p, q_inT a8 (by omega : 8 < 2 ^ 31), if_true, q_n (show a < 2 ^ 31 by omega), e3 a a8]
        cases s with
        | none =>
          have hc : ¬ nI v - 1 ≤ q_f5 none := by
            show ¬ nI v - 1 ≤ -2
            rw [Int32.le_iff_toInt_le, show (1 : Int32) = nI 1 from rfl, pk_sub_toInt (by omega) (by omega), show (-2 : Int32).toInt = -2 by decide]; omega
          simp only [if_neg hc]
          rw [show q_fs τ a p none = some (p, q_pa (q_can (q_up τ 4 a p)) (q_lk (q_up τ 4 a p)) 0 a, v) by simp [q_fs, hp, hv]] at g1 ⊢
          exact g1
        | some q =>
          obtain ⟨b1, b2, b3⟩ := hs q rfl
          rw [show q_f5 (some q) = nI q.2.2 - 1 from rfl]
          simp only [q_subm (show v < 2 ^ 30 by omega) (show q.2.2 < 2 ^ 30 by omega)]
          by_cases hlt : q.2.2 < v
          · have hn : ¬ v ≤ q.2.2 := by omega
            simp only [if_neg hn]
            rw [show q_fs τ a p (some q) = some (p, q_pa (q_can (q_up τ 4 a p)) (q_lk (q_up τ 4 a p)) 0 a, v) by rw [hv] at hlt; simp [q_fs, hp, hv, hlt]] at g1 ⊢
            exact g1
          · have hn : v ≤ q.2.2 := by omega
            simp only [if_pos hn]
            rw [show q_fs τ a p (some q) = some q by rw [hv] at hlt; simp [q_fs, hp, hlt]] at g1 ⊢
            exact g1
      cases hq : q_pa (q_can (q_up τ 4 a p)) (q_lk (q_up τ 4 a p)) 0 a with
      | none =>
        rw [if_pos (show q_e4 none = -4 from rfl)]
        exact fin 0 (by unfold q_fv; rw [hq])
      | some c =>
        obtain ⟨c8, hcan⟩ := q_pa8 hI1 hq
        rw [if_neg (show ¬ q_e4 (some c) = -4 by show ¬ nI c = -4; rw [q_m4 (by omega)]; exact id), show q_e4 (some c) = nI c from rfl, if_pos rfl, q_mul, q_add, q_inT (show 8 * a + c < 64 by omega) (by omega), if_pos rfl, q_n (by omega), e2 a c a8 c8, show q_ta (q_up τ 4 a p) 0 a c = nI (q_lk (q_up τ 4 a p) a c) by simp [q_ta, q_cg0, hcan]]
        have := fin (q_lk (q_up τ 4 a p) a c + 1) (by unfold q_fv; rw [hq])
        rw [show nI (q_lk (q_up τ 4 a p) a c + 1) - 1 = nI (q_lk (q_up τ 4 a p) a c) from nI_pred _] at this
        exact this
end FO
theorem o_forge (x y : Int32) : q_Op (fun σ => f_X6_forge x y σ) (fun σ => f_X7_forge x y σ) := q_qr (fun τ im σ h => by
  obtain ⟨hI, hC, hN, hM, -⟩ := h
  have fr6 := fr_f_X6_forge x y σ
  unfold f_X6_forge at fr6 ⊢
  unfold f_X7_forge
  rcases q_hand x (im := im) hI with ⟨a, a8, rfl, ha⟩ | ⟨h1, h2⟩
  · rw [v_isH1 hI hC ha, q_bd, if_neg q_10, q_gd] at fr6 ⊢
    by_cases hy : 0 ≤ y ∧ y ≤ nI 1
    · obtain ⟨σ1, e1, e2, e3⟩ := v_become (b0 := 14) (b1 := 6) hI (by omega) hC
      have hC1 : q_C 6 τ σ1 := q_C_sm hC (fun k k1 k2 => e3 k (by simp; omega))
      obtain ⟨σ3, f1⟩ := v_forge_l (x2 := y) hI ha 8 0 1000 none (τ 4 a) σ1 (by omega) (by omega) (fun q h => by cases h) hC1 (by rw [q_up_id]; exact e2)
      rw [show q_f1 none = -1 from rfl, show q_f2 none = -1 from rfl, show q_f3 none = 0 from rfl, show nI 0 = 0 from rfl] at f1
      rw [if_pos (show 0 ≤ y ∧ y ≤ 1 from hy), e1, q_bd, f1] at fr6 ⊢
      refine ⟨_, σ3, rfl, k_Sm_mono (fr6 _ σ3 rfl) (by decide), fun σ' h' => ?_⟩
      have hR' := h'
      obtain ⟨-, hC', hN', hM', -⟩ := h'
      have e32 : σ' 68 (32 + a) = nI (τ 4 a) - nI a := by have := (hM'.1 a ha).2.2.2.2; rwa [show 0 + 32 + a = 32 + a by omega] at this
      obtain ⟨σ4, g1, g2, g3⟩ := w_forge_l (x2 := y) (had := nI (τ 4 a) - nI a) hI ha 8 0 1000 none (τ 4 a) σ' (by omega) (by omega) (fun q h => by cases h) (Or.inr (by omega)) hN' (by rw [q_up_id]; exact hM')
      rw [w_isH1 hI hN' ha, q_bd, if_neg q_10, w_in y 1 (by omega) 1 (by decide), q_bd, if_pos hy, if_neg q_10, show (32 : Int32) = nI 32 from rfl, q_add, q_inT (show 32 + a < 250 by omega) (by omega), if_pos rfl, q_n (by omega), e32]
      rw [show q_f4 none = 1000000 from rfl, show q_f5 none = -2 from rfl, show q_f6 none = -4 from rfl, show nI 0 = 0 from rfl] at g1
      rw [g1]
      refine ⟨_, rfl, q_R_68 hR' (fun k hk => ?_) (fun i hi => ?_)⟩
      · have h68 : k ≠ 68 := fun e => hk (by rw [e]; exact List.mem_cons_self)
        rw [q_ms_ne _ _ h68, g3 k (fun h => hk (by
          simp only [List.mem_cons, List.not_mem_nil, or_false] at h
          rcases h with rfl | rfl | rfl | rfl <;> decide))]
      · rw [q_ms]
        by_cases hi2 : i = 32 + a
        · rw [if_pos ⟨rfl, hi2⟩, hi2, e32]
        · rw [if_neg (fun h => hi2 h.2), g2 i hi2]
    · rw [if_neg (show ¬ (0 ≤ y ∧ y ≤ 1) from hy)] at fr6 ⊢
      refine ⟨_, _, rfl, sm_rf, fun σ' h' => ?_⟩
      rw [w_isH1 hI h'.2.2.1 ha, q_bd, if_neg q_10, w_in y 1 (by omega) 1 (by decide), q_bd, if_neg hy, if_pos rfl]
      exact ⟨_, rfl, h'⟩
  · rw [h1 6 σ hC, q_bd, if_pos rfl]
    refine ⟨_, _, rfl, sm_rf, fun σ' h' => ?_⟩
    rw [h2 σ' h'.2.2.1, q_bd, if_pos rfl]
    exact ⟨_, rfl, h'⟩)
