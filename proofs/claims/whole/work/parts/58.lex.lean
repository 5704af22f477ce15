/-! PURE: the tape, token by token -/
def q_rn (cb : Nat → Nat) (n lo hi : Nat) : Nat → Nat → Nat
  | 0, p => p
  | m + 1, p => if p < n ∧ lo ≤ cb p ∧ cb p ≤ hi then q_rn cb n lo hi m (p + 1) else p
def q_re (cb : Nat → Nat) (n lo hi p : Nat) : Nat := q_rn cb n lo hi (n - p) p
section
variable {cb : Nat → Nat} {n lo hi : Nat}
theorem q_re_y {p : Nat} (h : p < n) (h1 : lo ≤ cb p) (h2 : cb p ≤ hi) : q_re cb n lo hi p = q_re cb n lo hi (p + 1) := by
  unfold q_re
  rw [show n - p = (n - (p + 1)) + 1 by omega, q_rn, if_pos ⟨h, h1, h2⟩]
theorem q_re_n {p : Nat} (h : ¬ (p < n ∧ lo ≤ cb p ∧ cb p ≤ hi)) : q_re cb n lo hi p = p := by
  unfold q_re
  cases n - p with
  | zero => rfl
  | succ m => rw [q_rn, if_neg h]
theorem q_re_p : ∀ (m p : Nat), n - p ≤ m → p ≤ q_re cb n lo hi p ∧ (p ≤ n → q_re cb n lo hi p ≤ n) ∧ (q_re cb n lo hi p < n → ¬ (lo ≤ cb (q_re cb n lo hi p) ∧ cb (q_re cb n lo hi p) ≤ hi)) ∧ ∀ i, p ≤ i → i < q_re cb n lo hi p → lo ≤ cb i ∧ cb i ≤ hi := by
  intro m
  induction m with
  | zero =>
    intro p hp
    have e : q_re cb n lo hi p = p := q_re_n (fun h => by omega)
    rw [e]
    exact ⟨Nat.le_refl _, fun h => h, fun h => by omega, fun i h1 h2 => by omega⟩
  | succ m ih =>
    intro p hp
    by_cases h : p < n ∧ lo ≤ cb p ∧ cb p ≤ hi
    · obtain ⟨e1, e2, e3, e4⟩ := ih (p + 1) (by omega)
      rw [q_re_y h.1 h.2.1 h.2.2]
      refine ⟨by omega, fun _ => e2 (by omega), e3, fun i h1 h2 => ?_⟩
      by_cases hi' : i = p
      · subst hi'; exact h.2
      · exact e4 i (by omega) h2
    · have e : q_re cb n lo hi p = p := q_re_n h
      rw [e]
      exact ⟨Nat.le_refl _, fun h => h, fun h1 h2 => h ⟨h1, h2⟩, fun i h1 h2 => by omega⟩
theorem q_re_ge (p : Nat) : p ≤ q_re cb n lo hi p := (q_re_p _ p (Nat.le_refl _)).1
theorem q_re_le {p : Nat} (h : p ≤ n) : q_re cb n lo hi p ≤ n := (q_re_p _ p (Nat.le_refl _)).2.1 h
theorem q_re_at {p : Nat} (h : q_re cb n lo hi p < n) : ¬ (lo ≤ cb (q_re cb n lo hi p) ∧ cb (q_re cb n lo hi p) ≤ hi) := (q_re_p _ p (Nat.le_refl _)).2.2.1 h
theorem q_re_b {p i : Nat} (h : p ≤ i) (h2 : i < q_re cb n lo hi p) : lo ≤ cb i ∧ cb i ≤ hi := (q_re_p _ p (Nat.le_refl _)).2.2.2 i h h2
end
def q_TP (cb : Nat → Nat) (n : Nat) (σ : k_Mem) : Prop := σ 1 1 = nI n ∧ ∀ i, i < n → cb i < 128 ∧ σ 2 i = nI (cb i)
def q_MP (cb : Nat → Nat) (n : Nat) (σ : k_Mem) : Prop := σ 67 10 = nI n ∧ ∀ i, i < n → cb i < 128 ∧ σ 70 i = nI (cb i)
def q_va (cb : Nat → Nat) (s p : Nat) : Nat := if p = s then 0 else if p = s + 1 then cb s - 48 else 10 * (cb s - 48) + (cb (s + 1) - 48)
def q_lS (cb : Nat → Nat) (n p : Nat) : Nat := q_re cb n 32 32 p
def q_lD (cb : Nat → Nat) (n p : Nat) : Nat := q_re cb n 48 57 (q_lS cb n p)
def q_lT (cb : Nat → Nat) (n p : Nat) : Nat := if n ≤ q_lS cb n p then 0 else if cb (q_lS cb n p) = 59 then 3 else if 97 ≤ cb (q_lS cb n p) ∧ cb (q_lS cb n p) ≤ 122 then 1 else if q_lD cb n p = q_lS cb n p + 1 ∨ q_lD cb n p = q_lS cb n p + 2 then 2 else 4
def q_lE (cb : Nat → Nat) (n p : Nat) : Nat := if q_lT cb n p = 3 then q_lS cb n p + 1 else if q_lT cb n p = 1 then q_re cb n 97 122 (q_lS cb n p) else if q_lT cb n p = 2 then q_lD cb n p else q_lS cb n p
def q_lV (cb : Nat → Nat) (n p : Nat) : Nat := q_va cb (q_lS cb n p) (q_lD cb n p)
section
variable {cb : Nat → Nat} {n : Nat} {σ : k_Mem}
theorem v_re (hn : n ≤ 160) (hT : q_TP cb n σ) {lo hi : Nat} (hlo : lo < 128) (hhi : hi < 128) : ∀ (m p f : Nat), n - p ≤ m → p ≤ n → m < f → l_X4_runEnd_3 f (nI lo) (nI hi) (nI p) σ = some (nI (q_re cb n lo hi p), σ) := by
  intro m
  induction m with
  | zero =>
    intro p f h1 h2 h3
    obtain ⟨f, rfl⟩ : ∃ g, f = g + 1 := ⟨f - 1, by omega⟩
    rw [l_X4_runEnd_3, hT.1, if_pos (nI_le (by omega) (by omega)), q_re_n (fun h => by omega)]
  | succ m ih =>
    intro p f h1 h2 h3
    obtain ⟨f, rfl⟩ : ∃ g, f = g + 1 := ⟨f - 1, by omega⟩
    rw [l_X4_runEnd_3, hT.1]
    by_cases hp : n ≤ p
    · rw [if_pos (nI_le hp (by omega)), q_re_n (fun h => by omega)]
    · obtain ⟨c1, c2⟩ := hT.2 p (by omega)
      rw [if_neg (nI_ge (by omega) (by omega)), q_inT (show p < 160 by omega) (by omega), if_pos rfl, if_pos rfl, q_n (by omega), c2]
      simp (disch := omega) only [q_lt]
      by_cases hl : cb p < lo
      · rw [if_pos hl, q_re_n (fun h => by omega)]
      · rw [if_neg hl]
        by_cases hh : hi < cb p
        · rw [if_pos hh, q_re_n (fun h => by omega)]
        · rw [if_neg hh, show nI p + 1 = nI (p + 1) from nI_1 _, ih (p + 1) f (by omega) (by omega) (by omega), ← q_re_y (by omega) (by omega) (by omega)]
theorem v_runEnd (hn : n ≤ 160) (hT : q_TP cb n σ) {lo hi : Nat} (hlo : lo < 128) (hhi : hi < 128) {p : Nat} (hp : p ≤ n) : f_X4_runEnd (nI p) (nI lo) (nI hi) σ = some (nI (q_re cb n lo hi p), σ) := v_re hn hT hlo hhi 160 p 1000 (by omega) hp (by omega)
/-- the class's token -/
def q_TA (cb : Nat → Nat) (n p : Nat) (σ : k_Mem) : Prop := σ 1 2 = nI (q_lT cb n p) ∧ σ 1 3 = nI (q_lS cb n p) ∧ (q_lT cb n p ≠ 0 → q_lT cb n p ≠ 4 → σ 1 4 = nI (q_lE cb n p)) ∧ (q_lT cb n p = 2 → σ 1 5 = nI (q_lV cb n p))
theorem v_tkn (hn : n ≤ 160) {s e : Nat} (hs : s ≤ e) (he : e ≤ n) (hd : ∀ i, s ≤ i → i < e → 48 ≤ cb i ∧ cb i ≤ 57) (hT : q_TP cb n σ) (h3 : σ 1 3 = nI s) (h4 : σ 1 4 = nI e) : ∃ σ1, f_X4_takeNumber σ = some ((), σ1) ∧ (∀ k, k ≠ 1 → σ1 k = σ k) ∧ (∀ i, i ≠ 2 → i ≠ 5 → σ1 1 i = σ 1 i) ∧ σ1 1 2 = nI (if e = s + 1 ∨ e = s + 2 then 2 else 4) ∧ ((e = s + 1 ∨ e = s + 2) → σ1 1 5 = nI (q_va cb s e)) := by
  unfold f_X4_takeNumber j_X4_takeNumber_21
  rw [h3, h4, q_sub hs]
  have j26 : ∀ x : Int32, (k_mset (k_mset σ 1 2 x) 1 5 0) 1 2 = x ∧ (k_mset (k_mset σ 1 2 x) 1 5 0) 1 3 = nI s := fun x => by
    constructor
    · simp [q_ms]
    · simp [q_ms, h3]
  have two : (e = s + 1 ∨ e = s + 2) → ∃ σ1, j_X4_takeNumber_26 2 σ = some ((), σ1) ∧ (∀ k, k ≠ 1 → σ1 k = σ k) ∧ (∀ i, i ≠ 2 → i ≠ 5 → σ1 1 i = σ 1 i) ∧ σ1 1 2 = nI 2 ∧ σ1 1 5 = nI (q_va cb s e) := by
    intro h12
    unfold j_X4_takeNumber_26
    rw [(j26 2).1, (j26 2).2, if_pos rfl]
    generalize hσ' : k_mset (k_mset σ 1 2 2) 1 5 0 = σ'
    have e1 : ∀ k, k ≠ 1 → σ' k = σ k := fun k hk => by rw [← hσ', q_ms_ne _ _ hk, q_ms_ne _ _ hk]
    have e2 : ∀ i, i ≠ 2 → i ≠ 5 → σ' 1 i = σ 1 i := fun i h2 h5 => by rw [← hσ', q_ms, if_neg (fun h => h5 h.2), q_ms, if_neg (fun h => h2 h.2)]
    have e3 : σ' 1 2 = nI 2 := by rw [← hσ']; exact (j26 2).1
    have e5 : σ' 1 5 = nI 0 := by rw [← hσ']; simp [q_ms]; rfl
    have b0 := hT.2 s (by omega)
    have d0 := hd s (by omega) (by omega)
    have st1 : ∀ f, l_X4_takeNumber_47 (f + 1) (nI s) σ' = l_X4_takeNumber_47 f (nI (s + 1)) (k_mset σ' 1 5 (nI (cb s - 48))) := by
      intro f
      rw [l_X4_takeNumber_47, e2 4 (by omega) (by omega), h4, if_neg (nI_ge (by omega) (by omega)), q_inT (show s < 160 by omega) (by omega), if_pos rfl, q_n (by omega), e5, e1 2 (by omega), b0.2, show (10 : Int32) = nI 10 from rfl, show (48 : Int32) = nI 48 from rfl, q_mul, q_add, q_sub (by omega), show nI s + 1 = nI (s + 1) from nI_1 _, show 0 * 10 + cb s - 48 = cb s - 48 by omega]
    have fr : ∀ v : Int32, (∀ k, k ≠ 1 → (k_mset σ' 1 5 v) k = σ k) ∧ (∀ i, i ≠ 2 → i ≠ 5 → (k_mset σ' 1 5 v) 1 i = σ 1 i) ∧ (k_mset σ' 1 5 v) 1 2 = nI 2 ∧ (k_mset σ' 1 5 v) 1 5 = v := fun v => by
      refine ⟨fun k hk => by rw [q_ms_ne _ _ hk, e1 k hk], fun i h2 h5 => by rw [q_ms, if_neg (fun h => h5 h.2), e2 i h2 h5], by rw [q_ms, if_neg (by omega), e3], by rw [q_ms, if_pos ⟨rfl, rfl⟩]⟩
    rcases h12 with rfl | rfl
    · rw [st1 999, l_X4_takeNumber_47, (fr _).2.1 4 (by omega) (by omega), h4, if_pos (nI_le (by omega) (by omega))]
      refine ⟨_, rfl, (fr _).1, (fr _).2.1, (fr _).2.2.1, ?_⟩
      rw [(fr _).2.2.2]; unfold q_va; rw [if_neg (by omega), if_pos rfl]
    · have b1 := hT.2 (s + 1) (by omega)
      have d1 := hd (s + 1) (by omega) (by omega)
      rw [st1 999, l_X4_takeNumber_47, (fr _).2.1 4 (by omega) (by omega), h4, if_neg (nI_ge (by omega) (by omega)), q_inT (show s + 1 < 160 by omega) (by omega), if_pos rfl, q_n (by omega), (fr _).2.2.2, (fr _).1 2 (by omega), b1.2, show (10 : Int32) = nI 10 from rfl, show (48 : Int32) = nI 48 from rfl, q_mul, q_add, q_sub (by omega), show nI (s + 1) + 1 = nI (s + 2) from nI_1 _]
      have ov : ∀ v w : Int32, k_mset (k_mset σ' 1 5 v) 1 5 w = k_mset σ' 1 5 w := fun v w => by
        funext k i
        rw [q_ms, q_ms, q_ms]
        split <;> rfl
      rw [ov, l_X4_takeNumber_47, (fr _).2.1 4 (by omega) (by omega), h4, if_pos (nI_le (by omega) (by omega))]
      refine ⟨_, rfl, (fr _).1, (fr _).2.1, (fr _).2.2.1, ?_⟩
      rw [(fr _).2.2.2]; unfold q_va; rw [if_neg (by omega), if_neg (by omega), show (cb s - 48) * 10 + cb (s + 1) - 48 = 10 * (cb s - 48) + (cb (s + 1) - 48) by omega]
  by_cases h1 : e = s + 1
  · rw [if_pos (show nI (e - s) = 1 by rw [show e - s = 1 by omega]; rfl)]
    obtain ⟨σ1, k1, k2, k3, k4, k5⟩ := two (Or.inl h1)
    exact ⟨σ1, k1, k2, k3, by rw [if_pos (Or.inl h1)]; exact k4, fun _ => k5⟩
  · rw [if_neg (show ¬ nI (e - s) = 1 by rw [show (1 : Int32) = nI 1 from rfl, q_eq (by omega) (by omega)]; omega)]
    by_cases h2 : e = s + 2
    · rw [if_pos (show nI (e - s) = 2 by rw [show e - s = 2 by omega]; rfl)]
      obtain ⟨σ1, k1, k2, k3, k4, k5⟩ := two (Or.inr h2)
      exact ⟨σ1, k1, k2, k3, by rw [if_pos (Or.inr h2)]; exact k4, fun _ => k5⟩
    · rw [if_neg (show ¬ nI (e - s) = 2 by rw [show (2 : Int32) = nI 2 from rfl, q_eq (by omega) (by omega)]; omega)]
      unfold j_X4_takeNumber_26
      rw [(j26 4).1, if_neg (by decide), if_neg (by omega)]
      refine ⟨_, rfl, fun k hk => by rw [q_ms_ne _ _ hk, q_ms_ne _ _ hk], fun i h2 h5 => by rw [q_ms, if_neg (fun h => h5 h.2), q_ms, if_neg (fun h => h2 h.2)], (j26 4).1, fun h => by omega⟩
theorem v_advance (hn : n ≤ 160) (hT : q_TP cb n σ) {p : Nat} (hp : p ≤ n) (h4 : σ 1 4 = nI p) : ∃ σ1, f_X4_advance σ = some ((), σ1) ∧ (∀ k, k ≠ 1 → σ1 k = σ k) ∧ σ1 1 1 = σ 1 1 ∧ q_TA cb n p σ1 := by
  unfold f_X4_advance
  have hs := q_re_le (cb := cb) (lo := 32) (hi := 32) hp
  rw [h4, show (32 : Int32) = nI 32 from rfl, v_runEnd hn hT (by omega) (by omega) hp, q_bd, show q_re cb n 32 32 p = q_lS cb n p from rfl]
  rw [show q_re cb n 32 32 p = q_lS cb n p from rfl] at hs
  generalize hss : q_lS cb n p = s at hs
  generalize hσ' : k_mset σ 1 3 (nI s) = σ'
  have e1 : ∀ k, k ≠ 1 → σ' k = σ k := fun k hk => by rw [← hσ', q_ms_ne _ _ hk]
  have e2 : ∀ i, i ≠ 3 → σ' 1 i = σ 1 i := fun i hi => by rw [← hσ', q_ms, if_neg (fun h => hi h.2)]
  have e3 : σ' 1 3 = nI s := by rw [← hσ', q_ms, if_pos ⟨rfl, rfl⟩]
  have hT' : q_TP cb n σ' := ⟨by rw [e2 1 (by omega)]; exact hT.1, fun i hi => by rw [e1 2 (by omega)]; exact hT.2 i hi⟩
  rw [e3, hT'.1]
  simp (disch := omega) only [q_lt]
  by_cases hsn : s < n
  · obtain ⟨b1, b2⟩ := hT'.2 s hsn
    have sm : ∀ j (v : Int32), q_TP cb n (k_mset σ' 1 j v) ∨ j = 1 := fun j v => by
      by_cases hj : j = 1
      · exact Or.inr hj
      · exact Or.inl ⟨by rw [q_ms, if_neg (fun h => hj h.2.symm)]; exact hT'.1, fun i hi => by rw [q_ms_ne _ _ (by decide)]; exact hT'.2 i hi⟩
    rw [if_pos hsn, q_inT (show s < 160 by omega) (by omega), if_pos rfl, q_n (by omega), b2]
    by_cases h59 : cb s = 59
    · have ht : q_lT cb n p = 3 := by unfold q_lT; rw [hss, if_neg (by omega), if_pos h59]
      rw [if_pos (show nI (cb s) = 59 by rw [h59]; rfl)]
      refine ⟨_, rfl, fun k hk => by rw [q_ms_ne _ _ hk, q_ms_ne _ _ hk, e1 k hk], by simp [q_ms, e2 1 (by omega)], ?_⟩
      unfold q_TA
      have he : q_lE cb n p = s + 1 := by unfold q_lE; rw [if_pos ht, hss]
      rw [ht, hss, he]
      refine ⟨by simp [q_ms]; rfl, by simp [q_ms, e3], fun _ _ => ?_, fun h => by omega⟩
      rw [q_ms, if_pos ⟨rfl, rfl⟩, q_ms, if_neg (by omega), e3]; exact nI_1 _
    · rw [if_neg (show ¬ nI (cb s) = 59 by rw [show (59 : Int32) = nI 59 from rfl, q_eq (by omega) (by omega)]; exact h59), show (97 : Int32) = nI 97 from rfl, show (122 : Int32) = nI 122 from rfl, v_runEnd hn hT' (by omega) (by omega) (by omega), q_bd, e3]
      have hge := q_re_ge (cb := cb) (n := n) (lo := 97) (hi := 122) s
      have hle := q_re_le (cb := cb) (lo := 97) (hi := 122) (show s ≤ n by omega)
      by_cases hal : 97 ≤ cb s ∧ cb s ≤ 122
      · have ht : q_lT cb n p = 1 := by unfold q_lT; rw [hss, if_neg (by omega), if_neg h59, if_pos hal]
        have hgt : s < q_re cb n 97 122 s := by
          rw [q_re_y hsn hal.1 hal.2]
          have := q_re_ge (cb := cb) (n := n) (lo := 97) (hi := 122) (s + 1)
          omega
        rw [if_neg (nI_ge (by omega) (by omega))]
        have hT2 : q_TP cb n (k_mset σ' 1 2 1) := (sm 2 1).resolve_right (by omega)
        rw [show (k_mset σ' 1 2 1) 1 3 = nI s by rw [q_ms, if_neg (by omega), e3], v_runEnd hn hT2 (by omega) (by omega) (by omega), q_bd]
        refine ⟨_, rfl, fun k hk => by rw [q_ms_ne _ _ hk, q_ms_ne _ _ hk, e1 k hk], by simp [q_ms, e2 1 (by omega)], ?_⟩
        unfold q_TA
        have he : q_lE cb n p = q_re cb n 97 122 s := by unfold q_lE; rw [if_neg (by omega), if_pos ht, hss]
        rw [ht, hss, he]
        exact ⟨by simp [q_ms]; rfl, by simp [q_ms, e3], fun _ _ => by rw [q_ms, if_pos ⟨rfl, rfl⟩], fun h => by omega⟩
      · have heq : q_re cb n 97 122 s = s := q_re_n (fun h => hal h.2)
        rw [heq, if_pos (nI_le (Nat.le_refl _) (by omega)), show (48 : Int32) = nI 48 from rfl, show (57 : Int32) = nI 57 from rfl, v_runEnd hn hT' (by omega) (by omega) (by omega), q_bd]
        have hle2 := q_re_le (cb := cb) (lo := 48) (hi := 57) (show s ≤ n by omega)
        have hge2 := q_re_ge (cb := cb) (n := n) (lo := 48) (hi := 57) s
        have hTD : q_lD cb n p = q_re cb n 48 57 s := by unfold q_lD; rw [hss]
        obtain ⟨σ7, k1, k2, k3, k4, k5⟩ := v_tkn (σ := k_mset σ' 1 4 (nI (q_re cb n 48 57 s))) hn hge2 hle2 (fun i h1 h2 => q_re_b h1 h2) ((sm 4 _).resolve_right (by omega)) (by rw [q_ms, if_neg (by omega), e3]) (by rw [q_ms, if_pos ⟨rfl, rfl⟩])
        rw [k1, q_bd]
        refine ⟨σ7, rfl, fun k hk => by rw [k2 k hk, q_ms_ne _ _ hk, e1 k hk], by rw [k3 1 (by omega) (by omega), q_ms, if_neg (by omega), e2 1 (by omega)], ?_⟩
        have ht : q_lT cb n p = if q_re cb n 48 57 s = s + 1 ∨ q_re cb n 48 57 s = s + 2 then 2 else 4 := by unfold q_lT; rw [hss, if_neg (by omega), if_neg h59, if_neg hal, hTD]
        unfold q_TA
        refine ⟨by rw [ht]; exact k4, by rw [hss, k3 3 (by omega) (by omega), q_ms, if_neg (by omega), e3], fun h0 h4' => ?_, fun h2 => ?_⟩
        · have h2 : q_lT cb n p = 2 := by
            rw [ht] at h4' ⊢
            split at h4'
            · rename_i h; rw [if_pos h]
            · exact absurd rfl h4'
          have he : q_lE cb n p = q_re cb n 48 57 s := by unfold q_lE; rw [if_neg (by omega), if_neg (by omega), if_pos h2, hTD]
          rw [he, k3 4 (by omega) (by omega), q_ms, if_pos ⟨rfl, rfl⟩]
        · have h12 : q_re cb n 48 57 s = s + 1 ∨ q_re cb n 48 57 s = s + 2 := by
            rw [ht] at h2
            split at h2
            · assumption
            · omega
          rw [k5 h12]; unfold q_lV; rw [hss, hTD]
  · rw [if_neg hsn]
    have ht : q_lT cb n p = 0 := by unfold q_lT; rw [hss, if_pos (by omega)]
    refine ⟨_, rfl, fun k hk => by rw [q_ms_ne _ _ hk, e1 k hk], by simp [q_ms, e2 1 (by omega)], ?_⟩
    unfold q_TA
    rw [ht, hss]
    exact ⟨by simp [q_ms]; rfl, by simp [q_ms, e3], fun h => absurd rfl h, fun h => by omega⟩
end
