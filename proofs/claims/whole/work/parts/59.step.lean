/-! PURE: the reference's token -/
section
variable {cb : Nat → Nat} {n : Nat} {σ : k_Mem}
theorem w_byteAt (hn : n ≤ 160) (hT : q_MP cb n σ) {p : Nat} (hp : p ≤ n) : f_X7_byteAt (nI p) σ = some (if p < n then nI (cb p) else -4, σ) := by
  unfold f_X7_byteAt
  rw [hT.1]
  by_cases h : p < n
  · rw [if_neg (nI_ge (by omega) (by omega)), if_pos h, q_inT (show p < 160 by omega) (by omega), if_pos rfl, q_n (by omega), (hT.2 p h).2]
  · rw [if_pos (nI_le (by omega) (by omega)), if_neg h]
theorem w_inB (hT : q_MP cb n σ) {p lo hi : Nat} (hlo : lo < 128) (hhi : hi < 128) {a b : Int64} (ha : a = (nI lo).toInt64) (hb : b = (nI hi).toInt64) : f_X7_in (Int32.toInt64 (if p < n then nI (cb p) else -4)) a b σ = some (if p < n ∧ lo ≤ cb p ∧ cb p ≤ hi then 1 else 0, σ) := by
  rw [v_in32 _ (nI lo) (nI hi) a b ha hb]
  by_cases h : p < n
  · have c1 := (hT.2 p h).1
    rw [if_pos h]
    simp (disch := omega) only [q_le]
    by_cases h2 : lo ≤ cb p ∧ cb p ≤ hi
    · rw [if_pos h2, if_pos ⟨h, h2⟩]
    · rw [if_neg h2, if_neg (fun g => h2 g.2)]
  · rw [if_neg h, if_neg (show ¬ (nI lo ≤ -4 ∧ -4 ≤ nI hi) from fun g => by
      have := g.1
      rw [Int32.le_iff_toInt_le, nI_toInt (by omega), show (-4 : Int32).toInt = -4 from rfl] at this
      omega), if_neg (show ¬ (p < n ∧ lo ≤ cb p ∧ cb p ≤ hi) from fun g => h g.1)]
/-- the rest of a step, from its first byte on -/
def q_stp (σ2 : k_Mem) : Option (Unit × k_Mem) :=
  k_bd (f_X7_byteAt ((k_mset σ2 67 15 (σ2 67 14)) 67 14) (k_mset σ2 67 15 (σ2 67 14))) (fun r4 σ4 =>
    if r4 = (-4) then some ((), (k_mset (k_mset σ4 67 17 0) 67 16 0)) else
      k_bd (f_X7_in (Int32.toInt64 r4) 97 122 (k_mset σ4 67 17 0)) (fun r6 σ6 =>
        if r6 = 0 then k_bd (f_X7_in (Int32.toInt64 r4) 48 57 σ6) (fun r8 σ8 =>
          if r8 = 0 then (if r4 = 59 then some ((), (k_mset (k_mset σ8 67 16 3) 67 14 (((k_mset σ8 67 16 3) 67 14) + 1)))
            else k_bd (f_X7_fails 1 (k_mset (k_mset σ8 67 16 3) 67 14 (((k_mset σ8 67 16 3) 67 14) + 1))) (fun _ σ11 => some ((), σ11)))
          else l_X7_step_140 1000 σ8)
        else l_X7_step_84 1000 σ6))
theorem w_st8 (hn : n ≤ 160) : ∀ (m p f : Nat) (σ : k_Mem), n - p ≤ m → p ≤ n → m < f → q_MP cb n σ → σ 67 14 = nI p → ∃ σ1, l_X7_step_8 f σ = q_stp σ1 ∧ q_MP cb n σ1 ∧ σ1 67 14 = nI (q_lS cb n p) ∧ (∀ k, k ≠ 67 → σ1 k = σ k) ∧ ∀ j, j ≠ 14 → σ1 67 j = σ 67 j := by
  intro m
  induction m with
  | zero =>
    intro p f σ h1 h2 h3 hT h14
    obtain ⟨f, rfl⟩ : ∃ g, f = g + 1 := ⟨f - 1, by omega⟩
    rw [l_X7_step_8, h14, w_byteAt hn hT h2, q_bd, if_neg (show ¬ p < n by omega), if_neg (by decide)]
    refine ⟨σ, ?_, hT, ?_, fun _ _ => rfl, fun _ _ => rfl⟩
    · unfold q_stp; rw [h14]
    · rw [h14]; unfold q_lS; rw [q_re_n (fun h => by omega)]
  | succ m ih =>
    intro p f σ h1 h2 h3 hT h14
    obtain ⟨f, rfl⟩ : ∃ g, f = g + 1 := ⟨f - 1, by omega⟩
    rw [l_X7_step_8, h14, w_byteAt hn hT h2, q_bd]
    by_cases h : p < n ∧ cb p = 32
    · rw [if_pos h.1, h.2, if_pos (show nI 32 = 32 from rfl), h14, show nI p + 1 = nI (p + 1) from nI_1 _]
      obtain ⟨σ1, e1, e2, e3, e4, e5⟩ := ih (p + 1) f (k_mset σ 67 14 (nI (p + 1))) (by omega) (by omega) (by omega) ⟨by rw [q_ms, if_neg (by omega)]; exact hT.1, fun i hi => by rw [q_ms_ne _ _ (by decide)]; exact hT.2 i hi⟩ (by rw [q_ms, if_pos ⟨rfl, rfl⟩])
      refine ⟨σ1, e1, e2, ?_, fun k hk => by rw [e4 k hk, q_ms_ne _ _ hk], fun j hj => by rw [e5 j hj, q_ms, if_neg (fun g => hj g.2)]⟩
      rw [e3]; unfold q_lS; rw [← q_re_y h.1 (by omega) (by omega)]
    · rw [if_neg (show ¬ (if p < n then nI (cb p) else -4) = 32 by
        by_cases hp : p < n
        · have := (hT.2 p hp).1
          rw [if_pos hp, show (32 : Int32) = nI 32 from rfl, q_eq (by omega) (by omega)]
          exact fun g => h ⟨hp, g⟩
        · rw [if_neg hp]; decide)]
      refine ⟨σ, ?_, hT, ?_, fun _ _ => rfl, fun _ _ => rfl⟩
      · unfold q_stp; rw [h14]
      · rw [h14]; unfold q_lS; rw [q_re_n (fun g => h ⟨g.1, by omega⟩)]
theorem w_st84 (hn : n ≤ 160) : ∀ (m p f : Nat) (σ : k_Mem), n - p ≤ m → p ≤ n → m < f → q_MP cb n σ → σ 67 14 = nI p → ∃ σ1, l_X7_step_84 f σ = some ((), σ1) ∧ σ1 67 14 = nI (q_re cb n 97 122 p) ∧ σ1 67 16 = 1 ∧ (∀ k, k ≠ 67 → σ1 k = σ k) ∧ ∀ j, j ≠ 14 → j ≠ 16 → σ1 67 j = σ 67 j := by
  intro m
  induction m with
  | zero =>
    intro p f σ h1 h2 h3 hT h14
    obtain ⟨f, rfl⟩ : ∃ g, f = g + 1 := ⟨f - 1, by omega⟩
    rw [l_X7_step_84, h14, w_byteAt hn hT h2, q_bd, w_inB hT (lo := 97) (hi := 122) (by omega) (by omega) (by decide) (by decide), q_bd, if_neg (show ¬ (p < n ∧ 97 ≤ cb p ∧ cb p ≤ 122) by omega), if_pos rfl]
    refine ⟨_, rfl, ?_, ?_, fun k hk => q_ms_ne _ _ hk, fun j h1 h2 => by rw [q_ms, if_neg (fun g => h2 g.2)]⟩
    · rw [q_ms, if_neg (by omega), h14, q_re_n (fun h => by omega)]
    · rw [q_ms, if_pos ⟨rfl, rfl⟩]
  | succ m ih =>
    intro p f σ h1 h2 h3 hT h14
    obtain ⟨f, rfl⟩ : ∃ g, f = g + 1 := ⟨f - 1, by omega⟩
    rw [l_X7_step_84, h14, w_byteAt hn hT h2, q_bd, w_inB hT (lo := 97) (hi := 122) (by omega) (by omega) (by decide) (by decide), q_bd]
    by_cases h : p < n ∧ 97 ≤ cb p ∧ cb p ≤ 122
    · rw [if_pos h, if_neg q_10, h14, show nI p + 1 = nI (p + 1) from nI_1 _]
      obtain ⟨σ1, e1, e3, e6, e4, e5⟩ := ih (p + 1) f (k_mset σ 67 14 (nI (p + 1))) (by omega) (by omega) (by omega) ⟨by rw [q_ms, if_neg (by omega)]; exact hT.1, fun i hi => by rw [q_ms_ne _ _ (by decide)]; exact hT.2 i hi⟩ (by rw [q_ms, if_pos ⟨rfl, rfl⟩])
      refine ⟨σ1, e1, ?_, e6, fun k hk => by rw [e4 k hk, q_ms_ne _ _ hk], fun j hj hj2 => by rw [e5 j hj hj2, q_ms, if_neg (fun g => hj g.2)]⟩
      rw [e3, ← q_re_y h.1 h.2.1 h.2.2]
    · rw [if_neg h, if_pos rfl]
      refine ⟨_, rfl, ?_, ?_, fun k hk => q_ms_ne _ _ hk, fun j h1 h2 => by rw [q_ms, if_neg (fun g => h2 g.2)]⟩
      · rw [q_ms, if_neg (by omega), h14, q_re_n h]
      · rw [q_ms, if_pos ⟨rfl, rfl⟩]
theorem w_st140 (hn : n ≤ 160) {s : Nat} : ∀ (m p f : Nat) (σ : k_Mem), n - p ≤ m → p ≤ n → s ≤ p → m < f → q_MP cb n σ → σ 67 12 = 0 → σ 67 14 = nI p → σ 67 15 = nI s → σ 67 17 = nI (q_va cb s p) → (∀ i, s ≤ i → i < p → 48 ≤ cb i ∧ cb i ≤ 57) → ∃ σ1, l_X7_step_140 f σ = some ((), σ1) ∧ σ1 67 14 = nI (q_re cb n 48 57 p) ∧ σ1 67 15 = nI s ∧ σ1 67 16 = 2 ∧ σ1 67 17 = nI (q_va cb s (q_re cb n 48 57 p)) ∧ (∀ k, k ≠ 67 → σ1 k = σ k) ∧ (if q_re cb n 48 57 p ≤ s + 2 then σ1 67 12 = 0 else σ1 67 12 = 1 ∧ σ1 67 13 = nI s) ∧ ∀ j, j < 12 ∨ 17 < j → σ1 67 j = σ 67 j := by
  intro m
  have stop : ∀ (p : Nat) (σ : k_Mem), p ≤ n → s ≤ p → σ 67 12 = 0 → σ 67 14 = nI p → σ 67 15 = nI s → σ 67 17 = nI (q_va cb s p) → ∃ σ1, (if (((k_mset σ 67 16 2) 67 14) - ((k_mset σ 67 16 2) 67 15)) ≤ 2 then some ((), (k_mset σ 67 16 2)) else k_bd (f_X7_fails 1 (k_mset σ 67 16 2)) (fun _ σ16 => some ((), σ16))) = some ((), σ1) ∧ σ1 67 14 = nI p ∧ σ1 67 15 = nI s ∧ σ1 67 16 = 2 ∧ σ1 67 17 = nI (q_va cb s p) ∧ (∀ k, k ≠ 67 → σ1 k = σ k) ∧ (if p ≤ s + 2 then σ1 67 12 = 0 else σ1 67 12 = 1 ∧ σ1 67 13 = nI s) ∧ ∀ j, j < 12 ∨ 17 < j → σ1 67 j = σ 67 j := by
    intro p σ hp hs h12 h14 h15 h17
    have r : ∀ j, j ≠ 16 → (k_mset σ 67 16 2) 67 j = σ 67 j := fun j hj => by rw [q_ms, if_neg (fun g => hj g.2)]
    rw [r 14 (by omega), r 15 (by omega), h14, h15, q_sub hs, show (2 : Int32) = nI 2 from rfl]
    simp (disch := omega) only [q_le]
    by_cases h2 : p ≤ s + 2
    · rw [if_pos (show p - s ≤ 2 by omega)]
      refine ⟨_, rfl, by rw [q_ms, if_neg (by omega), h14], by rw [q_ms, if_neg (by omega), h15], by rw [q_ms, if_pos ⟨rfl, rfl⟩], by rw [q_ms, if_neg (by omega), h17], fun k hk => q_ms_ne _ _ hk, by rw [if_pos h2, q_ms, if_neg (by omega), h12], fun j hj => by rw [q_ms, if_neg (by omega)]⟩
    · rw [if_neg (show ¬ p - s ≤ 2 by omega)]
      unfold f_X7_fails
      rw [if_pos (by rw [q_ms, if_neg (by omega), h12]), q_bd]
      refine ⟨_, rfl, by simp [q_ms, h14], by simp [q_ms, h15], by simp [q_ms], by simp [q_ms, h17], fun k hk => by rw [q_ms_ne _ _ hk, q_ms_ne _ _ hk, q_ms_ne _ _ hk], by rw [if_neg h2]; exact ⟨by simp [q_ms], by simp [q_ms, h15]⟩, fun j hj => ?_⟩
      rw [q_ms, if_neg (by omega), q_ms, if_neg (by omega), q_ms, if_neg (by omega)]
  induction m with
  | zero =>
    intro p f σ h1 h2 hsp h3 hT h12 h14 h15 h17 hd
    obtain ⟨f, rfl⟩ : ∃ g, f = g + 1 := ⟨f - 1, by omega⟩
    rw [l_X7_step_140, h14, w_byteAt hn hT h2, q_bd, w_inB hT (lo := 48) (hi := 57) (by omega) (by omega) (by decide) (by decide), q_bd, if_neg (show ¬ (p < n ∧ 48 ≤ cb p ∧ cb p ≤ 57) by omega), if_pos rfl, q_re_n (show ¬ (p < n ∧ 48 ≤ cb p ∧ cb p ≤ 57) by omega)]
    exact stop p σ h2 hsp h12 h14 h15 h17
  | succ m ih =>
    intro p f σ h1 h2 hsp h3 hT h12 h14 h15 h17 hd
    obtain ⟨f, rfl⟩ : ∃ g, f = g + 1 := ⟨f - 1, by omega⟩
    rw [l_X7_step_140, h14, w_byteAt hn hT h2, q_bd, w_inB hT (lo := 48) (hi := 57) (by omega) (by omega) (by decide) (by decide), q_bd]
    by_cases h : p < n ∧ 48 ≤ cb p ∧ cb p ≤ 57
    · have cp := (hT.2 p h.1).1
      rw [if_pos h, if_neg q_10, h14, h15, q_sub hsp, w_byteAt hn hT h2, q_bd, if_pos h.1, h17]
      unfold j_X7_step_201
      have hb : q_va cb s p ≤ 99 ∧ (p < s + 2 → q_va cb s p ≤ 9) := by
        unfold q_va
        by_cases e0 : p = s
        · rw [if_pos e0]; omega
        · rw [if_neg e0]
          have := hd s (by omega) (by omega)
          by_cases e1 : p = s + 1
          · rw [if_pos e1]; omega
          · rw [if_neg e1]
            have := hd (s + 1) (by omega) (by omega)
            omega
      have nx : ∀ w : Nat, w = q_va cb s (p + 1) → ∃ σ1, l_X7_step_140 f (k_mset (k_mset σ 67 17 (nI w)) 67 14 (((k_mset σ 67 17 (nI w)) 67 14) + 1)) = some ((), σ1) ∧ σ1 67 14 = nI (q_re cb n 48 57 p) ∧ σ1 67 15 = nI s ∧ σ1 67 16 = 2 ∧ σ1 67 17 = nI (q_va cb s (q_re cb n 48 57 p)) ∧ (∀ k, k ≠ 67 → σ1 k = σ k) ∧ (if q_re cb n 48 57 p ≤ s + 2 then σ1 67 12 = 0 else σ1 67 12 = 1 ∧ σ1 67 13 = nI s) ∧ ∀ j, j < 12 ∨ 17 < j → σ1 67 j = σ 67 j := by
        intro w hw
        have r : ∀ j, j ≠ 17 → (k_mset σ 67 17 (nI w)) 67 j = σ 67 j := fun j hj => by rw [q_ms, if_neg (fun g => hj g.2)]
        rw [r 14 (by omega), h14, show nI p + 1 = nI (p + 1) from nI_1 _]
        generalize hσ2 : k_mset (k_mset σ 67 17 (nI w)) 67 14 (nI (p + 1)) = σ2
        have r2 : ∀ j, j ≠ 17 → j ≠ 14 → σ2 67 j = σ 67 j := fun j hj hj2 => by rw [← hσ2, q_ms, if_neg (fun g => hj2 g.2), r j hj]
        have r3 : ∀ k, k ≠ 67 → σ2 k = σ k := fun k hk => by rw [← hσ2, q_ms_ne _ _ hk, q_ms_ne _ _ hk]
        obtain ⟨σ1, e1, e2, e3, e4, e5, e6, e7, e8⟩ := ih (p + 1) f σ2 (by omega) (by omega) (by omega) (by omega) ⟨by rw [r2 10 (by omega) (by omega)]; exact hT.1, fun i hi => by rw [r3 70 (by omega)]; exact hT.2 i hi⟩ (by rw [r2 12 (by omega) (by omega)]; exact h12) (by rw [← hσ2, q_ms, if_pos ⟨rfl, rfl⟩]) (by rw [r2 15 (by omega) (by omega)]; exact h15) (by rw [← hσ2, q_ms, if_neg (by omega), q_ms, if_pos ⟨rfl, rfl⟩, hw]) (fun i i1 i2 => by
          by_cases hip : i = p
          · subst hip; exact h.2
          · exact hd i i1 (by omega))
        rw [q_re_y h.1 h.2.1 h.2.2]
        exact ⟨σ1, e1, e2, e3, e4, e5, fun k hk => by rw [e6 k hk, r3 k hk], e7, fun j hj => by rw [e8 j hj, r2 j (by omega) (by omega)]⟩
      rw [show (2 : Int32) = nI 2 from rfl]
      simp (disch := omega) only [q_le]
      by_cases h2s : 2 ≤ p - s
      · rw [if_pos h2s]
        exact nx _ (by unfold q_va; rw [if_neg (by omega), if_neg (by omega), if_neg (by omega), if_neg (by omega)])
      · rw [if_neg h2s, show (10 : Int32) = nI 10 from rfl, show (48 : Int32) = nI 48 from rfl, q_mul, q_add, q_sub (by omega)]
        refine nx _ ?_
        have hv := hb.2 (by omega)
        by_cases e0 : p = s
        · subst e0; unfold q_va; rw [if_pos rfl, if_neg (by omega), if_pos rfl]; omega
        · have e1 : p = s + 1 := by omega
          subst e1
          unfold q_va; rw [if_neg (by omega), if_pos rfl, if_neg (by omega), if_neg (by omega)]; omega
    · rw [if_neg h, if_pos rfl, q_re_n h]
      exact stop p σ h2 hsp h12 h14 h15 h17
/-- the reference's token, with its fault -/
def q_LA (cb : Nat → Nat) (n p : Nat) (σ : k_Mem) : Prop := σ 67 15 = nI (q_lS cb n p) ∧ if q_lT cb n p = 4 then σ 67 12 = 1 ∧ σ 67 13 = nI (q_lS cb n p) else σ 67 12 = 0 ∧ σ 67 16 = nI (q_lT cb n p) ∧ σ 67 14 = nI (q_lE cb n p) ∧ (q_lT cb n p = 2 → σ 67 17 = nI (q_lV cb n p))
theorem w_step (hn : n ≤ 160) (hT : q_MP cb n σ) {p : Nat} (hp : p ≤ n) (h12 : σ 67 12 = 0) (h14 : σ 67 14 = nI p) : ∃ σ1, f_X7_step σ = some ((), σ1) ∧ q_LA cb n p σ1 ∧ (∀ k, k ≠ 67 → σ1 k = σ k) ∧ ∀ j, j < 12 ∨ 17 < j → σ1 67 j = σ 67 j := by
  unfold f_X7_step
  rw [h12, if_pos (by decide)]
  obtain ⟨σ2, e1, e2, e3, e4, e5⟩ := w_st8 hn 160 p 1000 σ (by omega) hp (by omega) hT h14
  have hs := q_re_le (cb := cb) (lo := 32) (hi := 32) hp
  rw [show q_re cb n 32 32 p = q_lS cb n p from rfl] at hs
  rw [e1]
  unfold q_stp q_LA
  generalize hss : q_lS cb n p = s at hs e3 ⊢
  rw [e3, show (k_mset σ2 67 15 (nI s)) 67 14 = nI s by rw [q_ms, if_neg (by omega), e3]]
  generalize hσ4 : k_mset σ2 67 15 (nI s) = σ4
  have a1 : ∀ k, k ≠ 67 → σ4 k = σ k := fun k hk => by rw [← hσ4, q_ms_ne _ _ hk, e4 k hk]
  have a2 : ∀ j, j ≠ 14 → j ≠ 15 → σ4 67 j = σ 67 j := fun j h1 h2 => by rw [← hσ4, q_ms, if_neg (fun g => h2 g.2), e5 j h1]
  have a3 : σ4 67 15 = nI s := by rw [← hσ4, q_ms, if_pos ⟨rfl, rfl⟩]
  have a4 : σ4 67 14 = nI s := by rw [← hσ4, q_ms, if_neg (by omega), e3]
  have mp : ∀ σ', σ' 67 10 = σ 67 10 → σ' 70 = σ 70 → q_MP cb n σ' := fun σ' h1 h2 => ⟨by rw [h1]; exact hT.1, fun i hi => by rw [h2]; exact hT.2 i hi⟩
  rw [w_byteAt hn (mp σ4 (a2 10 (by omega) (by omega)) (a1 70 (by omega))) hs, q_bd]
  by_cases hsn : s < n
  · have cs := (hT.2 s hsn).1
    have hm4 : ¬ (if s < n then nI (cb s) else -4) = -4 := by rw [if_pos hsn, q_m4 (by omega)]; exact id
    rw [if_neg hm4]
    generalize hσ5 : k_mset σ4 67 17 0 = σ5
    have b1 : ∀ k, k ≠ 67 → σ5 k = σ k := fun k hk => by rw [← hσ5, q_ms_ne _ _ hk, a1 k hk]
    have b2 : ∀ j, j ≠ 14 → j ≠ 15 → j ≠ 17 → σ5 67 j = σ 67 j := fun j h1 h2 h3 => by rw [← hσ5, q_ms, if_neg (fun g => h3 g.2), a2 j h1 h2]
    have b3 : σ5 67 15 = nI s := by rw [← hσ5, q_ms, if_neg (by omega), a3]
    have b4 : σ5 67 14 = nI s := by rw [← hσ5, q_ms, if_neg (by omega), a4]
    have b5 : σ5 67 17 = nI 0 := by rw [← hσ5, q_ms, if_pos ⟨rfl, rfl⟩]; rfl
    have hm5 := mp σ5 (b2 10 (by omega) (by omega) (by omega)) (b1 70 (by omega))
    rw [w_inB hm5 (lo := 97) (hi := 122) (by omega) (by omega) (by decide) (by decide), q_bd, w_inB hm5 (lo := 48) (hi := 57) (by omega) (by omega) (by decide) (by decide)]
    by_cases hal : 97 ≤ cb s ∧ cb s ≤ 122
    · rw [if_pos (show s < n ∧ 97 ≤ cb s ∧ cb s ≤ 122 from ⟨hsn, hal⟩), if_neg q_10]
      obtain ⟨σ1, f1, f2, f3, f4, f5⟩ := w_st84 hn 160 s 1000 σ5 (by omega) (by omega) (by omega) hm5 b4
      have ht : q_lT cb n p = 1 := by unfold q_lT; rw [hss, if_neg (by omega), if_neg (by omega), if_pos hal]
      have he : q_lE cb n p = q_re cb n 97 122 s := by unfold q_lE; rw [if_neg (by omega), if_pos ht, hss]
      refine ⟨σ1, f1, ⟨by rw [f5 15 (by omega) (by omega)]; exact b3, ?_⟩, fun k hk => by rw [f4 k hk, b1 k hk], fun j hj => by rw [f5 j (by omega) (by omega), b2 j (by omega) (by omega) (by omega)]⟩
      rw [ht, if_neg (by omega), he]
      exact ⟨by rw [f5 12 (by omega) (by omega), b2 12 (by omega) (by omega) (by omega)]; exact h12, f3, f2, fun h => by omega⟩
    · rw [if_neg (show ¬ (s < n ∧ 97 ≤ cb s ∧ cb s ≤ 122) from fun g => hal g.2), if_pos rfl, q_bd]
      by_cases hdg : 48 ≤ cb s ∧ cb s ≤ 57
      · rw [if_pos (show s < n ∧ 48 ≤ cb s ∧ cb s ≤ 57 from ⟨hsn, hdg⟩), if_neg q_10]
        obtain ⟨σ1, f1, f2, f3, f4, f5, f6, f7, f8⟩ := w_st140 hn (s := s) 160 s 1000 σ5 (by omega) (by omega) (by omega) (by omega) hm5 (by rw [b2 12 (by omega) (by omega) (by omega)]; exact h12) b4 b3 (by rw [b5]; unfold q_va; rw [if_pos rfl]) (fun i i1 i2 => by omega)
        have hTD : q_lD cb n p = q_re cb n 48 57 s := by unfold q_lD; rw [hss]
        have hgt : s < q_re cb n 48 57 s := by
          rw [q_re_y hsn hdg.1 hdg.2]
          have := q_re_ge (cb := cb) (n := n) (lo := 48) (hi := 57) (s + 1)
          omega
        have ht : q_lT cb n p = if q_re cb n 48 57 s ≤ s + 2 then 2 else 4 := by
          unfold q_lT; rw [hss, if_neg (by omega), if_neg (by omega), if_neg hal, hTD]
          by_cases hc : q_re cb n 48 57 s ≤ s + 2
          · rw [if_pos (by omega), if_pos hc]
          · rw [if_neg (by omega), if_neg hc]
        refine ⟨σ1, f1, ⟨f3, ?_⟩, fun k hk => by rw [f6 k hk, b1 k hk], fun j hj => by rw [f8 j hj, b2 j (by omega) (by omega) (by omega)]⟩
        by_cases hc : q_re cb n 48 57 s ≤ s + 2
        · rw [if_pos hc] at ht f7
          have he : q_lE cb n p = q_re cb n 48 57 s := by unfold q_lE; rw [if_neg (by omega), if_neg (by omega), if_pos ht, hTD]
          have hv : q_lV cb n p = q_va cb s (q_re cb n 48 57 s) := by unfold q_lV; rw [hss, hTD]
          rw [ht, if_neg (by omega), he, hv]
          exact ⟨f7, f4, f2, fun _ => f5⟩
        · rw [if_neg hc] at ht f7
          rw [if_pos ht]; exact f7
      · rw [if_neg (show ¬ (s < n ∧ 48 ≤ cb s ∧ cb s ≤ 57) from fun g => hdg g.2), if_pos rfl, if_pos hsn]
        have hTD : q_lD cb n p = s := by unfold q_lD; rw [hss, q_re_n (fun g => hdg g.2)]
        have r3 : (k_mset σ5 67 16 3) 67 14 = nI s := by rw [q_ms, if_neg (by omega), b4]
        rw [r3, show nI s + 1 = nI (s + 1) from nI_1 _]
        generalize hσ6 : k_mset (k_mset σ5 67 16 3) 67 14 (nI (s + 1)) = σ6
        have c1 : ∀ k, k ≠ 67 → σ6 k = σ k := fun k hk => by rw [← hσ6, q_ms_ne _ _ hk, q_ms_ne _ _ hk, b1 k hk]
        have c2 : ∀ j, j < 12 ∨ 17 < j → σ6 67 j = σ 67 j := fun j hj => by rw [← hσ6, q_ms, if_neg (by omega), q_ms, if_neg (by omega), b2 j (by omega) (by omega) (by omega)]
        have c12 : σ6 67 12 = 0 := by rw [← hσ6, q_ms, if_neg (by omega), q_ms, if_neg (by omega), b2 12 (by omega) (by omega) (by omega)]; exact h12
        have c15 : σ6 67 15 = nI s := by rw [← hσ6, q_ms, if_neg (by omega), q_ms, if_neg (by omega), b3]
        by_cases h59 : cb s = 59
        · rw [if_pos (show nI (cb s) = 59 by rw [h59]; rfl)]
          have ht : q_lT cb n p = 3 := by unfold q_lT; rw [hss, if_neg (by omega), if_pos h59]
          have he : q_lE cb n p = s + 1 := by unfold q_lE; rw [if_pos ht, hss]
          refine ⟨σ6, rfl, ⟨c15, ?_⟩, c1, c2⟩
          rw [ht, if_neg (by omega), he]
          exact ⟨c12, by rw [← hσ6, q_ms, if_neg (by omega), q_ms, if_pos ⟨rfl, rfl⟩]; rfl, by rw [← hσ6, q_ms, if_pos ⟨rfl, rfl⟩], fun h => by omega⟩
        · rw [if_neg (show ¬ nI (cb s) = 59 by rw [show (59 : Int32) = nI 59 from rfl, q_eq (by omega) (by omega)]; exact h59)]
          have ht : q_lT cb n p = 4 := by unfold q_lT; rw [hss, if_neg (by omega), if_neg h59, if_neg hal, hTD, if_neg (by omega)]
          unfold f_X7_fails
          rw [if_pos c12, q_bd]
          refine ⟨_, rfl, ⟨by rw [q_ms, if_neg (by omega), q_ms, if_neg (by omega), c15], ?_⟩, fun k hk => by rw [q_ms_ne _ _ hk, q_ms_ne _ _ hk, c1 k hk], fun j hj => by rw [q_ms, if_neg (by omega), q_ms, if_neg (by omega), c2 j hj]⟩
          rw [if_pos ht]
          refine ⟨by rw [q_ms, if_neg (by omega), q_ms, if_pos ⟨rfl, rfl⟩], ?_⟩
          rw [q_ms, if_pos ⟨rfl, rfl⟩, q_ms, if_neg (by omega), c15]
  · rw [if_neg hsn, if_pos rfl]
    have ht : q_lT cb n p = 0 := by unfold q_lT; rw [hss, if_pos (by omega)]
    have he : q_lE cb n p = s := by unfold q_lE; rw [if_neg (by omega), if_neg (by omega), if_neg (by omega), hss]
    refine ⟨_, rfl, ⟨by simp [q_ms, a3], ?_⟩, fun k hk => by rw [q_ms_ne _ _ hk, q_ms_ne _ _ hk, a1 k hk], fun j hj => by rw [q_ms, if_neg (by omega), q_ms, if_neg (by omega), a2 j (by omega) (by omega)]⟩
    rw [ht, if_neg (by omega), he]
    exact ⟨by simp [q_ms, a2 12 (by omega) (by omega), h12], by simp [q_ms]; rfl, by simp [q_ms, a4], fun h => by omega⟩
end
