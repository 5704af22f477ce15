/-! PURE: pens by a seed -/
theorem q_tN (y : Int32) : ((y.toBitVec.toNat % 32768 : Nat) : Int) = y.toInt % 32768 := by
  have h : y.toInt = y.toBitVec.toInt := rfl
  have h2 := BitVec.toInt_eq_toNat_cond y.toBitVec
  have h3 := y.toBitVec.isLt
  rw [h, h2]
  split <;> omega
theorem q_dsh (x : Int32) : (k_shr x 16) &&& 32767 = (k_ushr x 16) &&& 32767 := by
  rw [pk_and (k_shr x 16) (m := 32767) 15 (by decide), pk_and (k_ushr x 16) (m := 32767) 15 (by decide)]
  have e1 : (k_ushr x 16).toBitVec.toNat = x.toBitVec.toNat / 2 ^ 16 := pk_ushr x 16 16 (by decide)
  have e2 : (k_shr x 16).toInt = x.toInt >>> 16 := pk_shr x (16 &&& 31) 16 (by decide)
  have e3 := q_tN (k_shr x 16)
  rw [e2, Int.shiftRight_eq_div_pow] at e3
  have h2 := BitVec.toInt_eq_toNat_cond x.toBitVec
  have h3 := x.toBitVec.isLt
  have h : x.toInt = x.toBitVec.toInt := rfl
  rw [h, h2] at e3
  have : (k_shr x 16).toBitVec.toNat % 2 ^ 15 = (k_ushr x 16).toBitVec.toNat % 2 ^ 15 := by
    rw [e1]
    split at e3 <;> omega
  rw [this]
def q_ds (s : Int32) : Int32 := s * 1103515245 + 12345
def q_dj (s : Int32) : Nat := (k_ushr s 16).toBitVec.toNat % 2 ^ 15
theorem q_dj_u (s : Int32) : (k_ushr s 16) &&& 32767 = nI (q_dj s) := pk_and (k_ushr s 16) (m := 32767) 15 (by decide)
theorem q_dj_s (s : Int32) : (k_shr s 16) &&& 32767 = nI (q_dj s) := by rw [q_dsh, q_dj_u]
theorem q_dj_lt (s : Int32) : q_dj s < 32768 := Nat.mod_lt _ (by decide)
def q_by (τ : k_TW) (i : Nat) : Nat := if i < τ 7 0 then i else 4 + i - τ 7 0
theorem q_byH {τ : k_TW} (hI : q_I τ) {i : Nat} (h : i < τ 7 0 + τ 7 1) : q_H τ (q_by τ i) = true := by
  have := hI.1
  rw [q_Hb]
  unfold q_by
  split <;> omega
/-- one draw -/
def q_dn (τ0 : k_TW) (z : Int32 × k_TW × Nat) : Int32 × k_TW × Nat :=
  (q_ds (q_ds z.1), q_up z.2.1 4 (q_by τ0 (q_dj (q_ds z.1) % (τ0 7 0 + τ0 7 1))) (q_by τ0 (q_dj (q_ds (q_ds z.1)) % (τ0 7 0 + τ0 7 1))), z.2.2 + q_sl (q_up z.2.1 4 (q_by τ0 (q_dj (q_ds z.1) % (τ0 7 0 + τ0 7 1))) (q_by τ0 (q_dj (q_ds (q_ds z.1)) % (τ0 7 0 + τ0 7 1)))))
def q_dz (τ0 : k_TW) (s : Int32) : Nat → Int32 × k_TW × Nat
  | 0 => (s, τ0, 0)
  | n + 1 => q_dn τ0 (q_dz τ0 s n)
section DR
variable {τ : k_TW}
theorem q_dz_in (hI : q_I τ) (hz : 0 < τ 7 0 + τ 7 1) (s : Int32) : ∀ n, q_I (q_dz τ s n).2.1 ∧ (q_dz τ s n).2.1 7 0 = τ 7 0 ∧ (q_dz τ s n).2.1 7 1 = τ 7 1 ∧ (q_dz τ s n).2.2 ≤ n * 184
  | 0 => ⟨hI, rfl, rfl, by show 0 ≤ 0 * 184; omega⟩
  | n + 1 => by
    obtain ⟨h1, h2, h3, h4⟩ := q_dz_in hI hz s n
    have hp : q_H (q_dz τ s n).2.1 (q_by τ (q_dj (q_ds (q_ds (q_dz τ s n).1)) % (τ 7 0 + τ 7 1))) = true := by
      rw [q_H_eq h2 h3]; exact q_byH hI (Nat.mod_lt _ hz)
    have hI1 : q_I (q_dz τ s (n + 1)).2.1 := q_I_up h1 (by omega) ⟨by omega, by omega, by omega, by omega, fun _ => hp⟩
    have e2 : (q_dz τ s (n + 1)).2.1 = q_up (q_dz τ s n).2.1 4 (q_by τ (q_dj (q_ds (q_dz τ s n).1) % (τ 7 0 + τ 7 1))) (q_by τ (q_dj (q_ds (q_ds (q_dz τ s n).1)) % (τ 7 0 + τ 7 1))) := rfl
    refine ⟨hI1, ?_, ?_, ?_⟩
    · rw [e2, q_up_t (by omega)]; exact h2
    · rw [e2, q_up_t (by omega)]; exact h3
    · have h5 : q_sl (q_dz τ s (n + 1)).2.1 ≤ 8 * 23 := q_slB hI1
      show (q_dz τ s n).2.2 + q_sl (q_dz τ s (n + 1)).2.1 ≤ (n + 1) * 184
      omega
theorem v_byOrder {τ1 : k_TW} {σ : k_Mem} (hI : q_I τ) (h0 : τ1 7 0 = τ 7 0) (hC : q_C 14 τ1 σ) {i : Nat} (hi : i < τ 7 0 + τ 7 1) : f_X5_byOrder 14 (nI i) σ = some (nI (q_by τ i), σ) := by
  have hl := hI.1
  have hr := hI.2.1
  unfold f_X5_byOrder q_by
  rw [hC.1, h0]
  simp (disch := omega) only [q_le]
  by_cases h : i < τ 7 0
  · rw [if_neg (by omega), if_pos h]
  · rw [if_pos (by omega), if_neg h, show (4 : Int32) = nI 4 from rfl, q_add, q_sub (by omega)]
theorem v_drift_l (hI : q_I τ) (hz : 0 < τ 7 0 + τ 7 1) (s : Int32) {n w : Nat} (hn : n ≤ 60) (hw : w ≤ 1) : ∀ (m t f : Nat) (σ : k_Mem), t + m = n → m < f → q_C 14 (q_dz τ s t).2.1 σ → ∃ σ1, l_X6_drift_60 f (nI n) (nI w) (nI (τ 7 0 + τ 7 1)) (q_dz τ s t).1 (if w = 1 then nI (q_dz τ s t).2.2 else 0) (nI t) σ = some (if w = 1 then nI (q_dz τ s n).2.2 else nI (q_pm (q_pa (q_can (q_dz τ s n).2.1) (q_lk (q_dz τ s n).2.1) 0)), σ1) := by
  have hl := hI.1
  have hr := hI.2.1
  intro m
  induction m with
  | zero =>
    intro t f σ h1 h2 hC
    obtain ⟨f, rfl⟩ : ∃ g, f = g + 1 := ⟨f - 1, by omega⟩
    have : t = n := by omega
    subst this
    obtain ⟨i1, i2, i3, i4⟩ := q_dz_in hI hz s t
    rw [l_X6_drift_60, if_pos (nI_le (Nat.le_refl _) (by omega)), show (1 : Int32) = nI 1 from rfl]
    simp (disch := omega) only [q_eq]
    by_cases h : w = 1
    · rw [if_pos h, if_pos h, if_pos h]; exact ⟨σ, rfl⟩
    · obtain ⟨σ1, e1, e2, e3, e4, e5⟩ := v_court (b := 14) (by omega) i1 hC (s := 0) (by omega)
      have hMt := q_Mt_g (g := 0) i1 (s := 0) (by omega)
      rw [q_cg0] at hMt
      rw [if_neg h, if_neg h, show f_X0_court 14 0 σ = some ((), σ1) from e1, q_bd, v_pairs e4 (fun x => q_Mt31 hMt), q_bd]
      exact ⟨σ1, rfl⟩
  | succ m ih =>
    intro t f σ h1 h2 hC
    obtain ⟨f, rfl⟩ : ∃ g, f = g + 1 := ⟨f - 1, by omega⟩
    obtain ⟨i1, i2, i3, i4⟩ := q_dz_in hI hz s t
    obtain ⟨j1, j2, j3, j4⟩ := q_dz_in hI hz s (t + 1)
    have hih := ih (t + 1) f
    generalize ha : q_by τ (q_dj (q_ds (q_dz τ s t).1) % (τ 7 0 + τ 7 1)) = a at *
    generalize hp : q_by τ (q_dj (q_ds (q_ds (q_dz τ s t).1)) % (τ 7 0 + τ 7 1)) = p at *
    have e1 : (q_dz τ s (t + 1)).1 = q_ds (q_ds (q_dz τ s t).1) := rfl
    have e2 : (q_dz τ s (t + 1)).2.1 = q_up (q_dz τ s t).2.1 4 a p := by rw [← ha, ← hp]; rfl
    have e3 : (q_dz τ s (t + 1)).2.2 = (q_dz τ s t).2.2 + q_sl (q_dz τ s (t + 1)).2.1 := rfl
    have aH : q_H τ a = true := by rw [← ha]; exact q_byH hI (Nat.mod_lt _ hz)
    have a8 := q_H8 hI aH
    have hC1 : q_C 14 (q_dz τ s (t + 1)).2.1 (k_mset σ 19 a (nI p)) := by rw [e2]; exact q_C_up (v := p) (a := a) hC (show 4 < 5 by omega)
    have k1 := q_dj_lt (q_ds (q_dz τ s t).1)
    have k2 := q_dj_lt (q_ds (q_ds (q_dz τ s t).1))
    have zne : ¬ nI (τ 7 0 + τ 7 1) = 0 := nI_ne0 hz (by omega)
    rw [l_X6_drift_60, if_neg (nI_ge (by omega) (by omega))]
    unfold f_X6_nextSeed f_X6_drawn
    rw [q_bd, q_bd, if_neg zne, show (q_dz τ s t).1 * 1103515245 + 12345 = q_ds (q_dz τ s t).1 from rfl, q_dj_u, q_rem (by omega) hz (by omega), v_byOrder hI i2 hC (Nat.mod_lt _ hz), q_bd, q_bd, q_bd, if_neg zne, show q_ds (q_dz τ s t).1 * 1103515245 + 12345 = q_ds (q_ds (q_dz τ s t).1) from rfl, q_dj_u, q_rem (by omega) hz (by omega), v_byOrder hI i2 hC (Nat.mod_lt _ hz), q_bd, ha, hp, q_inT a8 (by omega), if_pos rfl, q_n (by omega), ← e1]
    simp only [j_X6_drift_151, show nI t + 1 = nI (t + 1) from nI_1 t]
    rw [show (1 : Int32) = nI 1 from rfl]
    simp only [q_eq (show w < 2 ^ 31 by omega) (by omega : 1 < 2 ^ 31)]
    by_cases h : w = 1
    · obtain ⟨σ1, f1, f2, f3, f4⟩ := v_sum j1 hC1
      rw [if_pos h, f1, q_bd, f3 σ1 (fun _ _ => rfl), q_bd, if_pos h, q_add, ← e3]
      have := hih σ1 (by omega) (by omega) f2
      rw [if_pos h] at this
      exact this
    · rw [if_neg h, if_neg h]
      have := hih (k_mset σ 19 a (nI p)) (by omega) (by omega) hC1
      rw [if_neg h] at this
      exact this
theorem w_draws0 {σ : k_Mem} (hI : q_I τ) (hz : 0 < τ 7 0 + τ 7 1) (hN : q_N τ σ) {v : Int32} (hv : σ 67 27 * 1103515245 + 12345 = v) : f_X7_drawsHand σ = some (nI (q_by τ (q_dj v % (τ 7 0 + τ 7 1))), k_mset σ 67 27 v) := by
  have hl := hI.1
  have hr := hI.2.1
  have k1 := q_dj_lt v
  have e1 : (k_mset σ 67 27 v) 67 1 = nI (τ 7 0) := by rw [q_ms, if_neg (by omega)]; exact hN.1
  have e2 : (k_mset σ 67 27 v) 67 2 = nI (τ 7 1) := by rw [q_ms, if_neg (by omega)]; exact hN.2
  have e3 : (k_mset σ 67 27 v) 67 27 = v := by rw [q_ms, if_pos ⟨rfl, rfl⟩]
  have hlt := Nat.mod_lt (q_dj v) hz
  unfold f_X7_drawsHand
  rw [hv, e1, e2, e3, q_add, if_neg (nI_ne0 hz (by omega)), q_dj_s, q_rem (by omega) hz (by omega)]
  generalize q_dj v % (τ 7 0 + τ 7 1) = j at hlt
  unfold k_lt q_by
  dsimp only
  by_cases h : j < τ 7 0
  · rw [if_neg (nI_ge h (by omega)), if_pos h]
  · rw [if_pos (nI_le (by omega) (by omega)), if_neg h, show (4 : Int32) = nI 4 from rfl, q_add, q_sub (by omega)]
theorem w_draws {σ : k_Mem} (hI : q_I τ) (hz : 0 < τ 7 0 + τ 7 1) (hN : q_N τ σ) {s : Int32} (hs : σ 67 27 = s) : f_X7_drawsHand σ = some (nI (q_by τ (q_dj (q_ds s) % (τ 7 0 + τ 7 1))), k_mset σ 67 27 (q_ds s)) := w_draws0 hI hz hN (by rw [hs]; unfold q_ds; rfl)
theorem w_drift_l (hI : q_I τ) (hz : 0 < τ 7 0 + τ 7 1) (s : Int32) {n w : Nat} (hn1 : 1 ≤ n) (hn : n ≤ 60) (hw : w ≤ 1) : ∀ (m t f : Nat) (σ : k_Mem), t + m = n → m < f → q_N τ σ → q_M 0 (q_dz τ s t).2.1 σ → σ 67 27 = (q_dz τ s t).1 → (0 < t → ∀ x, x < 8 → σ 74 x = q_e4 (q_pa (q_can (q_dz τ s t).2.1) (q_lk (q_dz τ s t).2.1) 0 x)) → ∃ σ1 σ2, l_X7_drift_58 f (nI n) (nI w) (nI (q_dz τ s t).2.2) (nI t) σ = some (if w = 1 then nI (q_dz τ s n).2.2 else nI (q_pm (q_pa (q_can (q_dz τ s n).2.1) (q_lk (q_dz τ s n).2.1) 0)), σ2) ∧ (∀ i, 50 ≤ i → σ1 68 i = σ 68 i) ∧ (∀ i, i ≠ 27 → σ1 67 i = σ 67 i) ∧ k_Sm [67, 68, 73, 74, 75] σ σ1 ∧ (∀ i, σ2 68 i = if i < 50 then σ1 68 (200 + i) else σ1 68 i) ∧ ∀ k, k ≠ 68 → σ2 k = σ1 k := by
  intro m
  induction m with
  | zero =>
    intro t f σ h1 h2 hN hM hs h74
    obtain ⟨f, rfl⟩ : ∃ g, f = g + 1 := ⟨f - 1, by omega⟩
    have : t = n := by omega
    subst this
    obtain ⟨i1, i2, i3, i4⟩ := q_dz_in hI hz s t
    obtain ⟨σ2, e1, e2, e3⟩ := w_copies (p := 200) (q := 0) (by omega) (by omega) (by omega) σ
    have hMt := q_Mt_g (g := 0) i1 (s := 0) (by omega)
    rw [q_cg0] at hMt
    rw [l_X7_drift_58, if_pos (nI_le (Nat.le_refl _) (by omega)), show f_X7_copies 200 0 σ = some ((), σ2) from e1, q_bd, w_pairMany (mt := q_pa (q_can (q_dz τ s t).2.1) (q_lk (q_dz τ s t).2.1) 0) (fun x hx => by rw [e3 74 (by decide)]; exact h74 (by omega) x hx) (fun x => q_Mt31 hMt), q_bd]
    refine ⟨σ, σ2, ?_, fun _ _ => rfl, fun _ _ => rfl, sm_rf, fun i => ?_, e3⟩
    · have hw0 : (nI w = 0) = (w = 0) := q_eq (b := 0) (by omega) (by omega)
      simp only [hw0]
      by_cases h : w = 0
      · rw [if_pos h, if_neg (by omega)]
      · rw [if_neg h, if_pos (by omega)]
    · rw [e2 i]
      by_cases h : i < 50
      · rw [if_pos (by omega), if_pos h, show i - 0 = i by omega]
      · rw [if_neg (by omega), if_neg h]
  | succ m ih =>
    intro t f σ h1 h2 hN hM hs h74
    obtain ⟨f, rfl⟩ : ∃ g, f = g + 1 := ⟨f - 1, by omega⟩
    obtain ⟨i1, i2, i3, i4⟩ := q_dz_in hI hz s t
    obtain ⟨j1, j2, j3, j4⟩ := q_dz_in hI hz s (t + 1)
    have hih := ih (t + 1) f
    have d1 := w_draws hI hz hN hs
    have hN1 : q_N τ (k_mset σ 67 27 (q_ds (q_dz τ s t).1)) := by
      unfold q_N; rw [q_ms, if_neg (by omega), q_ms, if_neg (by omega)]; exact hN
    have d2 := w_draws hI hz hN1 (s := q_ds (q_dz τ s t).1) (by rw [q_ms, if_pos ⟨rfl, rfl⟩])
    generalize ha : q_by τ (q_dj (q_ds (q_dz τ s t).1) % (τ 7 0 + τ 7 1)) = a at *
    generalize hp : q_by τ (q_dj (q_ds (q_ds (q_dz τ s t).1)) % (τ 7 0 + τ 7 1)) = p at *
    have e1 : (q_dz τ s (t + 1)).1 = q_ds (q_ds (q_dz τ s t).1) := rfl
    have e2 : (q_dz τ s (t + 1)).2.1 = q_up (q_dz τ s t).2.1 4 a p := by rw [← ha, ← hp]; rfl
    have e3 : (q_dz τ s (t + 1)).2.2 = (q_dz τ s t).2.2 + q_sl (q_dz τ s (t + 1)).2.1 := rfl
    have aH : q_H τ a = true := by rw [← ha]; exact q_byH hI (Nat.mod_lt _ hz)
    have pH : q_H τ p = true := by rw [← hp]; exact q_byH hI (Nat.mod_lt _ hz)
    have a8 := q_H8 hI aH
    generalize hσ1 : k_mset (k_mset σ 67 27 (q_ds (q_dz τ s t).1)) 67 27 (q_ds (q_ds (q_dz τ s t).1)) = σ1 at d2
    have k67 : ∀ i, i ≠ 27 → σ1 67 i = σ 67 i := fun i hi => by rw [← hσ1, q_ms, if_neg (fun h => hi h.2), q_ms, if_neg (fun h => hi h.2)]
    have k27 : σ1 67 27 = q_ds (q_ds (q_dz τ s t).1) := by rw [← hσ1, q_ms, if_pos ⟨rfl, rfl⟩]
    have kk : ∀ k, k ≠ 67 → σ1 k = σ k := fun k hk => by rw [← hσ1, q_ms_ne _ _ hk, q_ms_ne _ _ hk]
    have hN2 : q_N τ σ1 := by unfold q_N; rw [k67 1 (by omega), k67 2 (by omega)]; exact hN
    have hM2 : q_M 0 (q_dz τ s t).2.1 σ1 := q_M_sm hM (kk 68 (by decide))
    have hpens : ∃ r, f_X7_pens (nI a) (nI p) σ1 = some (r, k_mset σ1 68 (32 + a) (nI p - nI a)) := by
      unfold f_X7_pens j_X7_pens_22 f_X7_puts
      rw [w_isH1 hI hN2 aH, q_bd, if_neg q_10, w_isH1 hI hN2 pH, q_bd, if_neg q_10, if_neg q_10, show (32 : Int32) = nI 32 from rfl, q_add, q_inT (show 32 + a < 250 by omega) (by omega), if_pos rfl, if_pos rfl, q_n (by omega), q_bd]
      exact ⟨_, rfl⟩
    obtain ⟨r, hpens⟩ := hpens
    have hM3 : q_M 0 (q_dz τ s (t + 1)).2.1 (k_mset σ1 68 (32 + a) (nI p - nI a)) := by
      have := q_M_pen (v := p) (a := a) i1 hM2 a8
      rw [show 0 + 32 + a = 32 + a by omega] at this
      rw [e2]; exact this
    have hN3 : q_N (q_dz τ s (t + 1)).2.1 (k_mset σ1 68 (32 + a) (nI p - nI a)) := by
      unfold q_N; rw [j2, j3, q_ms_ne _ _ (by omega)]; exact hN2
    obtain ⟨σ4, f1, f2, f3, f4⟩ := w_askingNow j1 hN3 hM3 (s := 0) (by omega)
    have hMt := q_Mt_g (g := 0) j1 (s := 0) (by omega)
    rw [show q_pa (q_cg (q_dz τ s (t + 1)).2.1 0) (q_lk (q_dz τ s (t + 1)).2.1) 0 = q_pa (q_can (q_dz τ s (t + 1)).2.1) (q_lk (q_dz τ s (t + 1)).2.1) 0 by rw [q_cg0]] at hMt
    rw [l_X7_drift_58, if_neg (nI_ge (by omega) (by omega)), d1, q_bd, d2, q_bd, hpens, q_bd, show f_X7_askingNow 0 (k_mset σ1 68 (32 + a) (nI p - nI a)) = some ((), σ4) from f1, q_bd, w_likesInAll f2 f3 hMt, q_bd, q_add, show q_al (q_dz τ s (t + 1)).2.1 (q_pa (q_can (q_dz τ s (t + 1)).2.1) (q_lk (q_dz τ s (t + 1)).2.1) 0) = q_sl (q_dz τ s (t + 1)).2.1 from rfl, ← e3, show nI t + 1 = nI (t + 1) from nI_1 t]
    obtain ⟨σ5, σ6, g1, g2, g3, g4, g5, g6⟩ := hih σ4 (by omega) (by omega) (q_N_sm hN2 (by rw [f4 67 (by decide), q_ms_ne _ _ (by omega)])) (q_M_sm hM3 (f4 68 (by decide))) (by rw [f4 67 (by decide), q_ms_ne _ _ (by omega), k27, e1]) (fun _ => f3)
    refine ⟨σ5, σ6, g1, fun i hi => ?_, fun i hi => ?_, ?_, g5, g6⟩
    · rw [g2 i hi, f4 68 (by decide), q_ms, if_neg (by omega), kk 68 (by decide)]
    · rw [g3 i hi, f4 67 (by decide), q_ms_ne _ _ (by omega), k67 i hi]
    · intro k hk
      rw [g4 k hk]
      simp only [List.mem_cons, List.not_mem_nil, or_false, not_or] at hk
      rw [f4 k (by simp; exact ⟨hk.2.2.1, hk.2.2.2.1, hk.2.2.2.2⟩), q_ms_ne _ _ hk.2.1, kk k hk.1]
end DR
theorem o_drift (x y z : Int32) : q_Op (fun σ => f_X6_drift x y z σ) (fun σ => f_X7_drift x y z σ) := q_qr (fun τ im σ h => by
  obtain ⟨hI, hC, hN, hM, -⟩ := h
  have hl := hI.1
  have hr := hI.2.1
  have fr6 := fr_f_X6_drift x y z σ
  unfold f_X6_drift at fr6 ⊢
  unfold f_X7_drift
  have wy : ∀ σ', f_X7_in y.toInt64 1 60 σ' = some (if (1 : Int32) ≤ y ∧ y ≤ nI 60 then 1 else 0, σ') := fun σ' => v_in32 y 1 (nI 60) 1 60 (by decide) (by decide) σ'
  by_cases hy : (1 : Int32) ≤ y ∧ y ≤ nI 60
  · rw [if_neg (show ¬ y < 1 by rw [q_nle]; exact hy.1), if_neg (show ¬ (60 : Int32) < y by rw [q_nle]; exact hy.2), q_gd] at fr6 ⊢
    obtain ⟨n, hn, rfl⟩ : ∃ n, n ≤ 60 ∧ y = nI n := by
      rcases q_rng y (n := 60) (by omega) with h | h
      · exact h
      · exact absurd ⟨by have := hy.1; rw [Int32.le_iff_toInt_le] at this ⊢; rw [show (1 : Int32).toInt = 1 by decide] at this; rw [show (0 : Int32).toInt = 0 by decide]; omega, hy.2⟩ h
    have hn1 : 1 ≤ n := by have := hy.1; rw [show (1 : Int32) = nI 1 from rfl, q_le (by omega) (by omega)] at this; exact this
    rcases q_rng z (n := 1) (by omega) with ⟨w, hw, rfl⟩ | hz
    · have hw1 := q_rng_t (n := 1) (by omega) hw
      unfold f_X5_size at fr6 ⊢
      rw [if_pos (show 0 ≤ nI w ∧ nI w ≤ 1 from hw1), q_bd, hC.1, hC.2.1, q_add] at fr6 ⊢
      by_cases hsz : 0 < τ 7 0 + τ 7 1
      · obtain ⟨σ1, e1, e2, e3⟩ := v_become (b0 := 14) (b1 := 6) hI (by omega) hC
        obtain ⟨σ2, f1⟩ := v_drift_l hI hsz x hn hw n 0 1000 σ1 (by omega) (by omega) e2
        rw [show (q_dz τ x 0).1 = x from rfl, show (if w = 1 then nI (q_dz τ x 0).2.2 else 0) = (0 : Int32) by split <;> rfl, show nI 0 = 0 from rfl] at f1
        rw [if_pos (show (1 : Int32) ≤ nI (τ 7 0 + τ 7 1) from nI_le (a := 1) hsz (by omega)), e1, q_bd, f1] at fr6 ⊢
        refine ⟨_, σ2, rfl, k_Sm_mono (fr6 _ σ2 rfl) (by decide), fun σ' h' => ?_⟩
        have hR' := h'
        obtain ⟨-, hC', hN', hM', him', htp', hsn', hss', hot'⟩ := h'
        obtain ⟨σ3, g1, g2, g3⟩ := w_copies (p := 0) (q := 200) (by omega) (by omega) (by omega) σ'
        have hN3 : q_N τ (k_mset σ3 67 27 x) := by
          unfold q_N; rw [q_ms, if_neg (by omega), q_ms, if_neg (by omega), g3 67 (by decide)]; exact hN'
        have hM3 : q_M 0 τ (k_mset σ3 67 27 x) := q_M_of hI hM' (fun i _ hi => by rw [q_ms_ne _ _ (by omega), g2 i, if_neg (by omega)])
        obtain ⟨σ4, σ5, k1, k2, k3, k4, k5, k6⟩ := w_drift_l (w := w) hI hsz x hn1 hn hw n 0 1000 (k_mset σ3 67 27 x) (by omega) (by omega) hN3 hM3 (by rw [q_ms, if_pos ⟨rfl, rfl⟩]; rfl) (fun h => absurd h (by omega))
        rw [show (q_dz τ x 0).2.2 = 0 from rfl, show nI 0 = 0 from rfl] at k1
        rw [wy, q_bd, if_pos hy, if_neg q_10, w_in (nI w) 1 (by omega) 1 (by decide), q_bd, if_pos hw1, if_neg q_10, hN'.1, hN'.2, q_add, if_neg (nI_ne0 hsz (by omega)), show f_X7_copies 0 200 σ' = some ((), σ3) from g1, q_bd, k1]
        refine ⟨σ5, rfl, ?_⟩
        have e67 : ∀ i, i ≠ 27 → σ5 67 i = σ' 67 i := fun i hi => by
          rw [k6 67 (by decide), k3 i hi, q_ms, if_neg (fun h => hi h.2), g3 67 (by decide)]
        have e68 : ∀ i, i < 150 → σ5 68 i = σ' 68 i := fun i hi => by
          rw [k5 i]
          by_cases h50 : i < 50
          · rw [if_pos h50, k2 _ (by omega), q_ms_ne _ _ (by omega), g2, if_pos (by omega), show 0 + (200 + i - 200) = i by omega]
          · rw [if_neg h50, k2 i (by omega), q_ms_ne _ _ (by omega), g2, if_neg (by omega)]
        have ev : ∀ k, k ∉ [67, 68, 73, 74, 75] → σ5 k = σ' k := fun k hk => by
          have hk' := hk
          simp only [List.mem_cons, List.not_mem_nil, or_false, not_or] at hk'
          rw [k6 k hk'.2.1, k4 k hk, q_ms_ne _ _ hk'.1, g3 k hk'.2.1]
        refine ⟨hI, q_C_sm hC' (fun k a1 a2 => ev k (by simp; omega)), ?_, q_M_of hI hM' (fun i _ hi => e68 i (by omega)), ?_, ?_, ?_, ?_, ?_⟩
        · unfold q_N; rw [e67 1 (by omega), e67 2 (by omega)]; exact hN'
        · exact q_im_of him' rfl rfl (by rw [ev 0 (by decide)]) (ev 79 (by decide)) (fun i _ hi => e68 i hi) (fun k a1 a2 => ev k (by simp; omega))
        · exact q_tp_of htp' (by rw [ev 1 (by decide)]) (e67 10 (by omega)) (ev 2 (by decide)) (ev 70 (by decide))
        · exact q_sn_of hsn' q_Hmono (by rw [ev 55 (by decide)]) (e67 25 (by omega)) (ev 56 (by decide)) (ev 57 (by decide)) (ev 58 (by decide)) (ev 77 (by decide))
        · exact q_ss_of hss' (fun k a1 a2 => ev k (by simp; omega)) (ev 80 (by decide)) (ev 81 (by decide)) (ev 82 (by decide))
        · exact q_ot_of hot' (by rw [ev 3 (by decide)]) (e67 11 (by omega)) (by rw [ev 0 (by decide)]) (e67 32 (by omega)) (ev 71 (by decide)) (ev 72 (by decide))
      · have hz0 : τ 7 0 + τ 7 1 = 0 := by omega
        rw [hz0, if_neg (show ¬ (1 : Int32) ≤ nI 0 by decide)] at fr6 ⊢
        refine ⟨_, _, rfl, sm_rf, fun σ' h' => ?_⟩
        rw [wy, q_bd, if_pos hy, if_neg q_10, w_in (nI w) 1 (by omega) 1 (by decide), q_bd, if_pos hw1, if_neg q_10, h'.2.2.1.1, h'.2.2.1.2, q_add, hz0, if_pos (show nI 0 = 0 from rfl)]
        exact ⟨_, rfl, h'⟩
    · rw [if_neg (show ¬ (0 ≤ z ∧ z ≤ 1) from hz)] at fr6 ⊢
      refine ⟨_, _, rfl, sm_rf, fun σ' h' => ?_⟩
      rw [wy, q_bd, if_pos hy, if_neg q_10, w_in z 1 (by omega) 1 (by decide), q_bd, if_neg hz, if_pos rfl]
      exact ⟨_, rfl, h'⟩
  · have : y < 1 ∨ (60 : Int32) < y := by
      by_cases h1 : y < 1
      · exact Or.inl h1
      · right
        rw [q_nle] at h1
        rw [← q_nlt]
        intro h2
        exact hy ⟨h1, h2⟩
    have hA : ∀ X : Option (Int32 × k_Mem), (if y < 1 then some (-1, σ) else if (60 : Int32) < y then some (-1, σ) else X) = some (-1, σ) := fun X => by
      rcases this with h | h
      · rw [if_pos h]
      · by_cases h1 : y < 1
        · rw [if_pos h1]
        · rw [if_neg h1, if_pos h]
    rw [hA] at fr6 ⊢
    refine ⟨_, _, rfl, sm_rf, fun σ' h' => ?_⟩
    rw [wy, q_bd, if_neg hy, if_pos rfl]
    exact ⟨_, rfl, h'⟩)
