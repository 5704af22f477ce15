/-! PURE: lay -/
theorem q_nrK {K m h : Nat} (hK : 0 < K) (hm : m = 2 * h) (n : Nat) : (if 2 * (n * K % (m * K)) < m * K then ((n * K % (m * K) : Nat) : Int) else ((n * K % (m * K) : Nat) : Int) - ((m * K : Nat) : Int)) / ((K : Nat) : Int) = if n % m < h then ((n % m : Nat) : Int) else ((n % m : Nat) : Int) - ((m : Nat) : Int) := by
  rw [Nat.mul_mod_mul_right]
  generalize n % m = w
  have hK' : ((K : Nat) : Int) ≠ 0 := by omega
  by_cases hw : w < h
  · rw [if_pos hw, if_pos (by rw [hm, ← Nat.mul_assoc]; exact Nat.mul_lt_mul_of_pos_right (by omega) hK), Int.natCast_mul, Int.mul_ediv_cancel _ hK']
  · rw [if_neg hw, if_neg (by rw [hm, ← Nat.mul_assoc]; exact Nat.not_lt.mpr (Nat.mul_le_mul_right _ (by omega))), Int.natCast_mul, Int.natCast_mul, ← Int.sub_mul, Int.mul_ediv_cancel _ hK']
theorem q_nrB (n : Nat) (h : n < 4294967296) : Int.bmod (if 2 * n < 4294967296 then (n : Int) else (n : Int) - 4294967296) 256 = if n % 256 < 128 then ((n % 256 : Nat) : Int) else ((n % 256 : Nat) : Int) - ((256 : Nat) : Int) := by
  have e : (if 2 * n < 4294967296 then (n : Int) else (n : Int) - 4294967296) % ((256 : Nat) : Int) = ((n % 256 : Nat) : Int) := by split <;> omega
  unfold Int.bmod
  rw [e]
  dsimp only
  split <;> split <;> omega
theorem q_nrS (n : Nat) (h : n < 4294967296) : Int.bmod (if 2 * n < 4294967296 then (n : Int) else (n : Int) - 4294967296) 65536 = if n % 65536 < 32768 then ((n % 65536 : Nat) : Int) else ((n % 65536 : Nat) : Int) - ((65536 : Nat) : Int) := by
  have e : (if 2 * n < 4294967296 then (n : Int) else (n : Int) - 4294967296) % ((65536 : Nat) : Int) = ((n % 65536 : Nat) : Int) := by split <;> omega
  unfold Int.bmod
  rw [e]
  dsimp only
  split <;> split <;> omega
theorem q_nar8 (v : Int32) : Int8.toInt32 (Int32.toInt8 v) = k_shr (k_shl v 24) 24 := by
  apply Int32.toInt_inj.mp
  have h1 : (k_shl v 24).toBitVec.toNat = v.toBitVec.toNat * 2 ^ 24 % 2 ^ 32 := pk_shl v (24 &&& 31) 24 (by decide)
  have h2 : (k_shr (k_shl v 24) 24).toInt = (k_shl v 24).toInt >>> 24 := pk_shr (k_shl v 24) (24 &&& 31) 24 (by decide)
  have h4 : v.toInt = if 2 * v.toBitVec.toNat < 4294967296 then (v.toBitVec.toNat : Int) else (v.toBitVec.toNat : Int) - 4294967296 := BitVec.toInt_eq_toNat_cond v.toBitVec
  have h5 : v.toBitVec.toNat < 4294967296 := v.toBitVec.isLt
  have h3 : (k_shl v 24).toInt = if 2 * (k_shl v 24).toBitVec.toNat < 2 ^ 32 then ((k_shl v 24).toBitVec.toNat : Int) else ((k_shl v 24).toBitVec.toNat : Int) - ((2 ^ 32 : Nat) : Int) := BitVec.toInt_eq_toNat_cond (k_shl v 24).toBitVec
  have hp : (2 : Nat) ^ 32 = 256 * 2 ^ 24 := by decide
  rw [h2, Int8.toInt_toInt32, Int32.toInt_toInt8, Int.shiftRight_eq_div_pow, h3, h1, h4, hp]
  rw [q_nrK (K := 2 ^ 24) (m := 256) (h := 128) (by decide) (by decide)]
  exact q_nrB _ h5
theorem q_nar16 (v : Int32) : Int16.toInt32 (Int32.toInt16 v) = k_shr (k_shl v 16) 16 := by
  apply Int32.toInt_inj.mp
  have h1 : (k_shl v 16).toBitVec.toNat = v.toBitVec.toNat * 2 ^ 16 % 2 ^ 32 := pk_shl v (16 &&& 31) 16 (by decide)
  have h2 : (k_shr (k_shl v 16) 16).toInt = (k_shl v 16).toInt >>> 16 := pk_shr (k_shl v 16) (16 &&& 31) 16 (by decide)
  have h4 : v.toInt = if 2 * v.toBitVec.toNat < 4294967296 then (v.toBitVec.toNat : Int) else (v.toBitVec.toNat : Int) - 4294967296 := BitVec.toInt_eq_toNat_cond v.toBitVec
  have h5 : v.toBitVec.toNat < 4294967296 := v.toBitVec.isLt
  have h3 : (k_shl v 16).toInt = if 2 * (k_shl v 16).toBitVec.toNat < 2 ^ 32 then ((k_shl v 16).toBitVec.toNat : Int) else ((k_shl v 16).toBitVec.toNat : Int) - ((2 ^ 32 : Nat) : Int) := BitVec.toInt_eq_toNat_cond (k_shl v 16).toBitVec
  have hp : (2 : Nat) ^ 32 = 65536 * 2 ^ 16 := by decide
  rw [h2, Int16.toInt_toInt32, Int32.toInt_toInt16, Int.shiftRight_eq_div_pow, h3, h1, h4, hp]
  rw [q_nrK (K := 2 ^ 16) (m := 65536) (h := 32768) (by decide) (by decide)]
  exact q_nrS _ h5
theorem v_fa (b : Nat) (x y : Int32) (σ : k_Mem) : f_X2_faultAt b x y σ = some (if σ b 1 = -1 then 1 else if x = σ b 1 then (if y < 0 then 2 else if y < σ b 2 then 0 else 2) else 3, σ) := by
  unfold f_X2_faultAt f_X2_isNothing
  by_cases h : σ b 1 = -1
  · rw [if_pos h, if_pos h, q_bd, if_neg q_10]
  · rw [if_neg h, if_neg h, q_bd, if_pos rfl]
    split
    · split
      · rfl
      · split <;> rfl
    · rfl
theorem q_le1 {n : Nat} (hn : n < 2 ^ 30) (x : Int32) : (x ≤ nI n - 1) = (x < nI n) := by
  apply propext
  rcases n with _ | n
  · rw [show nI 0 - 1 = -1 from rfl, Int32.le_iff_toInt_le, Int32.lt_iff_toInt_lt, show (nI 0).toInt = 0 from rfl, show (-1 : Int32).toInt = -1 from rfl]
    omega
  · rw [show (1 : Int32) = nI 1 from rfl, q_sub (by omega), Int32.le_iff_toInt_le, Int32.lt_iff_toInt_lt, nI_toInt (by omega), nI_toInt (by omega)]
    omega
theorem o_lay (x y z : Int32) : q_Op (fun σ => f_X6_lay x y z σ) (fun σ => f_X7_lay x y z σ) := by
  intro σ hr
  obtain ⟨τ, im, hR⟩ := hr
  have hR0 := hR
  obtain ⟨hI, hC, hN, hM, him, htp, hsn, hss, hot⟩ := hR
  dsimp only
  unfold f_X6_lay f_X7_lay
  rw [v_isSheet, q_bd]
  rcases q_rng x (n := 3) (by omega) with ⟨k, hk, rfl⟩ | hn
  · have hQ := q_rng_t (n := 3) (by omega) hk
    obtain ⟨g1, ⟨n, hn, g2, g3⟩, g4⟩ := hss k (by omega)
    rw [if_pos hQ, if_neg q_10, q_inT (show k < 4 by omega) (by omega), if_pos rfl, q_n (by omega), q_isSb (by omega), if_pos rfl, v_fa, q_bd]
    rcases g1 with ⟨g1, g1'⟩ | ⟨l, hl, g1, g1'⟩
    · rw [if_pos g1, if_neg (by decide)]
      refine ⟨_, _, _, rfl, ?_, τ, im, hR0⟩
      rw [w_in (nI k) 3 (by omega) 3 (by decide), q_bd, if_pos hQ, if_neg q_10, if_pos rfl, if_pos g1']
      rfl
    · have n1 : ¬ σ (59 + 2 * k) 1 = -1 := by rw [g1, q_m1 (by omega)]; exact id
      have n4 : ¬ σ 80 k = -4 := by rw [g1', q_m4 (by omega)]; exact id
      rw [if_neg n1, if_pos rfl, g2]
      have ref0 : ∀ σ', σ' 80 k = nI l → σ' 81 k = nI n → ∀ K, k_bd (f_X7_in (nI k).toInt64 0 3 σ') (fun r1 σ1 => if r1 = 0 then some (-1, σ1) else if true = true then if σ1 80 k = -4 then some (-11, σ1) else if true = true then k_bd (f_X7_in y.toInt64 0 (σ1 81 k - 1).toInt64 σ1) K else none else none) = (k_bd (some (if 0 ≤ y ∧ y < nI n then 1 else 0, σ')) K : Option (Int32 × k_Mem)) := fun σ' h80 h81 K => by
        rw [w_in (nI k) 3 (by omega) 3 (by decide), q_bd, if_pos hQ, if_neg q_10, if_pos rfl, if_neg (by rw [h80, q_m4 (by omega)]; exact id), if_pos rfl, h81, v_in32 y 0 (nI n - 1) 0 _ (by decide) rfl]
        simp only [q_le1 (show n < 2 ^ 30 by omega)]
      by_cases hy : 0 ≤ y ∧ y < nI n
      · obtain ⟨j, hj, rfl⟩ : ∃ j, j < n ∧ y = nI j := by
          rcases q_ix y (n := n) (by omega) with h | h | h
          · exact absurd hy.1 (by rw [q_nlt]; exact h)
          · exact absurd hy.2 (by rw [q_nle]; exact h)
          · exact h
        rw [if_neg (show ¬ nI j < 0 by rw [q_nle]; exact hy.1), if_pos hy.2, if_pos rfl]
        obtain ⟨v, hv1, hv2⟩ : ∃ v, f_X2_put (59 + 2 * k) (nI j) z σ = some ((), k_mset σ (59 + 2 * k + 1) j v) ∧ v = (if nI l = 0 then k_shr (k_shl z 24) 24 else if nI l = 1 then k_shr (k_shl z 16) 16 else z) := by
          unfold f_X2_put
          rw [g1, q_inT (show j < 40 by omega) (by omega), q_n (by omega), q_nar8, q_nar16]
          by_cases h0 : nI l = 0
          · rw [if_pos h0, if_pos rfl]; exact ⟨_, rfl, by rw [if_pos h0]⟩
          · rw [if_neg h0]
            by_cases h1 : nI l = 1
            · rw [if_pos h1, if_pos rfl]; exact ⟨_, rfl, by rw [if_neg h0, if_pos h1]⟩
            · rw [if_neg h1, if_pos rfl]; exact ⟨_, rfl, by rw [if_neg h0, if_neg h1]⟩
        rw [hv1, q_bd]
        have jj : ∀ w σ', j_X7_lay_99 (40 * nI k + nI j) w σ' = some (1, k_mset σ' 82 (40 * k + j) w) := fun w σ' => by
          unfold j_X7_lay_99
          rw [show (40 : Int32) = nI 40 from rfl, q_mul, q_add, q_inT (show 40 * k + j < 160 by omega) (by omega), if_pos rfl, q_n (by omega)]
        refine ⟨_, _, k_mset (k_mset σ (59 + 2 * k + 1) j v) 82 (40 * k + j) v, rfl, ?_, τ, im, q_R_ss hR0 ?_ (fun c h1 h2 h3 h4 => by rw [q_ms_ne _ _ h4, q_ms_ne _ _ (by omega)])⟩
        · have e80 : (k_mset σ (59 + 2 * k + 1) j v) 80 k = nI l := by rw [q_ms_ne _ _ (by omega)]; exact g1'
          rw [ref0 _ e80 (by rw [q_ms_ne _ _ (by omega)]; exact g3), q_bd, if_pos hy, if_neg q_10, if_pos rfl, jj, jj, jj, e80, hv2]
          by_cases h0 : nI l = 0
          · rw [if_pos h0, if_pos h0]
          · rw [if_neg h0, if_neg h0, if_pos rfl]
            by_cases h1 : nI l = 1
            · rw [if_pos h1, if_pos h1]
            · rw [if_neg h1, if_neg h1]
        · intro i hi
          obtain ⟨e1, e2, e3⟩ := hss i hi
          rw [q_ms_ne _ _ (by omega), q_ms_ne _ _ (by omega), q_ms_ne _ _ (show 80 ≠ 82 by decide), q_ms_ne _ _ (by omega), q_ms_ne _ _ (show 81 ≠ 82 by decide), q_ms_ne _ _ (by omega)]
          refine ⟨e1, e2, fun i' hi' => ?_⟩
          rw [q_ms_ne _ _ (show 60 + 2 * i ≠ 82 by omega), q_ms, q_ms]
          by_cases he : i = k ∧ i' = j
          · rw [if_pos ⟨by omega, he.2⟩, if_pos ⟨rfl, by omega⟩]
          · rw [if_neg (by omega), if_neg (by omega), q_ms_ne _ _ (by omega)]
            exact e3 i' hi'
      · have hb : (if y < 0 then (2 : Int32) else if y < nI n then 0 else 2) = 2 := by
          split
          · rfl
          · split
            · rename_i h1 h2; rw [q_nle] at h1; exact absurd ⟨h1, h2⟩ hy
            · rfl
        rw [hb, if_neg (by decide)]
        refine ⟨_, _, _, rfl, ?_, τ, im, hR0⟩
        rw [ref0 σ g1' g3, q_bd, if_neg hy, if_pos rfl]
        rfl
  · rw [if_neg hn, if_pos rfl]
    refine ⟨_, _, _, rfl, ?_, τ, im, hR0⟩
    rw [w_in x 3 (by omega) 3 (by decide), q_bd, if_neg hn, if_pos rfl]
