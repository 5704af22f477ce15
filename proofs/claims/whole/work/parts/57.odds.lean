/-! PURE: mean, luck -/
theorem q_gcs (a b : Nat) : Nat.gcd b (a % b) = Nat.gcd a b := by rw [Nat.gcd_comm b, ← Nat.gcd_rec, Nat.gcd_comm]
theorem q_lrem {a b : Nat} (ha : a < 2 ^ 63) (h0 : 0 < b) (hb : b < 2 ^ 63) : k_lrem (lN a) (lN b) = lN (a % b) := pk_lRem ha h0 hb
theorem q_l0 {b : Nat} (hb : b < 2 ^ 63) : (lN b = 0) = (b = 0) := propext (by rw [show (0 : Int64) = lN 0 from rfl, pk_lEQ hb (by omega)])
theorem q_cmod {a b n : Nat} (hb : b < 2 ^ (n + 1)) (h0 : 0 < a % b) : b % (a % b) < 2 ^ n := by
  have h1 : 2 ^ (n + 1) = 2 * 2 ^ n := by rw [Nat.pow_succ]; omega
  have hz : b = 0 ∨ a % b < b := by
    rcases Nat.eq_zero_or_pos b with h | h
    · exact Or.inl h
    · exact Or.inr (Nat.mod_lt _ h)
  generalize a % b = r at h0 hz
  have h2 : b % r < r := Nat.mod_lt _ h0
  by_cases hr : r ≤ b
  · have h3 := Nat.div_add_mod b r
    have h4 : 1 ≤ b / r := (Nat.one_le_div_iff h0).mpr hr
    have h5 : r * 1 ≤ r * (b / r) := Nat.mul_le_mul_left _ h4
    omega
  · rcases hz with rfl | hz
    · rw [Nat.zero_mod]; exact Nat.pow_pos (by decide)
    · omega
theorem v_gcd {σ : k_Mem} : ∀ (n a b f i : Nat), a < 2 ^ 63 → b < 2 ^ 63 → b < 2 ^ n → 2 * n < f → i + 2 * n < 100 → l_X6_commonDivisor_9 f (lN a) (lN b) (nI i) σ = some (lN (Nat.gcd a b), σ) := by
  have st : ∀ (a b f i : Nat), a < 2 ^ 63 → b < 2 ^ 63 → i < 100 → l_X6_commonDivisor_9 (f + 1) (lN a) (lN b) (nI i) σ = if b = 0 then some (lN (Nat.gcd a b), σ) else l_X6_commonDivisor_9 f (lN b) (lN (a % b)) (nI (i + 1)) σ := by
    intro a b f i ha hb hi
    rw [l_X6_commonDivisor_9, show (100 : Int32) = nI 100 from rfl, if_neg (nI_ge (by omega) (by omega))]
    simp only [q_cmp_eq, q_l0 hb]
    by_cases h : b = 0
    · rw [if_pos h, if_pos h, h, Nat.gcd_zero_right]
    · rw [if_neg h, if_neg h, if_neg h, q_lrem ha (by omega) hb, show nI i + 1 = nI (i + 1) from nI_1 _]
  intro n
  induction n with
  | zero =>
    intro a b f i ha hb hbn hf hi
    obtain ⟨f, rfl⟩ : ∃ g, f = g + 1 := ⟨f - 1, by omega⟩
    rw [st a b f i ha hb (by omega), if_pos (by omega)]
  | succ n ih =>
    intro a b f i ha hb hbn hf hi
    obtain ⟨f, rfl⟩ : ∃ g, f = g + 3 := ⟨f - 3, by omega⟩
    rw [st a b (f + 2) i ha hb (by omega)]
    by_cases h : b = 0
    · rw [if_pos h]
    · have hr := Nat.mod_lt a (show b > 0 by omega)
      rw [if_neg h, st b (a % b) (f + 1) (i + 1) hb (by omega) (by omega)]
      by_cases h2 : a % b = 0
      · rw [if_pos h2, q_gcs]
      · have hr2 := Nat.mod_lt b (show a % b > 0 by omega)
        rw [if_neg h2, ih (a % b) (b % (a % b)) (f + 1) (i + 1 + 1) (by omega) (by omega) (q_cmod hbn (by omega)) (by omega) (by omega), q_gcs, q_gcs]
def q_lo (x0 x2 : Int64) (x4 : Int32) (g : Nat) (σ : k_Mem) : Option (Int64 × k_Mem) := if x4 = 0 then (if lN g = 0 then none else some (x0 / lN g, σ)) else if lN g = 0 then none else some (x2 / lN g, σ)
theorem w_gcd {σ : k_Mem} {x0 x2 : Int64} {x4 : Int32} : ∀ (n a b f : Nat), a < 2 ^ 63 → b < 2 ^ 63 → b < 2 ^ n → 2 * n < f → l_X7_lowest_6 f x0 x2 x4 (lN a) (lN b) σ = q_lo x0 x2 x4 (Nat.gcd a b) σ := by
  have st : ∀ (a b f : Nat), a < 2 ^ 63 → b < 2 ^ 63 → l_X7_lowest_6 (f + 1) x0 x2 x4 (lN a) (lN b) σ = if b = 0 then q_lo x0 x2 x4 (Nat.gcd a b) σ else l_X7_lowest_6 f x0 x2 x4 (lN b) (lN (a % b)) σ := by
    intro a b f ha hb
    rw [l_X7_lowest_6]
    simp only [q_cmp_eq, q_l0 hb]
    by_cases h : b = 0
    · rw [if_pos h, if_pos h, h, Nat.gcd_zero_right]; rfl
    · rw [if_neg h, if_neg h, if_neg h, q_lrem ha (by omega) hb]
  intro n
  induction n with
  | zero =>
    intro a b f ha hb hbn hf
    obtain ⟨f, rfl⟩ : ∃ g, f = g + 1 := ⟨f - 1, by omega⟩
    rw [st a b f ha hb, if_pos (by omega)]
  | succ n ih =>
    intro a b f ha hb hbn hf
    obtain ⟨f, rfl⟩ : ∃ g, f = g + 3 := ⟨f - 3, by omega⟩
    rw [st a b (f + 2) ha hb]
    by_cases h : b = 0
    · rw [if_pos h]
    · have hr := Nat.mod_lt a (show b > 0 by omega)
      rw [if_neg h, st b (a % b) (f + 1) hb (by omega)]
      by_cases h2 : a % b = 0
      · rw [if_pos h2, q_gcs]
      · have hr2 := Nat.mod_lt b (show a % b > 0 by omega)
        rw [if_neg h2, ih (a % b) (b % (a % b)) (f + 1) (by omega) (by omega) (q_cmod hbn (by omega)) (by omega), q_gcs, q_gcs]
/-- both take a fraction to its lowest terms alike -/
theorem q_lowest {a b : Nat} (ha : a < 2 ^ 40) (hb : b < 2 ^ 27) (h0 : 0 < b) (x : Int32) : ∃ r, (∀ σ, f_X6_lowestTerms (lN a) (lN b) x σ = some (r, σ)) ∧ ∀ σ, f_X7_lowest (lN a) (lN b) x σ = some (r, σ) := by
  have hg : 0 < Nat.gcd a b := Nat.gcd_pos_of_pos_right _ h0
  have hg2 : Nat.gcd a b ≤ b := Nat.le_of_dvd h0 (Nat.gcd_dvd_right a b)
  have hn : ¬ lN (Nat.gcd a b) = 0 := by rw [q_l0 (by omega)]; omega
  refine ⟨if x = 0 then lN a / lN (Nat.gcd a b) else lN b / lN (Nat.gcd a b), fun σ => ?_, fun σ => ?_⟩
  · unfold f_X6_lowestTerms f_X6_commonDivisor
    rw [show (0 : Int32) = nI 0 from rfl, v_gcd 27 a b 1000 0 (by omega) (by omega) hb (by omega) (by omega), q_bd]
    have hc : (nI 0) ≤ lg_cmp (lN (Nat.gcd a b)) 1 := by
      have h : ¬ lg_cmp (lN (Nat.gcd a b)) 1 < 0 := by
        rw [q_cmp_lt, show (1 : Int64) = lN 1 from rfl, pk_lLT (by omega) (by omega)]; omega
      rw [q_nle] at h; exact h
    rw [if_pos hc, if_neg hn, if_neg hn]
    split <;> rfl
  · unfold f_X7_lowest
    rw [w_gcd 27 a b 1000 (by omega) (by omega) hb (by omega)]
    unfold q_lo
    rw [if_neg hn, if_neg hn]
    split <;> rfl
theorem v_power {v n : Nat} (hv : v < 2 ^ 31) (hn : n < 900) (σ : k_Mem) : f_X6_power (nI v) (nI n) σ = some (lN (v ^ n), σ) := by
  have key : ∀ m i f, i + m = n → m < f → l_X6_power_5 f (nI v) (nI n) (lN (v ^ i)) (nI i) σ = some (lN (v ^ n), σ) := by
    intro m
    induction m with
    | zero =>
      intro i f h1 h2
      obtain ⟨f, rfl⟩ : ∃ g, f = g + 1 := ⟨f - 1, by omega⟩
      obtain rfl : i = n := by omega
      rw [l_X6_power_5, if_pos (nI_le (by omega) (by omega))]
    | succ m ih =>
      intro i f h1 h2
      obtain ⟨f, rfl⟩ : ∃ g, f = g + 1 := ⟨f - 1, by omega⟩
      rw [l_X6_power_5, if_neg (nI_ge (by omega) (by omega)), nI_l hv, lN_mul, ← Nat.pow_succ, show nI i + 1 = nI (i + 1) from nI_1 _]
      exact ih (i + 1) f (by omega) (by omega)
  exact key n 0 1000 (by omega) (by omega)
def q_od (v u g : Nat) : Nat → Nat
  | 0 => 1
  | n + 1 => q_od v u g n * (if u.testBit n then (if g.testBit n then v else 10 - v) else 1)
theorem q_od_le {v u g : Nat} (hv : v ≤ 10) : ∀ n, q_od v u g n ≤ 10 ^ n
  | 0 => Nat.le_refl _
  | n + 1 => by
    rw [q_od, Nat.pow_succ]
    refine Nat.mul_le_mul (q_od_le hv n) ?_
    split
    · split <;> omega
    · omega
def q_cA (u g : Nat) : Nat → Nat := q_sm (fun c => if u.testBit c && g.testBit c then 1 else 0)
def q_cB (u g : Nat) : Nat → Nat := q_sm (fun c => if u.testBit c && !g.testBit c then 1 else 0)
theorem q_od_p (v u g : Nat) : ∀ n, q_od v u g n = v ^ q_cA u g n * (10 - v) ^ q_cB u g n
  | 0 => rfl
  | n + 1 => by
    have hA : q_cA u g (n + 1) = q_cA u g n + if u.testBit n && g.testBit n then 1 else 0 := rfl
    have hB : q_cB u g (n + 1) = q_cB u g n + if u.testBit n && !g.testBit n then 1 else 0 := rfl
    rw [q_od, q_od_p v u g n, hA, hB]
    cases u.testBit n
    · simp
    · cases g.testBit n
      · simp [Nat.pow_succ, Nat.mul_assoc]
      · simp [Nat.pow_succ, Nat.mul_assoc, Nat.mul_comm, Nat.mul_left_comm]
theorem q_cAB (u g : Nat) : ∀ n, q_cA u g n + q_cB u g n = q_sm (fun c => if u.testBit c then 1 else 0) n
  | 0 => rfl
  | n + 1 => by
    have hA : q_cA u g (n + 1) = q_cA u g n + if u.testBit n && g.testBit n then 1 else 0 := rfl
    have hB : q_cB u g (n + 1) = q_cB u g n + if u.testBit n && !g.testBit n then 1 else 0 := rfl
    rw [hA, hB, q_sm, ← q_cAB u g n]
    cases u.testBit n
    · simp
    · cases g.testBit n
      · simp; omega
      · simp; omega
def q_sb (u g : Nat) : Bool := decide (q_bb (fun c => g.testBit c && !u.testBit c) 8 = 0)
theorem q_sb_t {u g : Nat} (h : q_sb u g = true) {c : Nat} (hc : c < 8) : g.testBit c = (u.testBit c && g.testBit c) := by
  have h1 := q_bb_tb (fun c => g.testBit c && !u.testBit c) c 8
  rw [show q_bb (fun c => g.testBit c && !u.testBit c) 8 = 0 from of_decide_eq_true h] at h1
  simp [hc] at h1
  cases hg : g.testBit c
  · simp
  · rw [h1 hg]; rfl
theorem q_hbs {τ : k_TW} (hI : q_I τ) : τ 7 0 + τ 7 1 = q_pc (q_hb τ) 8 := by
  have h : ∀ l, l < 5 → ∀ r, r < 5 → l + r = q_pc (2 ^ l - 1 + 16 * (2 ^ r - 1)) 8 := by decide +kernel
  exact h _ (by have := hI.1; omega) _ (by have := hI.2.1; omega)
def q_mg (τ : k_TW) (g : Nat) : k_Mt := q_pa (q_cg τ g) (q_lk τ) 0
def q_ct (τ : k_TW) (w : Option Nat) (g : Nat) : Nat := match w with
  | none => q_pm (q_mg τ g)
  | some a => if (q_mg τ g a).isSome then 1 else 0
theorem q_ct4 (τ : k_TW) (w : Option Nat) (g : Nat) : q_ct τ w g ≤ 4 := by
  cases w with
  | none =>
    have := q_sm_le (f := fun a => if (q_mg τ g a).isSome then 1 else 0) (k := 1) (n := 4) (fun c _ => by split <;> omega)
    unfold q_ct q_pm; omega
  | some a => unfold q_ct; dsimp only; split <;> omega
def q_ts (τ : k_TW) (v : Nat) (w : Option Nat) : Nat → Nat := q_sm (fun g => if q_sb (q_hb τ) g then q_od v (q_hb τ) g 8 * q_ct τ w g else 0)
theorem q_ts_le {τ : k_TW} {v : Nat} (hv : v ≤ 10) (w : Option Nat) (n : Nat) : q_ts τ v w n ≤ n * 400000000 := q_sm_le (fun g _ => by
  split
  · have h1 := q_od_le (u := q_hb τ) (g := g) hv 8
    have h2 := q_ct4 τ w g
    have := Nat.mul_le_mul h1 h2
    rw [show 10 ^ 8 * 4 = 400000000 from rfl] at this
    exact this
  · omega)
theorem q_ts_1 {τ : k_TW} {v : Nat} {w : Option Nat} {g : Nat} (h : q_sb (q_hb τ) g = true) : q_ts τ v w (g + 1) = q_ts τ v w g + q_od v (q_hb τ) g 8 * q_ct τ w g := by
  unfold q_ts; rw [q_sm, if_pos h]
theorem q_ts_0 {τ : k_TW} {v : Nat} {w : Option Nat} {g : Nat} (h : ¬ q_sb (q_hb τ) g = true) : q_ts τ v w (g + 1) = q_ts τ v w g := by
  unfold q_ts; rw [q_sm, if_neg h]; rfl
theorem q_bb0 {p : Nat → Bool} : (nI (q_bb p 8) = 0) = (q_bb p 8 = 0) := by
  have := q_bb_l8 p (Nat.le_refl 8)
  rw [show (0 : Int32) = nI 0 from rfl, q_eq (by omega) (by omega)]
section
variable {τ : k_TW} {v : Nat} {w : Option Nat}
theorem v_stol_l (hI : q_I τ) (hv : v ≤ 10) (hw : ∀ a, w = some a → a < 8) : ∀ (m g f : Nat) (σ : k_Mem), g + m = 256 → m < f → q_C 6 τ σ → q_W τ σ → ∃ σ1, l_X6_stolenSum_25 f (nI v) (q_e1 w) (nI (q_hb τ)) (lN (q_ts τ v w g)) (nI g) σ = some (lN (q_ts τ v w 256), σ1) ∧ k_Sm [52, 53] σ σ1 := by
  have h256 := q_hb256 hI
  intro m
  induction m with
  | zero =>
    intro g f σ h1 h2 h3 h4
    obtain ⟨f, rfl⟩ : ∃ g, f = g + 1 := ⟨f - 1, by omega⟩
    obtain rfl : g = 256 := by omega
    rw [l_X6_stolenSum_25, if_pos (by decide)]
    exact ⟨σ, rfl, sm_rf⟩
  | succ m ih =>
    intro g f σ h1 h2 h3 h4
    obtain ⟨f, rfl⟩ : ∃ g, f = g + 1 := ⟨f - 1, by omega⟩
    rw [l_X6_stolenSum_25, show (256 : Int32) = nI 256 from rfl, if_neg (nI_ge (by omega) (by omega)), q_andn (show g < 256 by omega), q_andn h256]
    unfold j_X6_stolenSum_141 j_X6_stolenSum_146
    rw [show nI g + 1 = nI (g + 1) from nI_1 _]
    by_cases hs : q_sb (q_hb τ) g = true
    · have hq : q_cA (q_hb τ) g 8 = q_pc g 8 := by
        rw [q_pc_p (p := fun c => (q_hb τ).testBit c && g.testBit c) (fun c hc => q_sb_t hs hc)]; rfl
      have hz : q_cA (q_hb τ) g 8 + q_cB (q_hb τ) g 8 = q_pc (q_hb τ) 8 := by
        rw [q_cAB, q_pc_p (p := fun c => (q_hb τ).testBit c) (fun c hc => rfl)]
      have hpc := q_pc8 (u := q_hb τ) (n := 8)
      have hsz : f_X5_size 6 σ = some (nI (q_pc (q_hb τ) 8), σ) := by
        unfold f_X5_size
        rw [h3.1, h3.2.1, q_add, q_hbs hI]
      rw [if_pos (show nI (q_bb (fun c => g.testBit c && !(q_hb τ).testBit c) 8) = 0 by rw [q_bb0]; exact of_decide_eq_true hs), v_bitCount (by omega), q_bd, v_power (by omega) (by omega), q_bd, hsz, q_bd, show (10 : Int32) = nI 10 from rfl, q_sub hv, q_sub (by omega), v_power (by omega) (by omega), q_bd, lN_mul, ← hq, show q_pc (q_hb τ) 8 - q_cA (q_hb τ) g 8 = q_cB (q_hb τ) g 8 by omega, ← q_od_p]
      have hod := q_od_le (u := q_hb τ) (g := g) hv 8
      rw [show 10 ^ 8 = 100000000 from rfl] at hod
      simp only [q_cmp_le]
      have hts := q_ts_1 (v := v) (w := w) hs
      by_cases h0 : q_od v (q_hb τ) g 8 = 0
      · rw [if_pos (by rw [h0]; decide)]
        rw [h0, Nat.zero_mul, Nat.add_zero] at hts
        have := ih (g + 1) f σ (by omega) (by omega) h3 h4
        rwa [hts] at this
      · rw [if_neg (by rw [show (0 : Int64) = lN 0 from rfl, pk_lLE (by omega) (by omega)]; omega)]
        generalize hG : q_bb (fun c => (q_hb τ).testBit c && !g.testBit c) 8 = G
        have hG2 : G < 256 := by rw [← hG]; exact q_bb_l8 _ (by omega)
        have hGt : ∀ c, c < 8 → G.testBit c = (q_H τ c && !g.testBit c) := fun c hc => by
          rw [← hG, q_bb_tb, q_hbt hI hc]; simp [hc]
        rw [q_and15 _ hG2, q_and240 _ hG2]
        have hA := q_AC_g (g := g) hI (show 0 < 2 by omega)
        obtain ⟨σ2, f1, f2, f3, f4⟩ := v_ask (σ := σ) hI hA h4.2.2 (A := G % 16) (B := G / 16 * 16) (by omega) (fun c hc => by
          rw [q_t16 _ hG2 c hc, hGt c hc]
          by_cases h : c < 4
          · have : c / 4 = 0 := by omega
            simp [h, this]
          · have : ¬ c / 4 = 0 := by omega
            simp [h, this]) (by omega) (fun c hc => by
          rw [q_t240 _ hG2 c hc, hGt c hc]
          by_cases h : c < 4
          · have h1 : c / 4 = 0 := by omega
            have h2 : ¬ 4 ≤ c := by omega
            simp [h1, h2]
          · have h1 : ¬ c / 4 = 0 := by omega
            have h2 : 4 ≤ c := by omega
            simp [h1, h2])
        rw [f1, q_bd]
        have hmt : q_Mt (q_cg τ g) (q_mg τ g) := q_Mt_g hI (by omega)
        have nx := ih (g + 1) f σ2 (by omega) (by omega) (q_C_sm h3 (fun k _ k2 => f4 k (by simp; omega))) (by unfold q_W; rw [f4 46 (by decide), f4 50 (by decide), f4 51 (by decide)]; exact h4)
        rw [hts] at nx
        obtain ⟨σ3, n1, n2⟩ := nx
        cases w with
        | none =>
          rw [if_pos (show q_e1 none = -1 from rfl), v_pairs (mt := q_mg τ g) f2 (fun x c e => q_Mt31 hmt c e), q_bd]
          have h4' : q_pm (q_mg τ g) ≤ 4 := q_ct4 τ none g
          rw [nI_l (by omega), lN_mul, lN_add]
          exact ⟨σ3, n1, k_Sm_tr f4 n2⟩
        | some a =>
          have ha := hw a rfl
          rw [if_neg (show ¬ q_e1 (some a) = -1 by rw [show q_e1 (some a) = nI a from rfl, q_m1 (by omega)]; exact id), v_matedBits (mt := q_mg τ g) f2 (fun x c e => q_Mt31 hmt c e), q_bd]
          have hbb := q_bb_l8 (fun a => (q_mg τ g a).isSome) (Nat.le_refl 8)
          rw [show q_e1 (some a) = nI a from rfl, q_bit (by omega) (by omega), q_pc_t, q_bb_tb]
          have hd : (decide (a < 8) && (q_mg τ g a).isSome) = (q_mg τ g a).isSome := by simp [ha]
          rw [hd, nI_l (by split <;> omega), lN_mul, lN_add]
          exact ⟨σ3, n1, k_Sm_tr f4 n2⟩
    · rw [if_neg (show ¬ nI (q_bb (fun c => g.testBit c && !(q_hb τ).testBit c) 8) = 0 by rw [q_bb0]; exact fun h => hs (decide_eq_true h))]
      have := ih (g + 1) f σ (by omega) (by omega) h3 h4
      rwa [q_ts_0 hs] at this
/-- the reference -/
theorem w_th85 (hI : q_I τ) (hv : v ≤ 10) (hw : ∀ a, w = some a → a < 8) {g : Nat} (hg : g < 256) {k61 : Int32 → Int32 → Int32 → Int32 → Int64 → Int64 → Int32 → k_Mem → Option (Int64 × k_Mem)} {x3 : Int32} {x7 : Int64} {S : Nat} {σ : k_Mem} (hN : q_N τ σ) (hM : q_M 0 τ σ) : ∃ σ1, k_Sm [73, 74, 75] σ σ1 ∧ ∀ (m i f : Nat), i + m = 8 → m < f → l_X7_byThieves_85 k61 f (nI v) (q_e4 w) x3 (nI (q_hb τ)) (lN S) x7 (nI g) (lN (q_od v (q_hb τ) g i)) (nI i) σ = k61 (nI v) (q_e4 w) x3 (nI (q_hb τ)) (lN (S + q_od v (q_hb τ) g 8 * q_ct τ w g)) x7 (nI (g + 1)) σ1 := by
  have h256 := q_hb256 hI
  have hmt : q_Mt (q_cg τ g) (q_mg τ g) := q_Mt_g hI (by omega)
  obtain ⟨σ7, e1, e2, e3⟩ := w_laysTable hI hN hM hg
  obtain ⟨σ8, f1, f2, f3⟩ := w_asking (s := 0) hI (by omega) e2
  refine ⟨σ8, k_Sm_tr (k_Sm_mono e3 (by decide)) (k_Sm_mono f3 (by decide)), ?_⟩
  intro m
  induction m with
  | zero =>
    intro i f h1 h2
    obtain ⟨f, rfl⟩ : ∃ g, f = g + 1 := ⟨f - 1, by omega⟩
    obtain rfl : i = 8 := by omega
    rw [l_X7_byThieves_85, if_pos (by decide), e1, q_bd, show f_X7_asking 0 σ7 = some ((), σ8) from f1, q_bd]
    unfold j_X7_byThieves_182 j_X7_byThieves_187
    rw [show nI g + 1 = nI (g + 1) from nI_1 _]
    have h4' := q_ct4 τ w g
    cases w with
    | none =>
      rw [if_pos (show q_e4 none = -4 from rfl), w_pairMany (mt := q_mg τ g) f2 (fun x c e => q_Mt31 hmt c e), q_bd, nI_l (show q_pm (q_mg τ g) < 2 ^ 31 from Nat.lt_of_le_of_lt h4' (by decide)), lN_mul, lN_add]
      rfl
    | some a =>
      have ha := hw a rfl
      rw [if_neg (show ¬ q_e4 (some a) = -4 by rw [show q_e4 (some a) = nI a from rfl, q_m4 (by omega)]; exact id), show q_e4 (some a) = nI a from rfl, q_inT ha (by omega), if_pos rfl, q_n (by omega), f2 a ha]
      unfold q_ct
      have hq := q_e4_n (o := q_mg τ g a) (fun c e => q_Mt31 hmt c e)
      have hq' : (q_e4 (q_pa (q_cg τ g) (q_lk τ) 0 a) = -4) = (q_mg τ g a = none) := hq
      simp only [hq']
      cases hm : q_mg τ g a with
      | none =>
        rw [if_pos rfl, show Int32.toInt64 0 = lN 0 from rfl, lN_mul, lN_add]
        rfl
      | some b =>
        rw [if_neg (by simp), show Int32.toInt64 1 = lN 1 from rfl, lN_mul, lN_add]
        rfl
  | succ m ih =>
    intro i f h1 h2
    obtain ⟨f, rfl⟩ : ∃ g, f = g + 1 := ⟨f - 1, by omega⟩
    have nx := ih (i + 1) f (by omega) (by omega)
    rw [l_X7_byThieves_85, show (8 : Int32) = nI 8 from rfl, if_neg (nI_ge (by omega) (by omega))]
    unfold j_X7_byThieves_129
    simp only [q_bit0 (show q_hb τ < 2 ^ 31 by omega) (show i < 32 by omega), q_bit1 (show g < 2 ^ 31 by omega) (show i < 32 by omega)]
    rw [show nI i + 1 = nI (i + 1) from nI_1 _, show (10 : Int32) = nI 10 from rfl, q_sub hv, nI_l (show v < 2 ^ 31 by omega), nI_l (show 10 - v < 2 ^ 31 by omega), show (1 : Int64) = lN 1 from rfl, lN_mul, lN_mul, lN_mul]
    rw [q_od] at nx
    cases hu : (q_hb τ).testBit i
    · rw [hu] at nx
      rw [if_pos rfl]
      exact nx
    · rw [hu] at nx
      rw [if_neg (by decide)]
      cases hgi : g.testBit i
      · rw [hgi] at nx
        rw [if_neg (by decide)]
        exact nx
      · rw [hgi] at nx
        rw [if_pos rfl]
        exact nx
theorem w_th61 (hI : q_I τ) (hv : v ≤ 10) (hw : ∀ a, w = some a → a < 8) {x3 : Int32} {x7 : Int64} : ∀ (m g f : Nat) (σ : k_Mem), g + m = 256 → m < f → q_N τ σ → q_M 0 τ σ → ∃ σ1, k_Sm [73, 74, 75] σ σ1 ∧ l_X7_byThieves_61 f (nI v) (q_e4 w) x3 (nI (q_hb τ)) (lN (q_ts τ v w g)) x7 (nI g) σ = k_bd (f_X7_lowest (lN (q_ts τ v w 256)) x7 x3 σ1) (fun r4 σ4 => some (r4, σ4)) := by
  have h256 := q_hb256 hI
  intro m
  induction m with
  | zero =>
    intro g f σ h1 h2 h3 h4
    obtain ⟨f, rfl⟩ : ∃ g, f = g + 1 := ⟨f - 1, by omega⟩
    obtain rfl : g = 256 := by omega
    rw [l_X7_byThieves_61, if_pos (by decide)]
    exact ⟨σ, sm_rf, rfl⟩
  | succ m ih =>
    intro g f σ h1 h2 h3 h4
    obtain ⟨f, rfl⟩ : ∃ g, f = g + 1 := ⟨f - 1, by omega⟩
    rw [l_X7_byThieves_61, show (256 : Int32) = nI 256 from rfl, if_neg (nI_ge (by omega) (by omega)), q_andn (show g < 256 by omega)]
    by_cases hs : q_sb (q_hb τ) g = true
    · rw [if_pos (show nI (q_bb (fun c => g.testBit c && !(q_hb τ).testBit c) 8) = 0 by rw [q_bb0]; exact of_decide_eq_true hs)]
      obtain ⟨σ1, e1, e2⟩ := w_th85 hI hv hw (show g < 256 by omega) (k61 := fun x1 x2 x3 x4 x5 x7 x9 σ => l_X7_byThieves_61 f x1 x2 x3 x4 x5 x7 x9 σ) (x3 := x3) (x7 := x7) (S := q_ts τ v w g) h3 h4
      have e3 := e2 8 0 1000 (by omega) (by omega)
      rw [show lN (q_od v (q_hb τ) g 0) = 1 from rfl, show nI 0 = 0 from rfl] at e3
      rw [e3, ← q_ts_1 hs]
      obtain ⟨σ2, f1, f2⟩ := ih (g + 1) f σ1 (by omega) (by omega) (q_N_sm h3 (e1 67 (by decide))) (q_M_sm h4 (e1 68 (by decide)))
      exact ⟨σ2, k_Sm_tr e1 f1, f2⟩
    · rw [if_neg (show ¬ nI (q_bb (fun c => g.testBit c && !(q_hb τ).testBit c) 8) = 0 by rw [q_bb0]; exact fun h => hs (decide_eq_true h))]
      unfold j_X7_byThieves_187
      rw [show nI g + 1 = nI (g + 1) from nI_1 _, ← q_ts_0 (v := v) (w := w) hs]
      exact ih (g + 1) f σ (by omega) (by omega) h3 h4
theorem w_th22 (hI : q_I τ) {x1 x2 x3 : Int32} {x5 : Int64} {σ : k_Mem} : ∀ (m i f : Nat), i + m = 8 → m < f → l_X7_byThieves_22 f x1 x2 x3 (nI (q_hb τ)) x5 (lN (10 ^ q_sm (fun c => if (q_hb τ).testBit c then 1 else 0) i)) (nI i) σ = l_X7_byThieves_61 1000 x1 x2 x3 (nI (q_hb τ)) x5 (lN (10 ^ q_sm (fun c => if (q_hb τ).testBit c then 1 else 0) 8)) 0 σ := by
  have h256 := q_hb256 hI
  intro m
  induction m with
  | zero =>
    intro i f h1 h2
    obtain ⟨f, rfl⟩ : ∃ g, f = g + 1 := ⟨f - 1, by omega⟩
    obtain rfl : i = 8 := by omega
    rw [l_X7_byThieves_22, if_pos (by decide)]
  | succ m ih =>
    intro i f h1 h2
    obtain ⟨f, rfl⟩ : ∃ g, f = g + 1 := ⟨f - 1, by omega⟩
    have nx := ih (i + 1) f (by omega) (by omega)
    rw [l_X7_byThieves_22, show (8 : Int32) = nI 8 from rfl, if_neg (nI_ge (by omega) (by omega))]
    unfold j_X7_byThieves_49
    simp only [q_bit1 (show q_hb τ < 2 ^ 31 by omega) (show i < 32 by omega)]
    rw [show nI i + 1 = nI (i + 1) from nI_1 _, show (10 : Int64) = lN 10 from rfl, show (1 : Int64) = lN 1 from rfl, lN_mul, lN_mul]
    rw [q_sm.eq_2 _ i] at nx
    cases hu : (q_hb τ).testBit i
    · rw [hu] at nx
      rw [if_neg (by decide), Nat.mul_one]
      rw [if_neg (by decide), Nat.add_zero] at nx
      exact nx
    · rw [hu] at nx
      rw [if_pos rfl, ← Nat.pow_succ]
      rw [if_pos rfl] at nx
      exact nx
theorem q_hoh : ∀ l, l < 5 → ∀ r, r < 5 → (((k_shl 1 (nI l)) - 1) ||| (k_shl ((k_shl 1 (nI r)) - 1) 4)) = nI (2 ^ l - 1 + 16 * (2 ^ r - 1)) := by decide +kernel
/-- the whole of it, on both sides -/
theorem q_odds (hI : q_I τ) (hv : v ≤ 10) (hw : ∀ a, w = some a → a < 8) (x : Int32) : ∃ r, (∀ σ, q_C 6 τ σ → ∃ σ1, k_bd (f_X6_stolenSum (nI v) (q_e1 w) σ) (fun r5 σ5 => k_bd (f_X5_size 6 σ5) (fun r6 σ6 => k_bd (f_X6_power 10 r6 σ6) (fun r7 σ7 => k_bd (f_X6_lowestTerms r5 r7 x σ7) (fun r8 σ8 => some (r8, σ8))))) = some (r, σ1)) ∧ ∀ σ, q_N τ σ → q_M 0 τ σ → ∃ σ1, k_bd (f_X7_byThieves (nI v) (q_e4 w) x σ) (fun r5 σ5 => some (r5, σ5)) = some (r, σ1) := by
  have h256 := q_hb256 hI
  have hS := q_ts_le (τ := τ) hv w 256
  have hpc := q_pc8 (u := q_hb τ) (n := 8)
  have hD : 10 ^ q_pc (q_hb τ) 8 ≤ 10 ^ 8 := Nat.pow_le_pow_right (by decide) hpc
  have hD0 : 0 < 10 ^ q_pc (q_hb τ) 8 := Nat.pow_pos (by decide)
  rw [show 10 ^ 8 = 100000000 from rfl] at hD
  obtain ⟨r, l1, l2⟩ := q_lowest (a := q_ts τ v w 256) (b := 10 ^ q_pc (q_hb τ) 8) (by omega) (by omega) hD0 x
  refine ⟨r, fun σ hC => ?_, fun σ hN hM => ?_⟩
  · obtain ⟨σ1, e1, e2, e3, e4⟩ := v_weigh (b := 6) (by omega) hI hC
    obtain ⟨σ2, f1, f2⟩ := v_stol_l hI hv hw 256 0 1000 σ1 (by omega) (by omega) e2 e3
    rw [show lN (q_ts τ v w 0) = 0 from rfl, show nI 0 = 0 from rfl] at f1
    have hC2 : q_C 6 τ σ2 := q_C_sm e2 (fun k _ k2 => f2 k (by simp; omega))
    unfold f_X6_stolenSum f_X5_size
    rw [e1, q_bd, e3.1, f1, q_bd, q_bd, hC2.1, hC2.2.1, q_add, q_hbs hI, show (10 : Int32) = nI 10 from rfl, v_power (by omega) (by omega), q_bd, l1, q_bd]
    exact ⟨σ2, rfl⟩
  · unfold f_X7_byThieves f_X7_handsOf
    rw [hN.1, hN.2, q_hoh _ (by have := hI.1; omega) _ (by have := hI.2.1; omega), q_bd]
    have k1 := w_th22 hI (x1 := nI v) (x2 := q_e4 w) (x3 := x) (x5 := 0) (σ := σ) 8 0 1000 (by omega) (by omega)
    rw [show lN (10 ^ q_sm (fun c => if (q_hb τ).testBit c then 1 else 0) 0) = 1 from rfl, show nI 0 = 0 from rfl] at k1
    rw [show nI (2 ^ τ 7 0 - 1 + 16 * (2 ^ τ 7 1 - 1)) = nI (q_hb τ) from rfl, k1, ← q_pc_p (p := fun c => (q_hb τ).testBit c) (fun c hc => rfl)]
    obtain ⟨σ1, g1, g2⟩ := w_th61 hI hv hw (x3 := x) (x7 := lN (10 ^ q_pc (q_hb τ) 8)) 256 0 1000 σ (by omega) (by omega) hN hM
    rw [show lN (q_ts τ v w 0) = 0 from rfl, show nI 0 = 0 from rfl] at g2
    rw [g2, l2, q_bd, q_bd]
    exact ⟨σ1, rfl⟩
end
theorem o_mean (x y : Int32) : q_Op (fun σ => f_X6_mean x y σ) (fun σ => f_X7_mean x y σ) := q_qu (fun τ im σ h => by
  obtain ⟨hI, hC, hN, hM, -⟩ := h
  have fr6 := fr_f_X6_mean x y σ
  have fr7 := fun σ' => fr_f_X7_mean x y σ'
  unfold f_X6_mean at fr6 ⊢
  unfold f_X7_mean at fr7 ⊢
  rw [q_gd2, q_gd] at fr6 ⊢
  rcases q_rng x (n := 10) (by omega) with ⟨v, hv, rfl⟩ | hn
  · have hQ := q_rng_t (n := 10) (by omega) hv
    rw [if_pos (show 0 ≤ nI v ∧ nI v ≤ 10 from hQ)] at fr6 ⊢
    by_cases hy : 0 ≤ y ∧ y ≤ nI 1
    · rw [if_pos (show 0 ≤ y ∧ y ≤ 1 from hy)] at fr6 ⊢
      obtain ⟨r, k1, k2⟩ := q_odds (w := none) hI hv (fun a h => by cases h) y
      obtain ⟨σ1, e1⟩ := k1 σ hC
      rw [show q_e1 none = -1 from rfl] at e1
      rw [e1] at fr6 ⊢
      refine ⟨r, σ1, rfl, k_Sm_mono (fr6 _ σ1 rfl) (by decide), fun σ' h' => ?_⟩
      have fr := fr7 σ'
      obtain ⟨-, hC', hN', hM', -⟩ := h'
      obtain ⟨σ2, f1⟩ := k2 σ' hN' hM'
      rw [show q_e4 none = -4 from rfl] at f1
      rw [w_in (nI v) 10 (by omega) 10 (by decide), q_bd, if_pos hQ, if_neg q_10, w_in y 1 (by omega) 1 (by decide), q_bd, if_pos hy, if_neg q_10, f1] at fr ⊢
      exact ⟨σ2, rfl, k_Sm_mono (fr _ σ2 rfl) (by decide)⟩
    · rw [if_neg (show ¬ (0 ≤ y ∧ y ≤ 1) from hy)]
      refine ⟨_, _, rfl, sm_rf, fun σ' h' => ?_⟩
      rw [w_in (nI v) 10 (by omega) 10 (by decide), q_bd, if_pos hQ, if_neg q_10, w_in y 1 (by omega) 1 (by decide), q_bd, if_neg hy, if_pos rfl]
      exact ⟨_, rfl, sm_rf⟩
  · rw [if_neg (show ¬ (0 ≤ x ∧ x ≤ 10) from hn)]
    refine ⟨_, _, rfl, sm_rf, fun σ' h' => ?_⟩
    rw [w_in x 10 (by omega) 10 (by decide), q_bd, if_neg hn, if_pos rfl]
    exact ⟨_, rfl, sm_rf⟩)
theorem o_luck (x z y : Int32) : q_Op (fun σ => f_X6_luck x z y σ) (fun σ => f_X7_luck x z y σ) := q_qu (fun τ im σ h => by
  obtain ⟨hI, hC, hN, hM, -⟩ := h
  have fr6 := fr_f_X6_luck x z y σ
  have fr7 := fun σ' => fr_f_X7_luck x z y σ'
  unfold f_X6_luck at fr6 ⊢
  unfold f_X7_luck at fr7 ⊢
  rw [q_gd2] at fr6 ⊢
  rcases q_rng x (n := 10) (by omega) with ⟨v, hv, rfl⟩ | hn
  · have hQ := q_rng_t (n := 10) (by omega) hv
    rw [if_pos (show 0 ≤ nI v ∧ nI v ≤ 10 from hQ)] at fr6 ⊢
    rcases q_hand z (im := im) hI with ⟨a, a8, rfl, ha⟩ | ⟨h1, h2⟩
    · rw [v_isH1 hI hC ha, q_bd, if_neg q_10, q_gd] at fr6 ⊢
      by_cases hy : 0 ≤ y ∧ y ≤ nI 1
      · rw [if_pos (show 0 ≤ y ∧ y ≤ 1 from hy)] at fr6 ⊢
        obtain ⟨r, k1, k2⟩ := q_odds (w := some a) hI hv (fun b h => by cases h; exact a8) y
        obtain ⟨σ1, e1⟩ := k1 σ hC
        rw [show q_e1 (some a) = nI a from rfl] at e1
        rw [e1] at fr6 ⊢
        refine ⟨r, σ1, rfl, k_Sm_mono (fr6 _ σ1 rfl) (by decide), fun σ' h' => ?_⟩
        have fr := fr7 σ'
        obtain ⟨-, hC', hN', hM', -⟩ := h'
        obtain ⟨σ2, f1⟩ := k2 σ' hN' hM'
        rw [show q_e4 (some a) = nI a from rfl] at f1
        rw [w_in (nI v) 10 (by omega) 10 (by decide), q_bd, if_pos hQ, if_neg q_10, w_isH1 hI hN' ha, q_bd, if_neg q_10, w_in y 1 (by omega) 1 (by decide), q_bd, if_pos hy, if_neg q_10, f1] at fr ⊢
        exact ⟨σ2, rfl, k_Sm_mono (fr _ σ2 rfl) (by decide)⟩
      · rw [if_neg (show ¬ (0 ≤ y ∧ y ≤ 1) from hy)]
        refine ⟨_, _, rfl, sm_rf, fun σ' h' => ?_⟩
        rw [w_in (nI v) 10 (by omega) 10 (by decide), q_bd, if_pos hQ, if_neg q_10, w_isH1 hI h'.2.2.1 ha, q_bd, if_neg q_10, w_in y 1 (by omega) 1 (by decide), q_bd, if_neg hy, if_pos rfl]
        exact ⟨_, rfl, sm_rf⟩
    · rw [h1 6 σ hC, q_bd, if_pos rfl]
      refine ⟨_, _, rfl, sm_rf, fun σ' h' => ?_⟩
      rw [w_in (nI v) 10 (by omega) 10 (by decide), q_bd, if_pos hQ, if_neg q_10, h2 σ' h'.2.2.1, q_bd, if_pos rfl]
      exact ⟨_, rfl, sm_rf⟩
  · rw [if_neg (show ¬ (0 ≤ x ∧ x ≤ 10) from hn)]
    refine ⟨_, _, rfl, sm_rf, fun σ' h' => ?_⟩
    rw [w_in x 10 (by omega) 10 (by decide), q_bd, if_neg hn, if_pos rfl]
    exact ⟨_, rfl, sm_rf⟩)
