/-! PURE: fold, wed, part -/
/-- two values of one row change -/
def q_u2 (τ : k_TW) (t a v b w : Nat) : k_TW := q_up (q_up τ t a v) t b w
theorem q_u2_t {τ : k_TW} {t a v b w t' c : Nat} (h : t' ≠ t) : q_u2 τ t a v b w t' c = τ t' c := by unfold q_u2; rw [q_up_t h, q_up_t h]
theorem q_u2_a {τ : k_TW} {t a v b w : Nat} (h : a ≠ b) : q_u2 τ t a v b w t a = v := by unfold q_u2; rw [q_up_a h, q_up_s]
theorem q_u2_b {τ : k_TW} {t a v b w : Nat} : q_u2 τ t a v b w t b = w := by unfold q_u2; rw [q_up_s]
theorem q_u2_n {τ : k_TW} {t a v b w t' c : Nat} (h1 : c ≠ a) (h2 : c ≠ b) : q_u2 τ t a v b w t' c = τ t' c := by unfold q_u2; rw [q_up_a h2, q_up_a h1]
theorem q_H_u2 {τ : k_TW} {t a v b w : Nat} (h : t ≠ 7) (c : Nat) : q_H (q_u2 τ t a v b w) c = q_H τ c := q_H_eq (q_u2_t (Ne.symm h)) (q_u2_t (Ne.symm h)) c
/-- the class's town when the spouses or the foldings of two change -/
theorem q_C_u2 {b0 : Nat} {τ : k_TW} {σ : k_Mem} (hC : q_C b0 τ σ) {t a v b w : Nat} (ht : t = 5 ∨ t = 6) (ha : a < 8) (hb : b < 8) (hne : a ≠ b) {x y : Int32} (hx : x = if t = 5 then nI v - 1 else nI v) (hy : y = if t = 5 then nI w - 1 else nI w) : q_C b0 (q_u2 τ t a v b w) (k_mset (k_mset σ (b0 + 1 + t) a x) (b0 + 1 + t) b y) := by
  have e7 : ∀ c, q_u2 τ t a v b w 7 c = τ 7 c := fun c => q_u2_t (by omega)
  have ev : ∀ k, k ≠ b0 + 1 + t → (k_mset (k_mset σ (b0 + 1 + t) a x) (b0 + 1 + t) b y) k = σ k := fun k hk => by rw [q_ms_ne _ _ hk, q_ms_ne _ _ hk]
  have er : ∀ c, (k_mset (k_mset σ (b0 + 1 + t) a x) (b0 + 1 + t) b y) (b0 + 1 + t) c = if c = b then y else if c = a then x else σ (b0 + 1 + t) c := fun c => by
    rw [q_ms, q_ms]
    by_cases h1 : c = b
    · rw [if_pos ⟨rfl, h1⟩, if_pos h1]
    · rw [if_neg (fun g => h1 g.2), if_neg h1]
      by_cases h2 : c = a
      · rw [if_pos ⟨rfl, h2⟩, if_pos h2]
      · rw [if_neg (fun g => h2 g.2), if_neg h2]
  have vr : ∀ c, q_u2 τ t a v b w t c = if c = b then w else if c = a then v else τ t c := fun c => by
    unfold q_u2 q_up
    by_cases h1 : c = b
    · rw [if_pos ⟨rfl, h1⟩, if_pos h1]
    · rw [if_neg (fun g => h1 g.2), if_neg h1]
      by_cases h2 : c = a
      · rw [if_pos ⟨rfl, h2⟩, if_pos h2]
      · rw [if_neg (fun g => h2 g.2), if_neg h2]
  refine q_C_mk ?_ ?_ ?_ ?_ (fun t' a' ht' ha' => ?_) (fun c hc => ?_)
  · rw [ev _ (by omega), e7]; exact hC.1
  · rw [ev _ (by omega), e7]; exact hC.2.1
  · rw [ev _ (by omega), e7]; exact hC.2.2.1
  · rw [ev _ (by omega), e7]; exact hC.2.2.2.1
  · rw [q_H_u2 (by omega)] at ha'
    rw [ev _ (by omega), q_u2_t (by omega)]; exact q_row hC ht' ha'
  · obtain ⟨g1, g2⟩ := hC.2.2.2.2.2 c hc
    rcases ht with rfl | rfl
    · refine ⟨?_, by rw [ev _ (by omega), q_u2_t (by omega)]; exact g2⟩
      rw [show b0 + 6 = b0 + 1 + 5 by omega, er, vr]
      rw [if_pos rfl] at hx hy
      by_cases h1 : c = b
      · rw [if_pos h1, if_pos h1]; exact hy
      · rw [if_neg h1, if_neg h1]
        by_cases h2 : c = a
        · rw [if_pos h2, if_pos h2]; exact hx
        · rw [if_neg h2, if_neg h2]; exact g1
    · refine ⟨by rw [ev _ (by omega), q_u2_t (by omega)]; exact g1, ?_⟩
      rw [show b0 + 7 = b0 + 1 + 6 by omega, er, vr]
      rw [if_neg (by omega)] at hx hy
      by_cases h1 : c = b
      · rw [if_pos h1, if_pos h1]; exact hy
      · rw [if_neg h1, if_neg h1]
        by_cases h2 : c = a
        · rw [if_pos h2, if_pos h2]; exact hx
        · rw [if_neg h2, if_neg h2]; exact g2
theorem q_M_u2 {τ : k_TW} {σ : k_Mem} (hI : q_I τ) (hM : q_M 0 τ σ) {t a v b w : Nat} (ht : t = 5 ∨ t = 6) (ha : a < 4) (hb : 4 ≤ b) {x : Int32} (hx : x = if t = 5 then nI (v - 1) else nI v) : q_M 0 (q_u2 τ t a v b w) (k_mset σ 68 ((if t = 5 then 45 else 40) + a) x) := by
  refine q_M_mk (fun t' c ht' hc => ?_) (fun c hc => ?_) (fun c hc => ?_) ?_ ?_
  · rw [q_H_u2 (by omega)] at hc
    have := q_H8 hI hc
    rw [q_ms, if_neg (by rcases ht with rfl | rfl <;> simp <;> omega), q_u2_t (by omega)]; exact q_Mrow hM ht' hc
  · rw [q_H_u2 (by omega)] at hc
    have := q_H8 hI hc
    rw [q_ms, if_neg (by rcases ht with rfl | rfl <;> simp <;> omega), q_u2_t (by omega)]; exact (hM.1 c hc).2.2.2.2
  · obtain ⟨g1, g2⟩ := hM.2.1 c hc
    rcases ht with rfl | rfl
    · rw [if_pos rfl] at hx ⊢
      rw [q_ms, if_neg (by omega), q_u2_t (t' := 6) (by omega)]
      refine ⟨g1, ?_⟩
      rw [q_ms]
      by_cases h : c = a
      · rw [if_pos (by omega), h, q_u2_a (by omega)]; exact hx
      · rw [if_neg (by omega), q_u2_n h (by omega)]; exact g2
    · rw [if_neg (by omega)] at hx ⊢
      rw [q_ms (j := 0 + 45 + c), if_neg (by omega), q_u2_t (t' := 5) (by omega)]
      refine ⟨?_, g2⟩
      rw [q_ms]
      by_cases h : c = a
      · rw [if_pos (by omega), h, q_u2_a (by omega)]; exact hx
      · rw [if_neg (by omega), q_u2_n h (by omega)]; exact g1
  · rw [q_ms, if_neg (by rcases ht with rfl | rfl <;> simp <;> omega), q_u2_t (by omega)]; exact hM.2.2.1
  · rw [q_ms, if_neg (by rcases ht with rfl | rfl <;> simp <;> omega), q_u2_t (by omega)]; exact hM.2.2.2
theorem q_I_u2 {τ : k_TW} (hI : q_I τ) {t a v b w : Nat} (ht : t = 5 ∨ t = 6) (h5 : t = 5 → ∀ c, c < 8 → q_u2 τ t a v b w 5 c ≤ 8 ∧ (q_u2 τ t a v b w 5 c ≠ 0 → q_H τ c = true ∧ q_H τ (q_u2 τ t a v b w 5 c - 1) = true ∧ c / 4 ≠ (q_u2 τ t a v b w 5 c - 1) / 4 ∧ q_u2 τ t a v b w 5 (q_u2 τ t a v b w 5 c - 1) = c + 1)) (h6 : t = 6 → ∀ c, c < 8 → q_u2 τ t a v b w 6 c < 256 ∧ ∀ d, (q_u2 τ t a v b w 6 c).testBit d = true → q_H τ c = true ∧ q_H τ d = true ∧ c / 4 ≠ d / 4 ∧ (q_u2 τ t a v b w 6 d).testBit c = true) : q_I (q_u2 τ t a v b w) := by
  obtain ⟨i1, i2, i3, i4, i5, i6, i7, i8⟩ := hI
  have hH : ∀ c, q_H (q_u2 τ t a v b w) c = q_H τ c := fun c => q_H_u2 (by omega) c
  have e7 : ∀ c, q_u2 τ t a v b w 7 c = τ 7 c := fun c => q_u2_t (by omega)
  have hr : ∀ c, q_run (q_u2 τ t a v b w) c = q_run τ c := fun c => by unfold q_run; rw [e7]
  refine ⟨by rw [e7]; exact i1, by rw [e7]; exact i2, by rw [e7]; exact i3, by rw [e7]; exact i4, fun c hc => by rw [hH]; rw [hr] at hc; exact i5 c hc, fun c hc => ?_, fun c hc => ?_, fun c hc => ?_⟩
  · rw [hH] at hc
    rw [q_u2_t (t' := 0) (by omega), q_u2_t (t' := 1) (by omega), q_u2_t (t' := 2) (by omega), q_u2_t (t' := 3) (by omega), q_u2_t (t' := 4) (by omega), hH]; exact i6 c hc
  · rcases ht with rfl | rfl
    · rw [hH, hH]; exact h5 rfl c hc
    · rw [q_u2_t (t' := 5) (by omega), hH, hH, q_u2_t (t' := 5) (by omega)]; exact i7 c hc
  · rcases ht with rfl | rfl
    · rw [q_u2_t (t' := 6) (by omega)]
      refine ⟨(i8 c hc).1, fun d hd => ?_⟩
      rw [hH, hH, q_u2_t (t' := 6) (by omega)]; exact (i8 c hc).2 d hd
    · refine ⟨(h6 rfl c hc).1, fun d hd => ?_⟩
      rw [hH, hH]; exact (h6 rfl c hc).2 d hd
theorem q_I_wed {τ : k_TW} (hI : q_I τ) {a b : Nat} (ha : q_H τ a = true) (hb : q_H τ b = true) (hs : a / 4 ≠ b / 4) (h1 : τ 5 a = 0) (h2 : τ 5 b = 0) : q_I (q_u2 τ 5 a (b + 1) b (a + 1)) := by
  have a8 := q_H8 hI ha
  have b8 := q_H8 hI hb
  have hne : a ≠ b := fun e => hs (by rw [e])
  refine q_I_u2 hI (Or.inl rfl) (fun _ c hc => ?_) (fun h => by omega)
  by_cases ca : c = a
  · rw [ca, q_u2_a hne, Nat.add_sub_cancel, q_u2_b]
    exact ⟨by omega, fun _ => ⟨ha, hb, hs, rfl⟩⟩
  · by_cases cb : c = b
    · rw [cb, q_u2_b, Nat.add_sub_cancel, q_u2_a hne]
      exact ⟨by omega, fun _ => ⟨hb, ha, Ne.symm hs, rfl⟩⟩
    · rw [q_u2_n ca cb]
      obtain ⟨g1, g2⟩ := hI.2.2.2.2.2.2.1 c hc
      refine ⟨g1, fun h => ?_⟩
      obtain ⟨k1, k2, k3, k4⟩ := g2 h
      refine ⟨k1, k2, k3, ?_⟩
      have n1 : τ 5 c - 1 ≠ a := fun e => by rw [e, h1] at k4; omega
      have n2 : τ 5 c - 1 ≠ b := fun e => by rw [e, h2] at k4; omega
      rw [q_u2_n n1 n2]; exact k4
theorem q_I_part {τ : k_TW} (hI : q_I τ) {a b : Nat} (a8 : a < 8) (h : q_so τ a = some b) : q_I (q_u2 τ 5 a 0 b 0) := by
  obtain ⟨ha, hb, hs, hba, b8⟩ := q_so_in hI a8 h
  rw [q_so_s] at h hba
  have hne : a ≠ b := fun e => hs (by rw [e])
  refine q_I_u2 hI (Or.inl rfl) (fun _ c hc => ?_) (fun h => by omega)
  by_cases ca : c = a
  · rw [ca, q_u2_a hne]; exact ⟨by omega, fun h => absurd rfl h⟩
  · by_cases cb : c = b
    · rw [cb, q_u2_b]; exact ⟨by omega, fun h => absurd rfl h⟩
    · rw [q_u2_n ca cb]
      obtain ⟨g1, g2⟩ := hI.2.2.2.2.2.2.1 c hc
      refine ⟨g1, fun h0 => ?_⟩
      obtain ⟨k1, k2, k3, k4⟩ := g2 h0
      refine ⟨k1, k2, k3, ?_⟩
      have n1 : τ 5 c - 1 ≠ a := fun e => by rw [e, h] at k4; omega
      have n2 : τ 5 c - 1 ≠ b := fun e => by rw [e, hba] at k4; omega
      rw [q_u2_n n1 n2]; exact k4
theorem q_I_fold {τ : k_TW} (hI : q_I τ) {a b : Nat} (ha : q_H τ a = true) (hb : q_H τ b = true) (hs : a / 4 ≠ b / 4) (is : Bool) : q_I (q_u2 τ 6 a (q_wbt (τ 6 a) b is) b (q_wbt (τ 6 b) a is)) := by
  have a8 := q_H8 hI ha
  have b8 := q_H8 hI hb
  have hne : a ≠ b := fun e => hs (by rw [e])
  have i8 := hI.2.2.2.2.2.2.2
  have va := q_wbt_256 _ (i8 a a8).1 b b8 is
  have vb := q_wbt_256 _ (i8 b b8).1 a a8 is
  refine q_I_u2 hI (Or.inr rfl) (fun h => by omega) (fun _ c hc => ?_)
  by_cases ca : c = a
  · rw [ca, q_u2_a hne]
    refine ⟨va, fun d hd => ?_⟩
    have d8 := q_t8 va hd
    rw [q_wbt_t b8 d8] at hd
    by_cases db : d = b
    · rw [if_pos db] at hd
      rw [db, q_u2_b, q_wbt_t a8 a8, if_pos rfl]
      exact ⟨ha, hb, hs, hd⟩
    · rw [if_neg db] at hd
      obtain ⟨k1, k2, k3, k4⟩ := (i8 a a8).2 d hd
      rw [q_u2_n (fun e => k3 (by rw [e])) db]
      exact ⟨k1, k2, k3, k4⟩
  · by_cases cb : c = b
    · rw [cb, q_u2_b]
      refine ⟨vb, fun d hd => ?_⟩
      have d8 := q_t8 vb hd
      rw [q_wbt_t a8 d8] at hd
      by_cases da : d = a
      · rw [if_pos da] at hd
        rw [da, q_u2_a hne, q_wbt_t b8 b8, if_pos rfl]
        exact ⟨hb, ha, Ne.symm hs, hd⟩
      · rw [if_neg da] at hd
        obtain ⟨k1, k2, k3, k4⟩ := (i8 b b8).2 d hd
        rw [q_u2_n da (fun e => k3 (by rw [e]))]
        exact ⟨k1, k2, k3, k4⟩
    · rw [q_u2_n ca cb]
      refine ⟨(i8 c hc).1, fun d hd => ?_⟩
      obtain ⟨k1, k2, k3, k4⟩ := (i8 c hc).2 d hd
      refine ⟨k1, k2, k3, ?_⟩
      by_cases da : d = a
      · rw [da, q_u2_a hne, q_wbt_t b8 hc, if_neg cb, ← da]; exact k4
      · by_cases db : d = b
        · rw [db, q_u2_b, q_wbt_t a8 hc, if_neg ca, ← db]; exact k4
        · rw [q_u2_n da db]; exact k4
theorem o_fold (x y z : Int32) : q_Op (fun σ => f_X6_fold x y z σ) (fun σ => f_X7_fold x y z σ) := by
  intro σ hr
  obtain ⟨τ, im, hR⟩ := hr
  have hR0 := hR
  obtain ⟨hI, hC, hN, hM, -⟩ := hR
  dsimp only
  unfold f_X6_fold f_X7_fold
  rcases q_two x y hI with ⟨a, b, a4, b4, rfl, rfl, ha, hb, h1, h2⟩ | ⟨h1, h2⟩
  · have a8 := q_H8 hI ha
    have b8 := q_H8 hI hb
    have i8 := hI.2.2.2.2.2.2.2
    rw [(h1 σ hC).1, q_bd, if_neg q_10, (h1 σ hC).2, q_bd, if_neg q_10, v_areFolded hI hC a8 (by omega), q_bd]
    have hI1 := q_I_fold hI ha hb (by omega) (decide (z ≠ 0))
    generalize hva : q_wbt (τ 6 a) b (decide (z ≠ 0)) = va at hI1
    generalize hvb : q_wbt (τ 6 b) a (decide (z ≠ 0)) = vb at hI1
    have hset : f_X5_setFolded 6 (nI a) (nI b) z σ = some ((), k_mset (k_mset σ 13 a (nI va)) 13 b (nI vb)) := by
      unfold f_X5_setFolded
      simp only [q_inT a8 (by omega : 8 < 2 ^ 31), q_inT b8 (by omega : 8 < 2 ^ 31), if_true, q_n (show a < 2 ^ 31 by omega), q_n (show b < 2 ^ 31 by omega)]
      have e1 : σ (6 + 7) a = nI (τ 6 a) := (hC.2.2.2.2.2 a a8).2
      have e2 : σ (6 + 7) b = nI (τ 6 b) := (hC.2.2.2.2.2 b b8).2
      rw [e1, v_withBit (i8 a a8).1 b8, q_bd, q_ms, if_neg (by omega), e2, v_withBit (i8 b b8).1 a8, q_bd, hva, hvb]
    refine ⟨q_b ((τ 6 a).testBit b), k_mset (k_mset σ 13 a (nI va)) 13 b (nI vb), k_mset (k_mset (k_mset σ 13 a (nI va)) 13 b (nI vb)) 68 (40 + a) (nI va), ?_, ?_, q_u2 τ 6 a va b vb, im, q_Re_t hR0 (q_u2_t (by omega)) (q_u2_t (by omega)) hI1 ?_ ?_ (k_Sm_tr (k_Sm_tr (q_tn_set (by decide)) (q_tn_set (by decide))) (q_tn_set (by decide))) (fun i h3 h4 => by rw [q_ms, if_neg (by omega), q_ms_ne _ _ (by omega), q_ms_ne _ _ (by omega)])⟩
    · simp only [q_b0, j_X6_fold_41, hset, q_bd]
      cases (τ 6 a).testBit b <;> rfl
    · have hN1 : q_N τ (k_mset (k_mset σ 13 a (nI va)) 13 b (nI vb)) := q_N_sm hN (by rw [q_ms_ne _ _ (by decide), q_ms_ne _ _ (by decide)])
      have e40 : (k_mset (k_mset σ 13 a (nI va)) 13 b (nI vb)) 68 (40 + a) = nI (τ 6 a) := by
        rw [q_ms_ne _ _ (by decide), q_ms_ne _ _ (by decide)]
        have := (hM.2.1 a a4).1; rwa [show 0 + 40 + a = 40 + a by omega] at this
      rw [h2 _ hN1, q_bd, if_neg q_10, show (40 : Int32) = nI 40 from rfl, q_add, q_inT (show 40 + a < 250 by omega) (by omega), if_pos rfl, if_pos rfl, q_n (by omega), e40]
      have hj : ∀ (u : Int32) σ', j_X7_fold_60 (k_shr (nI (τ 6 a)) (nI b) &&& 1) (nI (40 + a)) (nI (τ 6 a) &&& ((k_shl 1 (nI b)) ^^^ (-1))) u σ' = some (q_b ((τ 6 a).testBit b), k_mset σ' 68 (40 + a) ((nI (τ 6 a) &&& ((k_shl 1 (nI b)) ^^^ (-1))) ||| u)) := fun u σ' => by
        unfold j_X7_fold_60
        rw [q_inT (show 40 + a < 250 by omega) (by omega), if_pos rfl, q_n (by omega), q_bit (by have := (i8 a a8).1; omega) (by omega), q_pc_t]
        cases (τ 6 a).testBit b <;> rfl
      have hw := q_w_or (x := z) (i8 a a8).1 b8
      rw [hva] at hw
      rw [hj, hj, ← hw]
      by_cases h : z = 0
      · rw [if_pos h, if_pos h]
      · rw [if_neg h, if_neg h]
    · exact q_C_sm (q_C_u2 (v := va) (w := vb) hC (Or.inr rfl) a8 b8 (by omega) (x := nI va) (y := nI vb) rfl rfl) (fun k k1 k2 => q_ms_ne _ _ (by omega))
    · refine q_M_of hI1 (q_M_u2 (v := va) (w := vb) (b := b) hI hM (Or.inr rfl) a4 b4 (x := nI va) rfl) (fun i _ _ => ?_)
      rw [if_neg (by omega), q_ms, q_ms_ne (a := 68) (k := 13) _ _ (by omega), q_ms_ne (a := 68) (k := 13) _ _ (by omega), q_ms]
  · rcases h1 σ hC with h | ⟨h, h3⟩
    · rw [h, q_bd, if_pos rfl]
      refine ⟨_, _, _, rfl, ?_, τ, im, hR0⟩
      rw [h2 σ hN, q_bd, if_pos rfl]
    · rw [h, q_bd, if_neg q_10, h3, q_bd, if_pos rfl]
      refine ⟨_, _, _, rfl, ?_, τ, im, hR0⟩
      rw [h2 σ hN, q_bd, if_pos rfl]
theorem o_wed (x y : Int32) : q_Op (fun σ => f_X6_wed x y σ) (fun σ => f_X7_wed x y σ) := by
  intro σ hr
  obtain ⟨τ, im, hR⟩ := hr
  have hR0 := hR
  obtain ⟨hI, hC, hN, hM, -⟩ := hR
  dsimp only
  unfold f_X6_wed f_X7_wed
  rcases q_two x y hI with ⟨a, b, a4, b4, rfl, rfl, ha, hb, h1, h2⟩ | ⟨h1, h2⟩
  · have a8 := q_H8 hI ha
    have b8 := q_H8 hI hb
    rw [(h1 σ hC).1, q_bd, if_neg q_10, (h1 σ hC).2, q_bd, if_neg q_10, v_isWed hI hC a8, q_bd]
    simp only [q_b0]
    have e4 : ∀ σ', q_M 0 τ σ' → ∀ c, c < 8 → f_X7_wedTo (nI c) σ' = some (q_e4 (q_so τ c), σ') := fun σ' hM' c hc => w_wedTo hI hM' hc
    cases hsa : q_so τ a with
    | some c =>
      rw [if_neg (by simp)]
      refine ⟨_, _, _, rfl, ?_, τ, im, hR0⟩
      rw [h2 σ hN, q_bd, if_neg q_10, e4 σ hM a a8, q_bd, hsa, if_neg (by have := (q_so_in hI a8 hsa).2.2.2.2; show ¬ nI c = -4; rw [q_m4 (by omega)]; exact id)]
    | none =>
      rw [if_pos (show (none : Option Nat).isSome = false from rfl), v_isWed hI hC b8, q_bd]
      simp only [q_b0]
      cases hsb : q_so τ b with
      | some c =>
        rw [if_neg (by simp)]
        refine ⟨_, _, _, rfl, ?_, τ, im, hR0⟩
        rw [h2 σ hN, q_bd, if_neg q_10, e4 σ hM a a8, q_bd, hsa, if_pos (show q_e4 none = -4 from rfl), e4 σ hM b b8, q_bd, hsb, if_neg (by have := (q_so_in hI b8 hsb).2.2.2.2; show ¬ nI c = -4; rw [q_m4 (by omega)]; exact id)]
      | none =>
        rw [if_pos (show (none : Option Nat).isSome = false from rfl), v_areFolded hI hC a8 (by omega), q_bd]
        simp only [q_b0]
        cases hf : (τ 6 a).testBit b
        · rw [if_pos rfl]
          have z1 : τ 5 a = 0 := by rw [q_so_n] at hsa; exact hsa
          have z2 : τ 5 b = 0 := by rw [q_so_n] at hsb; exact hsb
          have hI1 := q_I_wed hI ha hb (by omega) z1 z2
          have hjn : f_X5_join 6 (nI a) (nI b) σ = some ((), k_mset (k_mset σ 12 a (nI b)) 12 b (nI a)) := by
            unfold f_X5_join
            simp only [q_inT a8 (by omega : 8 < 2 ^ 31), q_inT b8 (by omega : 8 < 2 ^ 31), if_true, q_n (show a < 2 ^ 31 by omega), q_n (show b < 2 ^ 31 by omega)]
          have hC1 : q_C 6 (q_u2 τ 5 a (b + 1) b (a + 1)) (k_mset (k_mset σ 12 a (nI b)) 12 b (nI a)) := q_C_u2 hC (Or.inl rfl) a8 b8 (by omega) (by rw [if_pos rfl]; exact (nI_pred b).symm) (by rw [if_pos rfl]; exact (nI_pred a).symm)
          have hM1 : q_M 0 (q_u2 τ 5 a (b + 1) b (a + 1)) (k_mset (k_mset (k_mset σ 12 a (nI b)) 12 b (nI a)) 68 (45 + a) (nI b)) := by
            refine q_M_of hI1 (q_M_u2 (v := b + 1) (w := a + 1) (b := b) hI hM (Or.inl rfl) a4 b4 (x := nI b) (by rw [if_pos rfl, Nat.add_sub_cancel])) (fun i _ _ => ?_)
            rw [if_pos rfl, q_ms, q_ms_ne (a := 68) (k := 12) _ _ (by omega), q_ms_ne (a := 68) (k := 12) _ _ (by omega), q_ms]
          rw [hjn, q_bd, v_couples hI1 hC1, q_bd]
          refine ⟨_, _, k_mset (k_mset (k_mset σ 12 a (nI b)) 12 b (nI a)) 68 (45 + a) (nI b), rfl, ?_, q_u2 τ 5 a (b + 1) b (a + 1), im, q_Re_t hR0 (q_u2_t (by omega)) (q_u2_t (by omega)) hI1 (q_C_sm hC1 (fun k k1 k2 => q_ms_ne _ _ (by omega))) hM1 (k_Sm_tr (k_Sm_tr (q_tn_set (by decide)) (q_tn_set (by decide))) (q_tn_set (by decide))) (fun i h3 h4 => by rw [q_ms, if_neg (by omega), q_ms_ne _ _ (by omega), q_ms_ne _ _ (by omega)])⟩
          have ev : ∀ k, k ≠ 12 → (k_mset (k_mset σ 12 a (nI b)) 12 b (nI a)) k = σ k := fun k hk => by rw [q_ms_ne _ _ hk, q_ms_ne _ _ hk]
          have hM' := q_M_sm hM (ev 68 (by decide))
          rw [h2 _ (q_N_sm hN (ev 67 (by decide))), q_bd, if_neg q_10, e4 _ hM' a a8, q_bd, hsa, if_pos (show q_e4 none = -4 from rfl), e4 _ hM' b b8, q_bd, hsb, if_pos (show q_e4 none = -4 from rfl), w_areFolded hI hM' ha hb (by omega), q_bd, hf, if_pos (show q_b false = 0 from rfl), show (45 : Int32) = nI 45 from rfl, q_add, q_inT (show 45 + a < 250 by omega) (by omega), if_pos rfl, q_n (by omega)]
          exact w_couples hI1 hM1
        · rw [if_neg (by decide)]
          refine ⟨_, _, _, rfl, ?_, τ, im, hR0⟩
          rw [h2 σ hN, q_bd, if_neg q_10, e4 σ hM a a8, q_bd, hsa, if_pos (show q_e4 none = -4 from rfl), e4 σ hM b b8, q_bd, hsb, if_pos (show q_e4 none = -4 from rfl), w_areFolded hI hM ha hb (by omega), q_bd, hf, if_neg (show ¬ q_b true = 0 from q_10)]
  · rcases h1 σ hC with h | ⟨h, h3⟩
    · rw [h, q_bd, if_pos rfl]
      refine ⟨_, _, _, rfl, ?_, τ, im, hR0⟩
      rw [h2 σ hN, q_bd, if_pos rfl]
    · rw [h, q_bd, if_neg q_10, h3, q_bd, if_pos rfl]
      refine ⟨_, _, _, rfl, ?_, τ, im, hR0⟩
      rw [h2 σ hN, q_bd, if_pos rfl]
theorem o_part (x : Int32) : q_Op (fun σ => f_X6_part x σ) (fun σ => f_X7_part x σ) := by
  intro σ hr
  obtain ⟨τ, im, hR⟩ := hr
  have hR0 := hR
  obtain ⟨hI, hC, hN, hM, -⟩ := hR
  dsimp only
  unfold f_X6_part f_X7_part
  rcases q_hand x (im := im) hI with ⟨a, a8, rfl, ha⟩ | ⟨h1, h2⟩
  · have e12 : σ 12 a = q_e1 (q_so τ a) := q_C_so hC a8
    rw [v_isH1 hI hC ha, q_bd, if_neg q_10, q_inT a8 (by omega), if_pos rfl, q_n (by omega), e12]
    cases hs : q_so τ a with
    | none =>
      rw [if_pos (show q_e1 none = -1 from rfl)]
      refine ⟨_, _, _, rfl, ?_, τ, im, hR0⟩
      rw [w_isH1 hI hN ha, q_bd, if_neg q_10, w_wedTo hI hM a8, q_bd, hs, if_pos (show q_e4 none = -4 from rfl)]
    | some c =>
      obtain ⟨-, hc, hsd, hca, c8⟩ := q_so_in hI a8 hs
      have hne : a ≠ c := fun e => hsd (by rw [e])
      have hI1 := q_I_part hI a8 hs
      have hd : f_X5_divorce 6 (nI a) (nI c) σ = some ((), k_mset (k_mset σ 12 a (-1)) 12 c (-1)) := by
        unfold f_X5_divorce
        simp only [q_inT a8 (by omega : 8 < 2 ^ 31), q_inT c8 (by omega : 8 < 2 ^ 31), if_true, q_n (show a < 2 ^ 31 by omega), q_n (show c < 2 ^ 31 by omega)]
      have hC1 : q_C 6 (q_u2 τ 5 a 0 c 0) (k_mset (k_mset σ 12 a (-1)) 12 c (-1)) := q_C_u2 hC (Or.inl rfl) a8 c8 hne (by rw [if_pos rfl]; decide) (by rw [if_pos rfl]; decide)
      have ev : ∀ k, k ≠ 12 → (k_mset (k_mset σ 12 a (-1)) 12 c (-1)) k = σ k := fun k hk => by rw [q_ms_ne _ _ hk, q_ms_ne _ _ hk]
      have hcm : ¬ nI c = -1 := by rw [q_m1 (by omega)]; exact id
      rw [show q_e1 (some c) = nI c from rfl, if_neg hcm, hd, q_bd]
      -- the left of the two
      have core : ∀ l r, l < 4 → 4 ≤ r → (l = a ∧ r = c ∨ l = c ∧ r = a) → q_Re (k_mset (k_mset (k_mset σ 12 a (-1)) 12 c (-1)) 68 (45 + l) 0) := by
        intro l r l4 r4 hlr
        have hM1 : q_M 0 (q_u2 τ 5 a 0 c 0) (k_mset (k_mset (k_mset σ 12 a (-1)) 12 c (-1)) 68 (45 + l) 0) := by
          have hq : q_M 0 (q_u2 τ 5 l 0 r 0) (k_mset σ 68 ((if 5 = 5 then 45 else 40) + l) 0) := q_M_u2 (v := 0) (w := 0) hI hM (Or.inl rfl) l4 r4 (by rw [if_pos rfl]; rfl)
          have he : q_u2 τ 5 l 0 r 0 = q_u2 τ 5 a 0 c 0 := by
            rcases hlr with ⟨rfl, rfl⟩ | ⟨rfl, rfl⟩
            · rfl
            · funext t' c'
              unfold q_u2 q_up
              by_cases h1 : t' = 5 ∧ c' = r
              · rw [if_pos h1]; by_cases h2 : t' = 5 ∧ c' = l
                · rw [if_pos h2]
                · rw [if_neg h2, if_pos h1]
              · rw [if_neg h1]; by_cases h2 : t' = 5 ∧ c' = l
                · rw [if_pos h2, if_pos h2]
                · rw [if_neg h2, if_neg h2, if_neg h1]
          rw [he] at hq
          refine q_M_of hI1 hq (fun i _ _ => ?_)
          rw [if_pos rfl, q_ms, q_ms_ne (a := 68) (k := 12) _ _ (by omega), q_ms_ne (a := 68) (k := 12) _ _ (by omega), q_ms]
        exact ⟨q_u2 τ 5 a 0 c 0, im, q_Re_t hR0 (q_u2_t (by omega)) (q_u2_t (by omega)) hI1 (q_C_sm hC1 (fun k k1 k2 => q_ms_ne _ _ (by omega))) hM1 (k_Sm_tr (k_Sm_tr (q_tn_set (by decide)) (q_tn_set (by decide))) (q_tn_set (by decide))) (fun i h3 h4 => by rw [q_ms, if_neg (by omega), q_ms_ne _ _ (by omega), q_ms_ne _ _ (by omega)])⟩
      have hc4 : ¬ nI c = -4 := by rw [q_m4 (by omega)]; exact id
      by_cases hlt : c ≤ a
      · refine ⟨_, _, k_mset (k_mset (k_mset σ 12 a (-1)) 12 c (-1)) 68 (45 + c) 0, rfl, ?_, core c a (by omega) (by omega) (Or.inr ⟨rfl, rfl⟩)⟩
        unfold j_X7_part_41
        rw [w_isH1 hI (q_N_sm hN (ev 67 (by decide))) ha, q_bd, if_neg q_10, w_wedTo hI (q_M_sm hM (ev 68 (by decide))) a8, q_bd, hs, show q_e4 (some c) = nI c from rfl, if_neg hc4, if_pos (nI_le hlt (by omega)), show (45 : Int32) = nI 45 from rfl, q_add, q_inT (show 45 + c < 250 by omega) (by omega), if_pos rfl, q_n (by omega)]
      · refine ⟨_, _, k_mset (k_mset (k_mset σ 12 a (-1)) 12 c (-1)) 68 (45 + a) 0, rfl, ?_, core a c (by omega) (by omega) (Or.inl ⟨rfl, rfl⟩)⟩
        unfold j_X7_part_41
        rw [w_isH1 hI (q_N_sm hN (ev 67 (by decide))) ha, q_bd, if_neg q_10, w_wedTo hI (q_M_sm hM (ev 68 (by decide))) a8, q_bd, hs, show q_e4 (some c) = nI c from rfl, if_neg hc4, if_neg (nI_ge (by omega) (by omega)), show (45 : Int32) = nI 45 from rfl, q_add, q_inT (show 45 + a < 250 by omega) (by omega), if_pos rfl, q_n (by omega)]
  · rw [h1 6 σ hC, q_bd, if_pos rfl]
    refine ⟨_, _, _, rfl, ?_, τ, im, hR0⟩
    rw [h2 σ hN, q_bd, if_pos rfl]
