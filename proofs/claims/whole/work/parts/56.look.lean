/-! PURE: look -/
theorem q_kmax {x y : Nat} (hx : x < 2 ^ 31) (hy : y < 2 ^ 31) : k_max (nI x) (nI y) = nI (max x y) := by
  unfold k_max
  simp (disch := omega) only [q_lt]
  split
  · rw [Nat.max_eq_right (by omega)]
  · rw [Nat.max_eq_left (by omega)]
/-- how many of a set are alike -/
def q_cn (F : Nat → Bool) (s : Nat → Nat) (v : Nat) : Nat → Nat := q_sm (fun p => if F p && decide (s p = v) then 1 else 0)
def q_wo (F : Nat → Bool) (s : Nat → Nat) : Nat → Nat
  | 0 => 0
  | n + 1 => if F n then max (q_wo F s n) (q_cn F s (s n) (n + 1)) else q_wo F s n
def q_wr (F : Nat → Bool) (s : Nat → Nat) : Nat → Nat
  | 0 => 0
  | n + 1 => max (q_wr F s n) (if F n then q_cn F s (s n) 8 else 0)
theorem q_cn_s (F : Nat → Bool) (s : Nat → Nat) (v n : Nat) : q_cn F s v (n + 1) = q_cn F s v n + if F n && decide (s n = v) then 1 else 0 := rfl
theorem q_cn_le (F : Nat → Bool) (s : Nat → Nat) (v n : Nat) : q_cn F s v n ≤ n := by
  have := q_sm_le (f := fun p => if F p && decide (s p = v) then 1 else 0) (k := 1) (n := n) (fun c _ => by split <;> omega)
  unfold q_cn; omega
theorem q_wo_p (F : Nat → Bool) (s : Nat → Nat) : ∀ n, (∀ v, q_cn F s v n ≤ q_wo F s n) ∧ (q_wo F s n = 0 ∨ ∃ p, p < n ∧ F p = true ∧ q_wo F s n = q_cn F s (s p) n)
  | 0 => ⟨fun v => Nat.le_refl _, Or.inl rfl⟩
  | n + 1 => by
    obtain ⟨h1, h2⟩ := q_wo_p F s n
    cases hF : F n
    · have e : ∀ v, q_cn F s v (n + 1) = q_cn F s v n := fun v => by rw [q_cn_s, hF]; rfl
      have ew : q_wo F s (n + 1) = q_wo F s n := by rw [q_wo, hF]; rfl
      refine ⟨fun v => by rw [e, ew]; exact h1 v, ?_⟩
      rw [ew]
      rcases h2 with h2 | ⟨p, p1, p2, p3⟩
      · exact Or.inl h2
      · exact Or.inr ⟨p, by omega, p2, by rw [e]; exact p3⟩
    · have ew : q_wo F s (n + 1) = max (q_wo F s n) (q_cn F s (s n) (n + 1)) := by rw [q_wo, hF]; rfl
      have e : ∀ v, v ≠ s n → q_cn F s v (n + 1) = q_cn F s v n := fun v hv => by rw [q_cn_s, hF]; simp [Ne.symm hv]
      rw [ew]
      refine ⟨fun v => ?_, Or.inr ?_⟩
      · by_cases hv : v = s n
        · subst hv; exact Nat.le_max_right _ _
        · rw [e v hv]; exact Nat.le_trans (h1 v) (Nat.le_max_left _ _)
      · by_cases hle : q_wo F s n ≤ q_cn F s (s n) (n + 1)
        · exact ⟨n, by omega, hF, Nat.max_eq_right hle⟩
        · rcases h2 with h2 | ⟨p, p1, p2, p3⟩
          · omega
          · refine ⟨p, by omega, p2, ?_⟩
            rw [Nat.max_eq_left (by omega)]
            by_cases hv : s p = s n
            · rw [hv] at p3
              have := q_cn_s F s (s n) n
              omega
            · rw [e _ hv]; exact p3
theorem q_wr_p (F : Nat → Bool) (s : Nat → Nat) : ∀ n, (∀ p, p < n → F p = true → q_cn F s (s p) 8 ≤ q_wr F s n) ∧ (q_wr F s n = 0 ∨ ∃ p, p < n ∧ F p = true ∧ q_wr F s n = q_cn F s (s p) 8)
  | 0 => ⟨fun p hp => absurd hp (by omega), Or.inl rfl⟩
  | n + 1 => by
    obtain ⟨h1, h2⟩ := q_wr_p F s n
    rw [q_wr]
    cases hF : F n
    · rw [if_neg (by decide), Nat.max_zero]
      refine ⟨fun p hp hp2 => h1 p (by
        by_cases h : p = n
        · subst h; rw [hF] at hp2; cases hp2
        · omega) hp2, ?_⟩
      rcases h2 with h2 | ⟨p, p1, p2⟩
      · exact Or.inl h2
      · exact Or.inr ⟨p, by omega, p2⟩
    · rw [if_pos rfl]
      refine ⟨fun p hp hp2 => ?_, ?_⟩
      · by_cases h : p = n
        · subst h; exact Nat.le_max_right _ _
        · exact Nat.le_trans (h1 p (by omega) hp2) (Nat.le_max_left _ _)
      · by_cases hle : q_wr F s n ≤ q_cn F s (s n) 8
        · exact Or.inr ⟨n, by omega, hF, Nat.max_eq_right hle⟩
        · rw [Nat.max_eq_left (by omega)]
          rcases h2 with h2 | ⟨p, p1, p2⟩
          · exact Or.inl h2
          · exact Or.inr ⟨p, by omega, p2⟩
theorem q_wo_wr (F : Nat → Bool) (s : Nat → Nat) : q_wo F s 8 = q_wr F s 8 := by
  obtain ⟨h1, h2⟩ := q_wo_p F s 8
  obtain ⟨g1, g2⟩ := q_wr_p F s 8
  apply Nat.le_antisymm
  · rcases h2 with h2 | ⟨p, p1, p2, p3⟩
    · omega
    · rw [p3]; exact g1 p p1 p2
  · rcases g2 with g2 | ⟨p, p1, p2, p3⟩
    · omega
    · rw [p3]; exact h1 _
theorem q_wo_le (F : Nat → Bool) (s : Nat → Nat) (n : Nat) : q_wo F s n ≤ n := by
  rcases (q_wo_p F s n).2 with h | ⟨p, p1, p2, p3⟩
  · omega
  · rw [p3]; exact q_cn_le _ _ _ _
theorem q_wr_le (F : Nat → Bool) (s : Nat → Nat) (n : Nat) : q_wr F s n ≤ 8 := by
  rcases (q_wr_p F s n).2 with h | ⟨p, p1, p2, p3⟩
  · omega
  · rw [p3]; exact q_cn_le _ _ _ _
section
variable {τ : k_TW} {a u t : Nat}
theorem v_law_l (hI : q_I τ) (ha : q_H τ a = true) (hu : u < 256) (hF : ∀ p, p < 8 → u.testBit p = true → q_H τ p = true) (ht : t < 3) : ∀ (r p f p0 : Nat) (σ : k_Mem), p + r = 8 → r < f → q_C 14 (q_up τ 4 a p0) σ → (∀ v, v < 10 → σ 4 v = nI (q_cn (fun q => u.testBit q) (fun q => q_sh (q_up τ 4 a q) a t) v p)) → ∃ σ1, l_X6_leftAtWorst_25 f (nI a) (nI t) (nI u) (nI (q_wo (fun q => u.testBit q) (fun q => q_sh (q_up τ 4 a q) a t) p)) (nI p) σ = some (nI (q_wo (fun q => u.testBit q) (fun q => q_sh (q_up τ 4 a q) a t) 8), σ1) ∧ k_Sm [4, 19] σ σ1 := by
  have a8 := q_H8 hI ha
  generalize hs : (fun q => q_sh (q_up τ 4 a q) a t) = s
  generalize hFF : (fun q => u.testBit q) = F
  have hF' : ∀ q, u.testBit q = F q := fun q => by rw [← hFF]
  have hs' : ∀ q, q_sh (q_up τ 4 a q) a t = s q := fun q => by rw [← hs]
  intro r
  induction r with
  | zero =>
    intro p f p0 σ h1 h2 h3 h4
    obtain ⟨f, rfl⟩ : ∃ g, f = g + 1 := ⟨f - 1, by omega⟩
    obtain rfl : p = 8 := by omega
    rw [l_X6_leftAtWorst_25, if_pos (by decide)]
    exact ⟨σ, rfl, sm_rf⟩
  | succ r ih =>
    intro p f p0 σ h1 h2 h3 h4
    obtain ⟨f, rfl⟩ : ∃ g, f = g + 1 := ⟨f - 1, by omega⟩
    rw [l_X6_leftAtWorst_25, show (8 : Int32) = nI 8 from rfl, if_neg (nI_ge (by omega) (by omega))]
    unfold j_X6_leftAtWorst_99
    simp only [q_bit0 (show u < 2 ^ 31 by omega) (show p < 32 by omega), hF']
    rw [show nI p + 1 = nI (p + 1) from nI_1 _]
    cases hp : F p
    · rw [if_pos rfl]
      have ew : q_wo F s (p + 1) = q_wo F s p := by rw [q_wo, hp]; rfl
      have := ih (p + 1) f p0 σ (by omega) (by omega) h3 (fun v hv => by rw [h4 v hv, q_cn_s, hp]; rfl)
      rwa [ew] at this
    · have hHp : q_H τ p = true := hF p (by omega) (by rw [hF']; exact hp)
      rw [if_neg (by decide), q_inT a8 (by omega), if_pos rfl, q_n (by omega)]
      have hC : q_C 14 (q_up τ 4 a p) (k_mset σ 19 a (nI p)) := by
        have := q_C_up (t := 4) (a := a) (v := p) h3 (by omega)
        rwa [q_up_up] at this
      have hv10 := q_shu hI ha hHp ht
      rw [v_shows (q_upI hI hHp) hC (q_upH ha) ht, q_bd, hs', v_isStrokes, q_bd]
      rw [hs'] at hv10
      rw [if_pos (q_rng_t (n := 9) (by omega) (by omega)), if_neg q_10, q_inT hv10 (by omega), if_pos rfl, if_pos rfl, if_pos rfl, q_n (by omega), q_ms_ne (a := 4) (k := 19) _ _ (by decide), h4 _ hv10, show nI (q_cn F s (s p) p) + 1 = nI (q_cn F s (s p) p + 1) from nI_1 _, q_ms, if_pos ⟨rfl, rfl⟩]
      have e1 : q_cn F s (s p) (p + 1) = q_cn F s (s p) p + 1 := by rw [q_cn_s, hp]; simp
      have l1 := q_cn_le F s (s p) p
      have l2 := q_wo_le F s p
      rw [q_kmax (by omega) (by omega), ← e1]
      have ew : q_wo F s (p + 1) = max (q_wo F s p) (q_cn F s (s p) (p + 1)) := by rw [q_wo, hp]; rfl
      rw [← ew]
      obtain ⟨σ1, f1, f2⟩ := ih (p + 1) f p (k_mset (k_mset σ 19 a (nI p)) 4 (s p) (nI (q_cn F s (s p) (p + 1)))) (by omega) (by omega) (q_C_sm hC (fun c _ _ => q_ms_ne _ _ (by omega))) (fun v hv => by
        rw [q_ms]
        by_cases h : v = s p
        · rw [if_pos ⟨rfl, h⟩, h]
        · rw [if_neg (fun g => h g.2), q_ms_ne _ _ (by decide), h4 v hv, q_cn_s, hp]
          simp [Ne.symm h])
      refine ⟨σ1, f1, fun c hc => ?_⟩
      rw [f2 c hc, q_ms_ne _ _ (fun e => hc (by rw [e]; decide)), q_ms_ne _ _ (fun e => hc (by rw [e]; decide))]
theorem v_law (hI : q_I τ) (ha : q_H τ a = true) (hu : u < 256) (hF : ∀ p, p < 8 → u.testBit p = true → q_H τ p = true) (ht : t < 3) {σ : k_Mem} (hC : q_C 6 τ σ) : ∃ σ1, f_X6_leftAtWorst (nI a) (nI t) (nI u) σ = some (nI (q_wo (fun q => u.testBit q) (fun q => q_sh (q_up τ 4 a q) a t) 8), σ1) ∧ ∀ c, c ≠ 4 → (c < 14 ∨ 21 < c) → σ1 c = σ c := by
  obtain ⟨σ1, e1, e2, e3⟩ := v_become (b0 := 14) (b1 := 6) hI (by omega) hC
  obtain ⟨σ2, f1, f2, f3⟩ := v_fill (o := 4) (n := 10) 0 σ1 (by omega)
  obtain ⟨σ3, g1, g2⟩ := v_law_l hI ha hu hF ht 8 0 1000 (τ 4 a) σ2 (by omega) (by omega) (by rw [q_up_id]; exact q_C_sm e2 (fun c _ _ => f3 c (by omega))) (fun v hv => by rw [f2 v hv]; rfl)
  unfold f_X6_leftAtWorst
  rw [e1, q_bd, f1, q_bd]
  refine ⟨σ3, g1, fun c h1 h2 => ?_⟩
  rw [g2 c (by simp; omega), f3 c h1, e3 c (by simp; omega)]
def q_lw (W : Nat → Nat) : Nat → Nat → Int32 × Int32 → Int32 × Int32
  | 0, _, s => s
  | n + 1, t, s => q_lw W n (t + 1) (if s.1 ≤ nI (W t) then s else (nI (W t), nI t))
theorem v_look_l (hI : q_I τ) (ha : q_H τ a = true) (hu : u < 256) (hF : ∀ p, p < 8 → u.testBit p = true → q_H τ p = true) {x2 : Int32} : ∀ (r t f : Nat) (s : Int32 × Int32) (σ : k_Mem), t + r = 3 → r < f → q_C 6 τ σ → ∃ σ1, l_X6_look_41 f (nI a) x2 (nI u) s.1 s.2 (nI t) σ = some (let q := q_lw (fun t => q_wo (fun q => u.testBit q) (fun q => q_sh (q_up τ 4 a q) a t) 8) r t s; if x2 = 0 then q.2 else if q.2 = -4 then q.2 else q.1, σ1) ∧ ∀ c, c ≠ 4 → (c < 14 ∨ 21 < c) → σ1 c = σ c := by
  intro r
  induction r with
  | zero =>
    intro t f s σ h1 h2 h3
    obtain ⟨f, rfl⟩ : ∃ g, f = g + 1 := ⟨f - 1, by omega⟩
    obtain rfl : t = 3 := by omega
    rw [l_X6_look_41, if_pos (by decide)]
    refine ⟨σ, ?_, fun _ _ _ => rfl⟩
    dsimp only [q_lw]
    split
    · rfl
    · split <;> rfl
  | succ r ih =>
    intro t f s σ h1 h2 h3
    obtain ⟨f, rfl⟩ : ∃ g, f = g + 1 := ⟨f - 1, by omega⟩
    obtain ⟨σ1, e1, e2⟩ := v_law hI ha hu hF (show t < 3 by omega) h3
    rw [l_X6_look_41, show (3 : Int32) = nI 3 from rfl, if_neg (nI_ge (by omega) (by omega)), e1, q_bd]
    unfold j_X6_look_72
    rw [show nI t + 1 = nI (t + 1) from nI_1 _]
    obtain ⟨σ2, f1, f2⟩ := ih (t + 1) f (if s.1 ≤ nI (q_wo (fun q => u.testBit q) (fun q => q_sh (q_up τ 4 a q) a t) 8) then s else (nI (q_wo (fun q => u.testBit q) (fun q => q_sh (q_up τ 4 a q) a t) 8), nI t)) σ1 (by omega) (by omega) (q_C_sm h3 (fun c _ _ => e2 c (by omega) (by omega)))
    refine ⟨σ2, ?_, fun c h1 h2 => by rw [f2 c h1 h2, e2 c h1 h2]⟩
    rw [q_lw]
    by_cases hle : s.1 ≤ nI (q_wo (fun q => u.testBit q) (fun q => q_sh (q_up τ 4 a q) a t) 8)
    · rw [if_pos hle] at f1 ⊢; rw [if_pos hle]; exact f1
    · rw [if_neg hle] at f1 ⊢; rw [if_neg hle]; exact f1
/-- the reference -/
theorem w_lk64 (hu : u < 256) {s : Nat → Nat} {σ : k_Mem} (h78 : ∀ q, q < 8 → u.testBit q = true → s q < 10 ∧ σ 78 (3 * q + t) = nI (s q)) (ht : t < 3) {k39 : Int32 → Int32 → Int32 → Int32 → Int32 → k_Mem → Option (Int32 × k_Mem)} {k51 : Int32 → Int32 → Int32 → Int32 → Int32 → Int32 → Int32 → k_Mem → Option (Int32 × k_Mem)} {x2 x4 x5 x7 : Int32} {b : Nat} (hb : b < 8) : ∀ (r c f : Nat), c + r = 8 → r < f → l_X7_look_64 k39 k51 f x2 (nI u) x4 x5 (nI t) x7 (nI b) (nI (if u.testBit b then q_cn (fun q => u.testBit q) s (s b) c else 0)) (nI c) σ = j_X7_look_134 k39 k51 x2 (nI u) x4 x5 (nI t) x7 (nI b) (nI (if u.testBit b then q_cn (fun q => u.testBit q) s (s b) 8 else 0)) σ := by
  generalize hFF : (fun q => u.testBit q) = F
  have hF' : ∀ q, u.testBit q = F q := fun q => by rw [← hFF]
  intro r
  induction r with
  | zero =>
    intro c f h1 h2
    obtain ⟨f, rfl⟩ : ∃ g, f = g + 1 := ⟨f - 1, by omega⟩
    obtain rfl : c = 8 := by omega
    rw [l_X7_look_64, if_pos (by decide)]
  | succ r ih =>
    intro c f h1 h2
    obtain ⟨f, rfl⟩ : ∃ g, f = g + 1 := ⟨f - 1, by omega⟩
    have nx := ih (c + 1) f (by omega) (by omega)
    rw [l_X7_look_64, show (8 : Int32) = nI 8 from rfl, if_neg (nI_ge (by omega) (by omega))]
    unfold j_X7_look_124 j_X7_look_125
    simp only [q_bit1 (show u < 2 ^ 31 by omega) (show b < 32 by omega), q_bit1 (show u < 2 ^ 31 by omega) (show c < 32 by omega)]
    simp only [hF'] at nx ⊢ h78
    cases hFb : F b
    · rw [if_neg (by decide), if_neg (by decide), if_neg (by decide)]
    · obtain ⟨b1, b2⟩ := h78 b hb hFb
      rw [hFb] at nx
      rw [if_pos rfl] at nx ⊢
      rw [if_pos rfl] at nx ⊢
      rw [if_pos rfl, show nI c + 1 = nI (c + 1) from nI_1 _, Int32.add_zero, show (3 : Int32) = nI 3 from rfl, q_mul, q_mul, q_add, q_add, q_inT (show 3 * b + t < 24 by omega) (by omega), q_inT (show 3 * c + t < 24 by omega) (by omega), if_pos rfl, if_pos rfl, q_n (by omega), q_n (by omega), b2]
      rw [q_cn_s] at nx
      cases hFc : F c
      · rw [hFc] at nx
        rw [if_neg (by decide)]
        exact nx
      · obtain ⟨c1, c2⟩ := h78 c (by omega) hFc
        rw [hFc] at nx
        rw [if_pos rfl, c2]
        by_cases he : s c = s b
        · rw [if_pos (by rw [he]), show nI (q_cn F s (s b) c) + 1 = nI (q_cn F s (s b) c + 1) from nI_1 _]
          simp only [he, Bool.true_and, decide_true, if_pos] at nx
          exact nx
        · rw [if_neg (by rw [q_eq (by omega) (by omega)]; exact fun h => he h.symm)]
          simp only [he, Bool.true_and, decide_false] at nx
          exact nx
theorem w_lk51 (hu : u < 256) {s : Nat → Nat} {σ : k_Mem} (h78 : ∀ q, q < 8 → u.testBit q = true → s q < 10 ∧ σ 78 (3 * q + t) = nI (s q)) (ht : t < 3) {k39 : Int32 → Int32 → Int32 → Int32 → Int32 → k_Mem → Option (Int32 × k_Mem)} {x2 x4 x5 : Int32} : ∀ (r b f : Nat), b + r = 8 → r < f → l_X7_look_51 k39 f x2 (nI u) x4 x5 (nI t) (nI (q_wr (fun q => u.testBit q) s b)) (nI b) σ = (if x4 ≤ nI (q_wr (fun q => u.testBit q) s 8) then k39 x2 (nI u) x4 x5 (nI (t + 1)) σ else k39 x2 (nI u) (nI (q_wr (fun q => u.testBit q) s 8)) (nI t) (nI (t + 1)) σ) := by
  intro r
  induction r with
  | zero =>
    intro b f h1 h2
    obtain ⟨f, rfl⟩ : ∃ g, f = g + 1 := ⟨f - 1, by omega⟩
    obtain rfl : b = 8 := by omega
    rw [l_X7_look_51, if_pos (by decide)]
    unfold j_X7_look_170 j_X7_look_186
    rw [show nI t + 1 = nI (t + 1) from nI_1 _]
    split <;> rfl
  | succ r ih =>
    intro b f h1 h2
    obtain ⟨f, rfl⟩ : ∃ g, f = g + 1 := ⟨f - 1, by omega⟩
    have nx := ih (b + 1) f (by omega) (by omega)
    rw [l_X7_look_51, show (8 : Int32) = nI 8 from rfl, if_neg (nI_ge (by omega) (by omega))]
    have k := w_lk64 hu h78 ht (k39 := k39) (k51 := fun x2 x3 x4 x5 x6 x7 x8 σ => l_X7_look_51 k39 f x2 x3 x4 x5 x6 x7 x8 σ) (x2 := x2) (x4 := x4) (x5 := x5) (x7 := nI (q_wr (fun q => u.testBit q) s b)) (show b < 8 by omega) 8 0 1000 (by omega) (by omega)
    rw [show nI (if u.testBit b = true then q_cn (fun q => u.testBit q) s (s b) 0 else 0) = 0 by split <;> rfl, show nI 0 = 0 from rfl] at k
    rw [k]
    unfold j_X7_look_134 j_X7_look_148
    have l1 := q_wr_le (fun q => u.testBit q) s b
    have l2 : (if u.testBit b = true then q_cn (fun q => u.testBit q) s (s b) 8 else 0) ≤ 8 := by
      split
      · exact q_cn_le _ _ _ _
      · omega
    have ew : q_wr (fun q => u.testBit q) s (b + 1) = max (q_wr (fun q => u.testBit q) s b) (if u.testBit b then q_cn (fun q => u.testBit q) s (s b) 8 else 0) := rfl
    rw [ew] at nx
    rw [show nI b + 1 = nI (b + 1) from nI_1 _]
    generalize (if u.testBit b = true then q_cn (fun q => u.testBit q) s (s b) 8 else 0) = w at l2 nx ⊢
    generalize q_wr (fun q => u.testBit q) s b = v at l1 nx ⊢
    by_cases h : w ≤ v
    · rw [if_pos (nI_le h (by omega))]
      rw [Nat.max_eq_left h] at nx; exact nx
    · rw [if_neg (nI_ge (by omega) (by omega))]
      rw [Nat.max_eq_right (by omega)] at nx; exact nx
theorem w_look_l (hu : u < 256) {s : Nat → Nat → Nat} {σ : k_Mem} (h78 : ∀ t q, t < 3 → q < 8 → u.testBit q = true → s t q < 10 ∧ σ 78 (3 * q + t) = nI (s t q)) {x2 : Int32} : ∀ (r t f : Nat) (z : Int32 × Int32), t + r = 3 → r < f → l_X7_look_39 f x2 (nI u) z.1 z.2 (nI t) σ = some (let q := q_lw (fun t => q_wr (fun q => u.testBit q) (s t) 8) r t z; if x2 = 0 then q.2 else if q.2 = -4 then q.2 else q.1, σ) := by
  intro r
  induction r with
  | zero =>
    intro t f z h1 h2
    obtain ⟨f, rfl⟩ : ∃ g, f = g + 1 := ⟨f - 1, by omega⟩
    obtain rfl : t = 3 := by omega
    rw [l_X7_look_39, if_pos (by decide)]
    dsimp only [q_lw]
    by_cases h4 : z.2 = -4
    · rw [if_pos h4, if_pos h4]; split <;> rfl
    · rw [if_neg h4, if_neg h4]; split <;> rfl
  | succ r ih =>
    intro t f z h1 h2
    obtain ⟨f, rfl⟩ : ∃ g, f = g + 1 := ⟨f - 1, by omega⟩
    rw [l_X7_look_39, show (3 : Int32) = nI 3 from rfl, if_neg (nI_ge (by omega) (by omega))]
    have k := w_lk51 hu (h78 t · (by omega)) (by omega) (k39 := fun x2 x3 x4 x5 x6 σ => l_X7_look_39 f x2 x3 x4 x5 x6 σ) (x2 := x2) (x4 := z.1) (x5 := z.2) 8 0 1000 (by omega) (by omega)
    rw [show nI (q_wr (fun q => u.testBit q) (s t) 0) = 0 from rfl, show nI 0 = 0 from rfl] at k
    rw [k, q_lw]
    have nx := ih (t + 1) f (if z.1 ≤ nI (q_wr (fun q => u.testBit q) (s t) 8) then z else (nI (q_wr (fun q => u.testBit q) (s t) 8), nI t)) (by omega) (by omega)
    by_cases hle : z.1 ≤ nI (q_wr (fun q => u.testBit q) (s t) 8)
    · rw [if_pos hle] at nx ⊢; rw [if_pos hle]; exact nx
    · rw [if_neg hle] at nx ⊢; rw [if_neg hle]; exact nx
end
theorem o_look (x y : Int32) : q_Op (fun σ => f_X6_look x y σ) (fun σ => f_X7_look x y σ) := by
  intro σ hr
  obtain ⟨τ, im, hR⟩ := hr
  have hR0 := hR
  obtain ⟨hI, hC, hN, hM, him, htp, hsn, hss, hot⟩ := hR
  dsimp only
  unfold f_X6_look f_X7_look
  rcases q_hand x (im := im) hI with ⟨a, a8, rfl, ha⟩ | ⟨h1, h2⟩
  · rw [v_isH1 hI hC ha, q_bd, if_neg q_10, q_gd]
    by_cases hy : 0 ≤ y ∧ y ≤ nI 1
    · obtain ⟨m, sa, st, sv, hm, hs, s1, s2, s3⟩ := q_sn_f hI hsn
      obtain ⟨σ1, e1, e2⟩ := v_fitting hI ha hm hs hC s1
      have hR1 : q_R τ im σ1 := q_R_sc hR0 (fun c hc => e2 c (q_sc14 hc))
      generalize hu' : q_bb (q_ft τ a m sa st sv) 8 = u at e1
      have hu : u < 256 := by rw [← hu']; exact q_bb_l8 _ (by omega)
      have hF : ∀ p, p < 8 → u.testBit p = true → q_H τ p = true := fun p hp h => by
        rw [← hu', q_bb_tb] at h
        simp [q_ft] at h
        exact h.2.1
      rw [if_pos (show 0 ≤ y ∧ y ≤ 1 from hy), e1, q_bd, v_bitCount hu, q_bd]
      obtain ⟨σ3, f1, f2⟩ := v_look_l hI ha hu hF (x2 := y) 3 0 1000 (nI (q_pc u 8), -4) σ1 (by omega) (by omega) hR1.2.1
      rw [show nI 0 = 0 from rfl] at f1
      have hR3 : q_R τ im σ3 := q_R_sc hR1 (fun c hc => f2 c (fun e => hc (by rw [e]; decide)) (q_sc14 hc))
      obtain ⟨σ2, g1, g2, g3, g4⟩ := w_fitting hI ha hm hs (σ := σ3) hR3.2.2.1 hR3.2.2.2.1 (by unfold q_sM; rw [f2 67 (by omega) (by omega), e2 67 (by omega), f2 77 (by omega) (by omega), e2 77 (by omega)]; exact s3)
      rw [hu'] at g1
      have k := w_look_l hu (σ := σ2) (s := fun t q => q_sh (q_up τ 4 a q) a t) (fun t q ht hq hb => ⟨q_shu hI ha (hF q hq hb) ht, g4 q hq (hF q hq hb) t ht⟩) (x2 := y) 3 0 1000 (nI (q_pc u 8), -4) (by omega) (by omega)
      rw [show nI 0 = 0 from rfl] at k
      refine ⟨_, σ3, σ2, f1, ?_, τ, im, q_R_78 hR3 g2 g3⟩
      rw [w_isH1 hI hR3.2.2.1 ha, q_bd, if_neg q_10, w_in y 1 (by omega) 1 (by decide), q_bd, if_pos hy, if_neg q_10, g1, q_bd, w_bitsOf hu, q_bd, k]
      simp only [q_wo_wr]
    · rw [if_neg (show ¬ (0 ≤ y ∧ y ≤ 1) from hy)]
      refine ⟨_, _, _, rfl, ?_, τ, im, hR0⟩
      rw [w_isH1 hI hN ha, q_bd, if_neg q_10, w_in y 1 (by omega) 1 (by decide), q_bd, if_neg hy, if_pos rfl]
  · rw [h1 6 σ hC, q_bd, if_pos rfl]
    refine ⟨_, _, _, rfl, ?_, τ, im, hR0⟩
    rw [h2 σ hN, q_bd, if_pos rfl]
