/-! PURE: years -/
def q_na (v w : Nat) : Nat := if v < w then v + 1 else if w + 2 ≤ v then v - 1 else v
def q_nr (τ : k_TW) (t a b : Nat) : k_TW := q_u2 τ t a (q_na (τ t a) (τ t b)) b (q_na (τ t b) (τ t a))
def q_y1 (τ : k_TW) (a : Nat) : k_TW := if τ 5 a = 0 then τ else q_nr (q_nr τ 1 a (τ 5 a - 1)) 2 a (τ 5 a - 1)
def q_yn (τ : k_TW) : Nat → k_TW
  | 0 => τ
  | a + 1 => q_y1 (q_yn τ a) a
def q_ul (τ : k_TW) (a b : Nat) : Nat := q_ab (τ 1 a) (τ 1 b) + q_ab (τ 2 a) (τ 2 b)
/-- the class's strokes and spouses -/
def q_Cy (b : Nat) (τ : k_TW) (σ : k_Mem) : Prop := (∀ t a, t < 2 → q_H τ a = true → σ (b + 2 + t) a = nI (τ (t + 1) a)) ∧ ∀ a, a < 8 → σ (b + 6) a = q_e1 (q_so τ a)
def q_My (τ : k_TW) (σ : k_Mem) : Prop := (∀ t a, t < 2 → q_H τ a = true → σ 68 (8 * (t + 1) + a) = nI (τ (t + 1) a)) ∧ ∀ a, a < 4 → σ 68 (45 + a) = nI (τ 5 a - 1)
theorem q_na9 {v w : Nat} (hv : v ≤ 9) (hw : w ≤ 9) : q_na v w ≤ 9 := by
  unfold q_na
  split
  · omega
  · split <;> omega
theorem q_I_u1 {τ : k_TW} (hI : q_I τ) {t a v b w : Nat} (ht : t = 1 ∨ t = 2) (hv : v ≤ 9) (hw : w ≤ 9) : q_I (q_u2 τ t a v b w) := by
  unfold q_u2
  exact q_I_up (q_I_up hI (by omega) ⟨by omega, by omega, by omega, by omega, by omega⟩) (by omega) ⟨by omega, by omega, by omega, by omega, by omega⟩
theorem q_nr_t {τ : k_TW} {t a b t' c : Nat} (h : t' ≠ t) : q_nr τ t a b t' c = τ t' c := q_u2_t h
theorem q_I_nr {τ : k_TW} (hI : q_I τ) {t a b : Nat} (ht : t = 1 ∨ t = 2) (ha : q_H τ a = true) (hb : q_H τ b = true) : q_I (q_nr τ t a b) := by
  obtain ⟨-, a1, a2, -⟩ := hI.2.2.2.2.2.1 a ha
  obtain ⟨-, b1, b2, -⟩ := hI.2.2.2.2.2.1 b hb
  rcases ht with rfl | rfl
  · exact q_I_u1 hI (Or.inl rfl) (q_na9 a1 b1) (q_na9 b1 a1)
  · exact q_I_u1 hI (Or.inr rfl) (q_na9 a2 b2) (q_na9 b2 a2)
theorem q_H_nr {τ : k_TW} {t a b : Nat} (ht : t = 1 ∨ t = 2) (c : Nat) : q_H (q_nr τ t a b) c = q_H τ c := q_H_u2 (by omega) c
theorem q_y1_t {τ : k_TW} {a t c : Nat} (h1 : t ≠ 1) (h2 : t ≠ 2) : q_y1 τ a t c = τ t c := by
  unfold q_y1
  split
  · rfl
  · rw [q_nr_t h2, q_nr_t h1]
theorem q_yn_t {τ : k_TW} {t c : Nat} (h1 : t ≠ 1) (h2 : t ≠ 2) : ∀ n, q_yn τ n t c = τ t c
  | 0 => rfl
  | n + 1 => by rw [q_yn, q_y1_t h1 h2, q_yn_t h1 h2 n]
theorem q_H_yn {τ : k_TW} (n c : Nat) : q_H (q_yn τ n) c = q_H τ c := q_H_eq (q_yn_t (by omega) (by omega) n) (q_yn_t (by omega) (by omega) n) c
theorem q_so_yn {τ : k_TW} (n c : Nat) : q_so (q_yn τ n) c = q_so τ c := by unfold q_so; rw [q_yn_t (by omega) (by omega) n]
theorem q_I_y1 {τ : k_TW} (hI : q_I τ) {a : Nat} (ha : a < 8) : q_I (q_y1 τ a) := by
  unfold q_y1
  by_cases h : τ 5 a = 0
  · rw [if_pos h]; exact hI
  · rw [if_neg h]
    obtain ⟨h1, h2, -⟩ := (hI.2.2.2.2.2.2.1 a ha).2 h
    exact q_I_nr (q_I_nr hI (Or.inl rfl) h1 h2) (Or.inr rfl) (by rw [q_H_nr (Or.inl rfl)]; exact h1) (by rw [q_H_nr (Or.inl rfl)]; exact h2)
theorem q_I_yn {τ : k_TW} (hI : q_I τ) : ∀ n, n ≤ 4 → q_I (q_yn τ n)
  | 0, _ => hI
  | n + 1, h => q_I_y1 (q_I_yn hI n (by omega)) (by omega)
/-- one row comes nearer, as the class does it -/
theorem v_nearer {o a b v w : Nat} {σ : k_Mem} (ha : a < 8) (hb : b < 8) (hne : a ≠ b) (hv : v ≤ 9) (hw : w ≤ 9) (e1 : σ o a = nI v) (e2 : σ o b = nI w) : ∃ σ1, f_X5_comeNearer o 8 (nI a) (nI b) σ = some ((), σ1) ∧ (∀ c, σ1 o c = if c = b then nI (q_na w v) else if c = a then nI (q_na v w) else σ o c) ∧ ∀ k, k ≠ o → σ1 k = σ k := by
  have core : ∀ l g x y, l < 8 → g < 8 → l ≠ g → σ o l = nI x → σ o g = nI y → x ≤ y → y ≤ 9 → ∃ σ1, j_X5_comeNearer_25 o 8 (nI l) (nI g) σ = some ((), σ1) ∧ (∀ c, σ1 o c = if c = g then nI (q_na y x) else if c = l then nI (q_na x y) else σ o c) ∧ ∀ k, k ≠ o → σ1 k = σ k := by
    intro l g x y hl hg hlg el eg hxy hy9
    unfold j_X5_comeNearer_25
    simp only [q_inT hl (by omega : 8 < 2 ^ 31), q_inT hg (by omega : 8 < 2 ^ 31), if_true, q_n (show l < 2 ^ 31 by omega), q_n (show g < 2 ^ 31 by omega), el, eg, show nI x + 1 = nI (x + 1) from nI_1 x]
    rw [q_sub hxy, show (2 : Int32) = nI 2 from rfl, show (1 : Int32) = nI 1 from rfl]
    simp (disch := omega) only [q_lt, q_eq]
    by_cases h2 : y - x < 2
    · rw [if_pos h2]
      by_cases h1 : y - x = 1
      · rw [if_pos h1]
        refine ⟨_, rfl, fun c => ?_, fun k hk => q_ms_ne _ _ hk⟩
        rw [q_ms]
        by_cases cg : c = g
        · rw [if_neg (fun h => hlg (by rw [← cg]; exact h.2.symm)), if_pos cg, cg, eg]
          have : q_na y x = y := by unfold q_na; rw [if_neg (by omega), if_neg (by omega)]
          rw [this]
        · rw [if_neg cg]
          by_cases cl : c = l
          · rw [if_pos ⟨rfl, cl⟩, if_pos cl]
            have : q_na x y = x + 1 := by unfold q_na; rw [if_pos (by omega)]
            rw [this]
          · rw [if_neg (fun h => cl h.2), if_neg cl]
      · rw [if_neg h1]
        have hxy2 : x = y := by omega
        subst hxy2
        refine ⟨σ, rfl, fun c => ?_, fun k hk => rfl⟩
        have : q_na x x = x := by unfold q_na; rw [if_neg (by omega), if_neg (by omega)]
        rw [this]
        by_cases cg : c = g
        · rw [if_pos cg, cg]; exact eg
        · rw [if_neg cg]
          by_cases cl : c = l
          · rw [if_pos cl, cl]; exact el
          · rw [if_neg cl]
    · rw [if_neg h2]
      refine ⟨_, rfl, fun c => ?_, fun k hk => by rw [q_ms_ne _ _ hk, q_ms_ne _ _ hk]⟩
      have n1 : q_na y x = y - 1 := by unfold q_na; rw [if_neg (by omega), if_pos (by omega)]
      have n2 : q_na x y = x + 1 := by unfold q_na; rw [if_pos (by omega)]
      rw [n1, n2, q_ms, q_ms]
      by_cases cg : c = g
      · rw [if_pos ⟨rfl, cg⟩, if_pos cg, if_neg (fun h => hlg h.2.symm), eg, q_sub (by omega)]
      · rw [if_neg (fun h => cg h.2), if_neg cg, q_ms]
        by_cases cl : c = l
        · rw [if_pos ⟨rfl, cl⟩, if_pos cl]
        · rw [if_neg (fun h => cl h.2), if_neg cl]
  unfold f_X5_comeNearer
  simp only [q_inT ha (by omega : 8 < 2 ^ 31), q_inT hb (by omega : 8 < 2 ^ 31), if_true, q_n (show a < 2 ^ 31 by omega), q_n (show b < 2 ^ 31 by omega), e1, e2, j_X5_comeNearer_14]
  simp (disch := omega) only [q_le, q_eq]
  by_cases h : w ≤ v
  · rw [if_pos h, if_neg (Ne.symm hne)]
    obtain ⟨σ1, f1, f2, f3⟩ := core b a w v hb ha (Ne.symm hne) e2 e1 h hv
    refine ⟨σ1, f1, fun c => ?_, f3⟩
    rw [f2 c]
    by_cases ca : c = a
    · rw [if_pos ca, if_neg (by omega), if_pos ca]
    · rw [if_neg ca]
      by_cases cb : c = b
      · rw [if_pos cb, if_pos cb]
      · rw [if_neg cb, if_neg cb, if_neg ca]
  · rw [if_neg h]
    exact core a b v w ha hb hne e1 e2 (by omega) hw
theorem q_negS (u v : Nat) (h : v ≤ u) : nI u + -nI v = nI (u - v) := by
  rw [← q_sub h, Int32.sub_eq_add_neg]
/-- one row comes nearer, as the reference does it -/
theorem w_nearer {o a b v w : Nat} {σ : k_Mem} (ho : o ≤ 16) (ha : a < 8) (hb : b < 8) (hne : a ≠ b) (hv : v ≤ 9) (hw : w ≤ 9) (e1 : σ 68 (o + a) = nI v) (e2 : σ 68 (o + b) = nI w) : ∃ σ1, f_X7_nears (nI o) (nI a) (nI b) σ = some ((), σ1) ∧ (∀ c, σ1 68 c = if c = o + b then nI (q_na w v) else if c = o + a then nI (q_na v w) else σ 68 c) ∧ ∀ k, k ≠ 68 → σ1 k = σ k := by
  have fin : ∀ (p q : Int32), nI v + p = nI (q_na v w) → nI w + q = nI (q_na w v) → ∃ σ1, j_X7_nears_114 (nI (o + b)) ((k_mset σ 68 (o + a) (nI v + p)) 68 (o + b)) q (k_mset σ 68 (o + a) (nI v + p)) = some ((), σ1) ∧ (∀ c, σ1 68 c = if c = o + b then nI (q_na w v) else if c = o + a then nI (q_na v w) else σ 68 c) ∧ ∀ k, k ≠ 68 → σ1 k = σ k := by
    intro p q hp hq
    unfold j_X7_nears_114
    rw [q_inT (show o + b < 250 by omega) (by omega), if_pos rfl, q_n (by omega), q_ms, if_neg (by omega), e2, hp, hq]
    refine ⟨_, rfl, fun c => ?_, fun k hk => by rw [q_ms_ne _ _ hk, q_ms_ne _ _ hk]⟩
    rw [q_ms, q_ms]
    by_cases c1 : c = o + b
    · rw [if_pos ⟨rfl, c1⟩, if_pos c1]
    · rw [if_neg (fun h => c1 h.2), if_neg c1]
      by_cases c2 : c = o + a
      · rw [if_pos ⟨rfl, c2⟩, if_pos c2]
      · rw [if_neg (fun h => c2 h.2), if_neg c2]
  unfold f_X7_nears
  simp only [q_add, q_inT (show o + a < 250 by omega) (by omega : 250 < 2 ^ 31), q_inT (show o + b < 250 by omega) (by omega : 250 < 2 ^ 31), if_true, q_n (show o + a < 2 ^ 31 by omega), q_n (show o + b < 2 ^ 31 by omega), e1, e2]
  rw [w_far (by omega) (by omega), q_bd]
  simp only [j_X7_nears_41, j_X7_nears_53, j_X7_nears_66, j_X7_nears_90, q_add, q_inT (show o + a < 250 by omega) (by omega : 250 < 2 ^ 31), q_inT (show o + b < 250 by omega) (by omega : 250 < 2 ^ 31), if_true, q_n (show o + a < 2 ^ 31 by omega), q_n (show o + b < 2 ^ 31 by omega), e1, if_neg q_10]
  have b9 := q_ab9 hv hw
  have le1 : (nI (q_ab v w) ≤ 1) = (q_ab v w ≤ 1) := q_le (b := 1) (by omega) (by omega)
  have le0 : (nI (q_ab v w) ≤ 0) = (q_ab v w ≤ 0) := q_le (b := 0) (by omega) (by omega)
  simp only [le1, le0]
  simp (disch := omega) only [q_le]
  have n0 : ∀ x : Int32, x + (-0) = x := fun x => by rw [show (-0 : Int32) = 0 by decide, Int32.add_zero]
  have nz : ∀ x : Int32, x + 0 = x := fun x => Int32.add_zero x
  have hab : q_ab v w = (v - w) + (w - v) := rfl
  by_cases h : w ≤ v
  · rw [if_pos h]
    by_cases h1 : q_ab v w ≤ 1
    · by_cases h0 : q_ab v w ≤ 0
      · simp only [if_pos h0, if_pos h1]
        refine fin (-0) 0 ?_ ?_
        · rw [n0]; unfold q_na; rw [if_neg (by omega), if_neg (by omega)]
        · rw [nz]; unfold q_na; rw [if_neg (by omega), if_neg (by omega)]
      · simp only [if_neg h0, if_pos h1]
        refine fin (-0) 1 ?_ ?_
        · rw [n0]; unfold q_na; rw [if_neg (by omega), if_neg (by omega)]
        · rw [show nI w + 1 = nI (w + 1) from nI_1 w]; unfold q_na; rw [if_pos (by omega)]
    · have h0 : ¬ q_ab v w ≤ 0 := by omega
      simp only [if_neg h0, if_neg h1]
      refine fin (-1) 1 ?_ ?_
      · rw [show (-1 : Int32) = -nI 1 from rfl, q_negS v 1 (by omega)]; unfold q_na; rw [if_neg (by omega), if_pos (by omega)]
      · rw [show nI w + 1 = nI (w + 1) from nI_1 w]; unfold q_na; rw [if_pos (by omega)]
  · rw [if_neg h]
    have h0 : ¬ q_ab v w ≤ 0 := by omega
    by_cases h1 : q_ab v w ≤ 1
    · simp only [if_neg h0, if_pos h1]
      refine fin 1 (-0) ?_ ?_
      · rw [show nI v + 1 = nI (v + 1) from nI_1 v]; unfold q_na; rw [if_pos (by omega)]
      · rw [n0]; unfold q_na; rw [if_neg (by omega), if_neg (by omega)]
    · simp only [if_neg h0, if_neg h1]
      refine fin 1 (-1) ?_ ?_
      · rw [show nI v + 1 = nI (v + 1) from nI_1 v]; unfold q_na; rw [if_pos (by omega)]
      · rw [show (-1 : Int32) = -nI 1 from rfl, q_negS w 1 (by omega)]; unfold q_na; rw [if_neg (by omega), if_pos (by omega)]
