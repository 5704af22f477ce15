/-! PURE: whom one would rather have; quarrels -/
def q_rt (τ : k_TW) (a b : Nat) (o : Option Nat) : Bool := q_can τ a b && match o with
  | none => true
  | some d => !q_can τ a d || decide (q_w (q_lk τ) a d < q_w (q_lk τ) a b)
def q_lv (τ : k_TW) (a : Nat) (o : Option Nat) : Int32 := match o with
  | none => -1
  | some d => q_wi τ a d
/-- the first from k on -/
def q_fi (p : Nat → Bool) : Nat → Nat → Option Nat
  | _, 0 => none
  | k, n + 1 => if p k then some k else q_fi p (k + 1) n
theorem q_fi_in {p : Nat → Bool} {j : Nat} : ∀ {n k : Nat}, q_fi p k n = some j → k ≤ j ∧ j < k + n ∧ p j = true
  | 0, k, h => by cases h
  | n + 1, k, h => by
    rw [q_fi] at h
    cases hp : p k
    · rw [hp, if_neg (by decide)] at h
      obtain ⟨h1, h2, h3⟩ := q_fi_in h
      exact ⟨by omega, by omega, h3⟩
    · rw [hp, if_pos rfl] at h
      cases h
      exact ⟨Nat.le_refl _, by omega, hp⟩
theorem q_fi_1 {p : Nat → Bool} {k n : Nat} (h : p k = true) : q_fi p k (n + 1) = some k := by rw [q_fi, h]; rfl
theorem q_fi_0 {p : Nat → Bool} {k n : Nat} (h : p k = false) : q_fi p k (n + 1) = q_fi p (k + 1) n := by rw [q_fi, h]; rfl
theorem q_fi_sm {p : Nat → Bool} : ∀ {n k : Nat}, (q_fi p k n = none) = (q_sm (fun i => if p (k + i) then 1 else 0) n = 0)
  | 0, k => by simp [q_fi, q_sm]
  | n + 1, k => by
    have hs : ∀ n, q_sm (fun i => if p (k + i) then 1 else 0) (n + 1) = (if p k then 1 else 0) + q_sm (fun i => if p (k + 1 + i) then 1 else 0) n := by
      intro n
      induction n with
      | zero => simp [q_sm]
      | succ n ih => rw [q_sm, ih, q_sm, show k + (n + 1) = k + 1 + n by omega]; omega
    rw [hs]
    cases hp : p k
    · rw [q_fi_0 hp, q_fi_sm]; simp
    · rw [q_fi_1 hp]; simp
section RT
variable {τ : k_TW} {σ : k_Mem} {mt : k_Mt}
theorem v_wish2 (hw : ∀ a c, a < 8 → c < 8 → σ 51 (a * 8 + c) = q_wi τ a c) {a : Nat} (ha : a < 8) (o : Option Nat) (ho : ∀ c, o = some c → c < 8) : f_X0_wishFor (nI a) (q_e1 o) σ = some (q_lv τ a o, σ) := by
  unfold f_X0_wishFor
  cases o with
  | none => rw [if_pos (show q_e1 none = -1 from rfl)]; rfl
  | some d =>
    have d8 := ho d rfl
    rw [if_neg (by show ¬ nI d = -1; rw [q_m1 (by omega)]; exact id), show q_e1 (some d) = nI d from rfl, show (8 : Int32) = nI 8 from rfl, q_mul, q_add]
    simp (disch := omega) only [q_inT, eq_self, if_true, q_n, hw a d ha d8]
    rfl
theorem v_wish1 (hw : ∀ a c, a < 8 → c < 8 → σ 51 (a * 8 + c) = q_wi τ a c) {a c : Nat} (ha : a < 8) (hc : c < 8) : f_X0_wishFor (nI a) (nI c) σ = some (q_wi τ a c, σ) := v_wish2 hw ha (some c) (fun d h => by cases h; exact hc)
/-- a wish is above another -/
theorem q_rt_c (hI : q_I τ) {a b : Nat} (o : Option Nat) : (q_wi τ a b ≤ q_lv τ a o) = (q_rt τ a b o = false) := by
  apply propext
  cases hcan : q_can τ a b
  · rw [show q_wi τ a b = -2 by simp [q_wi, hcan]]
    refine ⟨fun _ => by simp [q_rt, hcan], fun _ => ?_⟩
    cases o with
    | none => show (-2 : Int32) ≤ -1; decide
    | some d =>
      show (-2 : Int32) ≤ q_wi τ a d
      cases hd : q_can τ a d
      · rw [show q_wi τ a d = -2 by simp [q_wi, hd]]; decide
      · have := q_w191 hI hd
        rw [q_wi_w hd, Int32.le_iff_toInt_le, nI_toInt (by omega), show (-2 : Int32).toInt = -2 by decide]; omega
  · have h1 := q_w191 hI hcan
    rw [q_wi_w hcan]
    cases o with
    | none =>
      show (nI _ ≤ -1) ↔ _
      rw [Int32.le_iff_toInt_le, nI_toInt (by omega), show (-1 : Int32).toInt = -1 by decide]
      refine ⟨fun h => by omega, fun h => ?_⟩
      simp [q_rt, hcan] at h
    | some d =>
      show (nI _ ≤ q_wi τ a d) ↔ _
      cases hd : q_can τ a d
      · rw [show q_wi τ a d = -2 by simp [q_wi, hd], Int32.le_iff_toInt_le, nI_toInt (by omega), show (-2 : Int32).toInt = -2 by decide]
        refine ⟨fun h => by omega, fun h => ?_⟩
        simp [q_rt, hcan, hd] at h
      · have h2 := q_w191 hI hd
        rw [q_wi_w hd, nI_leI (by omega) (by omega)]
        simp [q_rt, hcan, hd]
theorem w_isRather2 (hI : q_I τ) (hT : q_TB τ 0 σ) {a b : Nat} (ha : a < 8) (hb : b < 8) (o : Option Nat) (ho : ∀ d, o = some d → d < 8) : f_X7_isRather (nI a) (nI b) (q_e4 o) σ = some (q_b (q_rt τ a b o), σ) := by
  cases o with
  | none =>
    rw [w_isRather hI hT ha hb none (fun d h => by cases h), q_cg0]
    rfl
  | some d =>
    have d8 := ho d rfl
    cases hd : q_can τ a d
    · have e1 : σ 73 (8 * a + d) = -1 := by rw [hT a d ha d8]; simp [q_ta, q_cg0, hd]
      have e2 : σ 73 (8 * a + b) = q_ta τ 0 a b := hT a b ha hb
      unfold f_X7_isRather
      rw [show q_e4 (some d) = nI d from rfl, show (8 : Int32) = nI 8 from rfl, q_mul, q_add, q_add]
      simp (disch := omega) only [q_inT, eq_self, if_true, q_n, e1, e2, q_m4, if_false]
      cases hcan : q_can τ a b
      · rw [show q_ta τ 0 a b = -1 by simp [q_ta, q_cg0, hcan], if_neg (by decide), show q_rt τ a b (some d) = false by simp [q_rt, hcan]]; rfl
      · have := q_lk23 hI (q_can_H hcan).1 (q_can_H hcan).2.1
        rw [show q_ta τ 0 a b = nI (q_lk τ a b) by simp [q_ta, q_cg0, hcan], if_pos (nI_pos' (by omega)), show q_rt τ a b (some d) = true by simp [q_rt, hcan, hd]]
        unfold j_X7_isRather_41
        rw [if_pos (by rw [Int32.lt_iff_toInt_lt, nI_toInt (by omega), show (-1 : Int32).toInt = -1 by decide]; omega)]
        rfl
    · rw [w_isRather hI hT ha hb (some d) (fun e h => by cases h; exact ⟨d8, by rw [q_cg0]; exact hd⟩), q_cg0]
      simp only [q_rt, hd, q_bt, Bool.not_true, Bool.false_or]
/-- two quarrel -/
def q_qv (τ : k_TW) (mt : k_Mt) (k : Nat) : Bool := q_rt τ (k / 4) (4 + k % 4) (mt (k / 4)) && q_rt τ (4 + k % 4) (k / 4) (mt (4 + k % 4))
theorem v_quarrelOver (hI : q_I τ) (hw : ∀ a c, a < 8 → c < 8 → σ 51 (a * 8 + c) = q_wi τ a c) (hm : ∀ x, x < 8 → σ 52 x = q_e1 (mt x)) (hb8 : ∀ x c, x < 8 → mt x = some c → c < 8) {a b : Nat} (ha : a < 8) (hb : b < 8) : f_X0_quarrelOver (nI a) (nI b) σ = some (q_b (q_rt τ a b (mt a) && q_rt τ b a (mt b)), σ) := by
  unfold f_X0_quarrelOver
  rw [v_wish1 hw ha hb, q_bd, q_inT ha (by omega), if_pos rfl, q_n (by omega), hm a ha, v_wish2 hw ha (mt a) (fun c h => hb8 a c ha h), q_bd]
  simp only [q_rt_c hI]
  cases h1 : q_rt τ a b (mt a)
  · rw [if_pos rfl]; rfl
  · rw [if_neg (by decide), v_wish1 hw hb ha, q_bd, q_inT hb (by omega), if_pos rfl, q_n (by omega), hm b hb, v_wish2 hw hb (mt b) (fun c h => hb8 b c hb h), q_bd]
    simp only [q_rt_c hI]
    cases h2 : q_rt τ b a (mt b)
    · rw [if_pos rfl]; rfl
    · rw [if_neg (by decide)]; rfl
theorem w_doQuarrel (hI : q_I τ) (hT : q_TB τ 0 σ) (hm : ∀ x, x < 8 → σ 76 x = q_e4 (mt x)) (hb8 : ∀ x c, x < 8 → mt x = some c → c < 8) {a b : Nat} (ha : a < 8) (hb : b < 8) : f_X7_doQuarrel (nI a) (nI b) σ = some (q_b (q_rt τ a b (mt a) && q_rt τ b a (mt b)), σ) := by
  unfold f_X7_doQuarrel
  simp only [q_inT ha (by omega : 8 < 2 ^ 31), q_inT hb (by omega : 8 < 2 ^ 31), if_true, q_n (show a < 2 ^ 31 by omega), q_n (show b < 2 ^ 31 by omega), hm a ha]
  by_cases h : mt a = some b
  · rw [h, if_pos (show q_e4 (some b) = nI b from rfl), show q_rt τ a b (some b) = false by simp [q_rt]]; rfl
  · have hne : ¬ q_e4 (mt a) = nI b := by
      cases hq : mt a with
      | none => show ¬ (-4 : Int32) = nI b; intro e; have := q_m4 (j := b) (by omega); rw [e] at this; simp at this
      | some c =>
        have := hb8 a c ha hq
        show ¬ nI c = nI b
        rw [q_eq (by omega) (by omega)]
        intro e; exact h (by rw [hq, e])
    rw [if_neg hne, w_isRather2 hI hT ha hb (mt a) (fun d e => hb8 a d ha e), q_bd]
    simp only [q_b0]
    cases h1 : q_rt τ a b (mt a)
    · rw [if_pos rfl]; rfl
    · rw [if_neg (by decide), hm b hb, w_isRather2 hI hT hb ha (mt b) (fun d e => hb8 b d hb e), q_bd]
      simp only [q_b0]
      cases h2 : q_rt τ b a (mt b)
      · rw [if_pos rfl]; rfl
      · rw [if_neg (by decide)]; rfl
def q_qn (τ : k_TW) (mt : k_Mt) : Nat := q_sm (fun k => if q_qv τ mt k then 1 else 0) 16
def q_qf (τ : k_TW) (mt : k_Mt) : Option Nat := (q_fi (q_qv τ mt) 0 16).map (fun k => 10 * (k / 4) + (4 + k % 4))
theorem v_quarrels (hI : q_I τ) (hw : ∀ a c, a < 8 → c < 8 → σ 51 (a * 8 + c) = q_wi τ a c) (hm : ∀ x, x < 8 → σ 52 x = q_e1 (mt x)) (hb8 : ∀ x c, x < 8 → mt x = some c → c < 8) : f_X0_quarrels σ = some (nI (q_qn τ mt), σ) := by
  have inn : ∀ (k4 : Int32 → Int32 → k_Mem → Option (Int32 × k_Mem)) (a : Nat), a < 4 → ∀ (m c f : Nat), c + m = 4 → m < f → l_X0_quarrels_11 k4 f (nI (q_sm (fun k => if q_qv τ mt k then 1 else 0) (4 * a + c))) (nI a) (nI (4 + c)) σ = k4 (nI (q_sm (fun k => if q_qv τ mt k then 1 else 0) (4 * (a + 1)))) (nI (a + 1)) σ := by
    intro k4 a ha m
    induction m with
    | zero =>
      intro c f h1 h2
      obtain ⟨f, rfl⟩ : ∃ g, f = g + 1 := ⟨f - 1, by omega⟩
      rw [l_X0_quarrels_11, show (8 : Int32) = nI 8 from rfl, if_pos (nI_le (by omega) (by omega)), show c = 4 by omega, show nI a + 1 = nI (a + 1) from nI_1 a]; rfl
    | succ m ih =>
      intro c f h1 h2
      obtain ⟨f, rfl⟩ : ∃ g, f = g + 1 := ⟨f - 1, by omega⟩
      have hih := ih (c + 1) f (by omega) (by omega)
      have e : (q_rt τ a (4 + c) (mt a) && q_rt τ (4 + c) a (mt (4 + c))) = q_qv τ mt (4 * a + c) := by
        unfold q_qv; rw [show (4 * a + c) / 4 = a by omega, show (4 * a + c) % 4 = c by omega]
      rw [l_X0_quarrels_11, show (8 : Int32) = nI 8 from rfl, if_neg (nI_ge (by omega) (by omega)), v_quarrelOver hI hw hm hb8 (by omega) (by omega), q_bd, e]
      simp only [q_b0, j_X0_quarrels_29, show nI (4 + c) + 1 = nI (4 + (c + 1)) from nI_1 _]
      rw [← hih]
      cases h : q_qv τ mt (4 * a + c)
      · rw [if_pos rfl, ← Nat.add_assoc (4 * a), q_sm, h]; rfl
      · rw [if_neg (by decide), ← Nat.add_assoc (4 * a), q_sm, h, show (1 : Int32) = nI 1 from rfl, q_add]; rfl
  have key : ∀ (m a f : Nat), a + m = 4 → m < f → l_X0_quarrels_4 f (nI (q_sm (fun k => if q_qv τ mt k then 1 else 0) (4 * a))) (nI a) σ = some (nI (q_qn τ mt), σ) := by
    intro m
    induction m with
    | zero =>
      intro a f h1 h2
      obtain ⟨f, rfl⟩ : ∃ g, f = g + 1 := ⟨f - 1, by omega⟩
      rw [l_X0_quarrels_4, show (4 : Int32) = nI 4 from rfl, if_pos (nI_le (by omega) (by omega)), show a = 4 by omega]; rfl
    | succ m ih =>
      intro a f h1 h2
      obtain ⟨f, rfl⟩ : ∃ g, f = g + 1 := ⟨f - 1, by omega⟩
      rw [l_X0_quarrels_4, show (4 : Int32) = nI 4 from rfl, if_neg (nI_ge (by omega) (by omega))]
      exact (inn _ a (by omega) 4 0 1000 (by omega) (by omega)).trans (ih (a + 1) f (by omega) (by omega))
  exact key 4 0 1000 (by omega) (by omega)
theorem v_firstQuarrel (hI : q_I τ) (hw : ∀ a c, a < 8 → c < 8 → σ 51 (a * 8 + c) = q_wi τ a c) (hm : ∀ x, x < 8 → σ 52 x = q_e1 (mt x)) (hb8 : ∀ x c, x < 8 → mt x = some c → c < 8) : f_X0_firstQuarrel σ = some (q_e1 (q_qf τ mt), σ) := by
  have inn : ∀ (k2 : Int32 → k_Mem → Option (Int32 × k_Mem)) (R : Option (Int32 × k_Mem)) (a : Nat), a < 4 → (∀ n, n = 16 - 4 * (a + 1) → k2 (nI (a + 1)) σ = some (q_e1 ((q_fi (q_qv τ mt) (4 * (a + 1)) n).map (fun k => 10 * (k / 4) + (4 + k % 4))), σ)) → ∀ (m c f : Nat), c + m = 4 → m < f → l_X0_firstQuarrel_9 k2 f (nI a) (nI (4 + c)) σ = some (q_e1 ((q_fi (q_qv τ mt) (4 * a + c) (16 - (4 * a + c))).map (fun k => 10 * (k / 4) + (4 + k % 4))), σ) := by
    intro k2 R a ha hk m
    induction m with
    | zero =>
      intro c f h1 h2
      obtain ⟨f, rfl⟩ : ∃ g, f = g + 1 := ⟨f - 1, by omega⟩
      rw [l_X0_firstQuarrel_9, show (8 : Int32) = nI 8 from rfl, if_pos (nI_le (by omega) (by omega)), show nI a + 1 = nI (a + 1) from nI_1 a, hk _ rfl, show 4 * (a + 1) = 4 * a + c by omega]
    | succ m ih =>
      intro c f h1 h2
      obtain ⟨f, rfl⟩ : ∃ g, f = g + 1 := ⟨f - 1, by omega⟩
      have hih := ih (c + 1) f (by omega) (by omega)
      have e : (q_rt τ a (4 + c) (mt a) && q_rt τ (4 + c) a (mt (4 + c))) = q_qv τ mt (4 * a + c) := by
        unfold q_qv; rw [show (4 * a + c) / 4 = a by omega, show (4 * a + c) % 4 = c by omega]
      rw [l_X0_firstQuarrel_9, show (8 : Int32) = nI 8 from rfl, if_neg (nI_ge (by omega) (by omega)), v_quarrelOver hI hw hm hb8 (by omega) (by omega), q_bd, e]
      simp only [q_b0, show nI (4 + c) + 1 = nI (4 + (c + 1)) from nI_1 _]
      rw [show 16 - (4 * a + c) = (16 - (4 * a + (c + 1))) + 1 by omega]
      cases h : q_qv τ mt (4 * a + c)
      · rw [if_pos rfl, hih, q_fi_0 h]; rfl
      · rw [if_neg (by decide), q_fi_1 h, show (10 : Int32) = nI 10 from rfl, q_mul, q_add]
        simp only [Option.map_some, q_e1]
        rw [show (4 * a + c) / 4 = a by omega, show (4 * a + c) % 4 = c by omega]
  have key : ∀ (m a f : Nat), a + m = 4 → m < f → l_X0_firstQuarrel_2 f (nI a) σ = some (q_e1 ((q_fi (q_qv τ mt) (4 * a) (16 - 4 * a)).map (fun k => 10 * (k / 4) + (4 + k % 4))), σ) := by
    intro m
    induction m with
    | zero =>
      intro a f h1 h2
      obtain ⟨f, rfl⟩ : ∃ g, f = g + 1 := ⟨f - 1, by omega⟩
      rw [l_X0_firstQuarrel_2, show (4 : Int32) = nI 4 from rfl, if_pos (nI_le (by omega) (by omega)), show a = 4 by omega]; rfl
    | succ m ih =>
      intro a f h1 h2
      obtain ⟨f, rfl⟩ : ∃ g, f = g + 1 := ⟨f - 1, by omega⟩
      rw [l_X0_firstQuarrel_2, show (4 : Int32) = nI 4 from rfl, if_neg (nI_ge (by omega) (by omega))]
      exact inn _ none a (by omega) (fun n hn => by rw [hn]; exact ih (a + 1) f (by omega) (by omega)) 4 0 1000 (by omega) (by omega)
  exact key 4 0 1000 (by omega) (by omega)
theorem w_quarrels (hI : q_I τ) (hT : q_TB τ 0 σ) (hm : ∀ x, x < 8 → σ 76 x = q_e4 (mt x)) (hb8 : ∀ x c, x < 8 → mt x = some c → c < 8) : f_X7_quarrels σ = some (nI (q_qn τ mt), σ) := by
  have key : ∀ (m k f : Nat), k + m = 16 → m < f → l_X7_quarrels_4 f (nI (q_sm (fun k => if q_qv τ mt k then 1 else 0) k)) (nI k) σ = some (nI (q_qn τ mt), σ) := by
    intro m
    induction m with
    | zero =>
      intro k f h1 h2
      obtain ⟨f, rfl⟩ : ∃ g, f = g + 1 := ⟨f - 1, by omega⟩
      rw [l_X7_quarrels_4, show (16 : Int32) = nI 16 from rfl, if_pos (nI_le (by omega) (by omega)), show k = 16 by omega]; rfl
    | succ m ih =>
      intro k f h1 h2
      obtain ⟨f, rfl⟩ : ∃ g, f = g + 1 := ⟨f - 1, by omega⟩
      have hih := ih (k + 1) f (by omega) (by omega)
      rw [l_X7_quarrels_4, show (16 : Int32) = nI 16 from rfl, if_neg (nI_ge (by omega) (by omega)), show (4 : Int32) = nI 4 from rfl, q_div (by omega) (by omega) (by omega), q_rem (by omega) (by omega) (by omega), q_add, w_doQuarrel hI hT hm hb8 (by omega) (by omega), q_bd]
      rw [show (q_rt τ (k / 4) (4 + k % 4) (mt (k / 4)) && q_rt τ (4 + k % 4) (k / 4) (mt (4 + k % 4))) = q_qv τ mt k from rfl]
      simp only [q_b0, j_X7_quarrels_31, show nI k + 1 = nI (k + 1) from nI_1 k]
      rw [← hih]
      cases h : q_qv τ mt k
      · rw [if_pos rfl, q_sm, h, show (0 : Int32) = nI 0 from rfl, q_add]; rfl
      · rw [if_neg (by decide), q_sm, h, show (1 : Int32) = nI 1 from rfl, q_add]; rfl
  exact key 16 0 1000 (by omega) (by omega)
theorem w_firstQuarrel (hI : q_I τ) (hT : q_TB τ 0 σ) (hm : ∀ x, x < 8 → σ 76 x = q_e4 (mt x)) (hb8 : ∀ x c, x < 8 → mt x = some c → c < 8) : l_X7_quarrel_53 1000 0 σ = some (q_e4 (q_qf τ mt), σ) := by
  have key : ∀ (m k f : Nat), k + m = 16 → m < f → l_X7_quarrel_53 f (nI k) σ = some (q_e4 ((q_fi (q_qv τ mt) k m).map (fun k => 10 * (k / 4) + (4 + k % 4))), σ) := by
    intro m
    induction m with
    | zero =>
      intro k f h1 h2
      obtain ⟨f, rfl⟩ : ∃ g, f = g + 1 := ⟨f - 1, by omega⟩
      rw [l_X7_quarrel_53, show (16 : Int32) = nI 16 from rfl, if_pos (nI_le (by omega) (by omega))]; rfl
    | succ m ih =>
      intro k f h1 h2
      obtain ⟨f, rfl⟩ : ∃ g, f = g + 1 := ⟨f - 1, by omega⟩
      have hih := ih (k + 1) f (by omega) (by omega)
      rw [l_X7_quarrel_53, show (16 : Int32) = nI 16 from rfl, if_neg (nI_ge (by omega) (by omega)), show (4 : Int32) = nI 4 from rfl, q_div (by omega) (by omega) (by omega), q_rem (by omega) (by omega) (by omega), q_add, w_doQuarrel hI hT hm hb8 (by omega) (by omega), q_bd]
      rw [show (q_rt τ (k / 4) (4 + k % 4) (mt (k / 4)) && q_rt τ (4 + k % 4) (k / 4) (mt (4 + k % 4))) = q_qv τ mt k from rfl]
      simp only [q_b0, show nI k + 1 = nI (k + 1) from nI_1 k]
      cases h : q_qv τ mt k
      · rw [if_pos rfl, hih, q_fi_0 h]
      · rw [if_neg (by decide), q_fi_1 h, show (10 : Int32) = nI 10 from rfl, q_mul, q_add, q_add, Nat.add_assoc]; rfl
  exact key 16 0 1000 (by omega) (by omega)
end RT
theorem q_qf31 {τ : k_TW} {mt : k_Mt} : ∀ c, q_qf τ mt = some c → c < 2 ^ 31 := fun c h => by
  unfold q_qf at h
  cases hq : q_fi (q_qv τ mt) 0 16 with
  | none => rw [hq] at h; cases h
  | some k =>
    rw [hq] at h
    have := q_fi_in hq
    simp only [Option.map_some, Option.some.injEq] at h
    omega
theorem q_sc_q : ∀ c ∈ [46, 47, 48, 49, 50, 51, 52], c ∈ q_sc := by decide
theorem q_sc_r : ∀ c ∈ [73, 76], c ∈ q_sc := by decide
theorem o_quarrel (x : Int32) : q_Op (fun σ => f_X6_quarrel x σ) (fun σ => f_X7_quarrel x σ) := q_qu (fun τ im σ h => by
  obtain ⟨hI, hC, hN, hM, -⟩ := h
  have fr7 := fr_f_X7_quarrel x
  unfold f_X6_quarrel
  unfold f_X7_quarrel at fr7 ⊢
  rw [show (1 : Int32) = nI 1 from rfl, q_gd]
  rcases q_rng x (n := 1) (by omega) with ⟨s, hs, rfl⟩ | hn
  · obtain ⟨σ1, e1, e2, e3, e4⟩ := v_weigh (b := 6) (by omega) hI hC
    rw [if_pos (q_rng_t (by omega) hs), e1, q_bd]
    unfold f_X0_setMates
    rw [if_pos (by decide), q_bd]
    have k8 : k_n (k_min (nI 8) 8) = 8 := by decide
    have k0 : k_n 0 = 0 := by decide
    rw [k8, k0]
    generalize hs2 : k_mrow σ1 52 (va_cpy (σ1 12) (σ1 52) 0 0 8) = σ2
    have ev : ∀ k, k ≠ 52 → σ2 k = σ1 k := fun k hk => by rw [← hs2]; exact k_row_ne σ1 _ hk
    have e52 : ∀ x, x < 8 → σ2 52 x = q_e1 (q_so τ x) := fun x hx => by
      rw [← hs2, q_mr, if_pos rfl, pk_cpy_in (by omega) (by omega), Nat.zero_add, Nat.sub_zero]
      exact q_C_so e2 hx
    have hw : ∀ a c, a < 8 → c < 8 → σ2 51 (a * 8 + c) = q_wi τ a c := fun a c ha hc => by rw [ev 51 (by decide)]; exact e3.2.2 a c ha hc
    have hb8 : ∀ x c, x < 8 → q_so τ x = some c → c < 8 := fun x c hx h => (q_so_in hI hx h).2.2.2.2
    rw [v_firstQuarrel hI hw e52 hb8, q_bd, v_orNone q_qf31, q_bd, v_quarrels hI hw e52 hb8, q_bd]
    simp (disch := omega) only [q_eq]
    refine ⟨if s = 1 then q_e4 (q_qf τ (q_so τ)) else nI (q_qn τ (q_so τ)), σ2, by split <;> rfl, ?_, fun σ' h' => ?_⟩
    · intro k hk
      rw [ev k (fun e => hk (by rw [e]; decide))]
      exact e4 k (fun h => hk (q_sc_w k h))
    · obtain ⟨-, hC', hN', hM', -⟩ := h'
      have fr := fr7 σ'
      rw [w_in (nI s) 1 (by omega) 1 (by decide), q_bd, if_pos (q_rng_t (by omega) hs), if_neg (by decide)] at fr ⊢
      obtain ⟨σ3, f1, f2, f3⟩ := w_laysTable (g := 0) hI hN' hM' (by omega)
      rw [show (0 : Int32) = nI 0 from rfl, f1, q_bd] at fr ⊢
      have key : ∀ (m k f : Nat) (σ4 : k_Mem), k + m = 8 → m < f → q_M 0 τ σ4 → q_TB τ 0 σ4 → (∀ x, x < k → σ4 76 x = q_e4 (q_so τ x)) → ∃ σ5, l_X7_quarrel_19 f (nI s) (nI k) σ4 = some (if s = 1 then q_e4 (q_qf τ (q_so τ)) else nI (q_qn τ (q_so τ)), σ5) := by
        intro m
        induction m with
        | zero =>
          intro k f σ4 h1 h2 h3 h4 h5
          obtain ⟨f, rfl⟩ : ∃ g, f = g + 1 := ⟨f - 1, by omega⟩
          rw [l_X7_quarrel_19, show (8 : Int32) = nI 8 from rfl, if_pos (nI_le (by omega) (by omega)), w_quarrels hI h4 (fun x hx => h5 x (by omega)) hb8, q_bd, w_firstQuarrel hI h4 (fun x hx => h5 x (by omega)) hb8, show (0 : Int32) = nI 0 from rfl]
          simp (disch := omega) only [q_eq]
          refine ⟨σ4, ?_⟩
          by_cases hs0 : s = 0
          · rw [if_pos hs0, if_neg (by omega)]
          · rw [if_neg hs0, if_pos (by omega)]
        | succ m ih =>
          intro k f σ4 h1 h2 h3 h4 h5
          obtain ⟨f, rfl⟩ : ∃ g, f = g + 1 := ⟨f - 1, by omega⟩
          rw [l_X7_quarrel_19, show (8 : Int32) = nI 8 from rfl, if_neg (nI_ge (by omega) (by omega)), w_wedTo hI h3 (by omega), q_bd, q_inT (show k < 8 by omega) (by omega), if_pos rfl, q_n (by omega), show nI k + 1 = nI (k + 1) from nI_1 k]
          refine ih (k + 1) f _ (by omega) (by omega) (q_M_sm h3 (q_ms_ne _ _ (by decide))) (fun a c ha hc => by rw [q_ms_ne _ _ (by decide)]; exact h4 a c ha hc) (fun x hx => ?_)
          rw [q_ms]
          by_cases h : x = k
          · subst h; rw [if_pos ⟨rfl, rfl⟩]
          · rw [if_neg (fun g => h g.2)]; exact h5 x (by omega)
      obtain ⟨σ5, g1⟩ := key 8 0 1000 σ3 (by omega) (by omega) (q_M_sm hM' (f3 68 (by decide))) f2 (fun x hx => absurd hx (by omega))
      rw [g1] at fr ⊢
      exact ⟨σ5, rfl, k_Sm_mono (fr _ σ5 rfl) q_sc_r⟩
  · rw [if_neg hn]
    refine ⟨_, _, rfl, sm_rf, fun σ' h' => ?_⟩
    rw [w_in x 1 (by omega) 1 (by decide), q_bd, if_neg hn]
    exact ⟨_, rfl, sm_rf⟩)

/-- how many a hand would rather have than c -/
def q_av (τ : k_TW) (a c : Nat) : Nat := q_sm (fun d => if q_rt τ a d (some c) then 1 else 0) 8
def q_cp (τ : k_TW) (a : Nat) (x : Int32) (c : Nat) : Bool := q_can τ a c && decide (nI (q_av τ a c) = x)
section RA
variable {τ : k_TW} {σ : k_Mem}
theorem v_countAbove (hI : q_I τ) (hw : ∀ a c, a < 8 → c < 8 → σ 51 (a * 8 + c) = q_wi τ a c) {a c : Nat} (ha : a < 8) (hc : c < 8) : f_X0_countAbove (nI a) (q_wi τ a c) σ = some (nI (q_av τ a c), σ) := by
  have key : ∀ (m k f : Nat), k + m = 8 → m < f → l_X0_countAbove_5 f (nI a) (q_wi τ a c) (nI (q_sm (fun d => if q_rt τ a d (some c) then 1 else 0) k)) (nI k) σ = some (nI (q_av τ a c), σ) := by
    intro m
    induction m with
    | zero =>
      intro k f h1 h2
      obtain ⟨f, rfl⟩ : ∃ g, f = g + 1 := ⟨f - 1, by omega⟩
      rw [l_X0_countAbove_5, show (8 : Int32) = nI 8 from rfl, if_pos (nI_le (by omega) (by omega)), show k = 8 by omega]; rfl
    | succ m ih =>
      intro k f h1 h2
      obtain ⟨f, rfl⟩ : ∃ g, f = g + 1 := ⟨f - 1, by omega⟩
      have hih := ih (k + 1) f (by omega) (by omega)
      rw [l_X0_countAbove_5, show (8 : Int32) = nI 8 from rfl, if_neg (nI_ge (by omega) (by omega)), v_wish1 hw ha (by omega), q_bd]
      rw [show q_wi τ a c = q_lv τ a (some c) from rfl]
      simp only [q_rt_c hI, j_X0_countAbove_26, show nI k + 1 = nI (k + 1) from nI_1 k]
      rw [← hih]
      cases h : q_rt τ a k (some c)
      · rw [if_pos rfl, q_sm, h]; rfl
      · rw [if_neg (by decide), q_sm, h, show (1 : Int32) = nI 1 from rfl, q_add]; rfl
  exact key 8 0 1000 (by omega) (by omega)
theorem v_choiceOf (hI : q_I τ) (hw : ∀ a c, a < 8 → c < 8 → σ 51 (a * 8 + c) = q_wi τ a c) {a : Nat} (ha : a < 8) (x : Int32) : f_X0_choiceOf (nI a) x σ = some (q_e1 (q_fi (q_cp τ a x) 0 8), σ) := by
  have key : ∀ (m k f : Nat), k + m = 8 → m < f → l_X0_choiceOf_2 f (nI a) x (nI k) σ = some (q_e1 (q_fi (q_cp τ a x) k m), σ) := by
    intro m
    induction m with
    | zero =>
      intro k f h1 h2
      obtain ⟨f, rfl⟩ : ∃ g, f = g + 1 := ⟨f - 1, by omega⟩
      rw [l_X0_choiceOf_2, show (8 : Int32) = nI 8 from rfl, if_pos (nI_le (by omega) (by omega))]; rfl
    | succ m ih =>
      intro k f h1 h2
      obtain ⟨f, rfl⟩ : ∃ g, f = g + 1 := ⟨f - 1, by omega⟩
      have hih := ih (k + 1) f (by omega) (by omega)
      rw [l_X0_choiceOf_2, show (8 : Int32) = nI 8 from rfl, if_neg (nI_ge (by omega) (by omega)), v_wish1 hw ha (by omega), q_bd]
      rw [show (-1 : Int32) = q_lv τ a none from rfl]
      simp only [q_rt_c hI, j_X0_choiceOf_35, show nI k + 1 = nI (k + 1) from nI_1 k]
      cases h : q_can τ a k
      · rw [if_pos (by simp [q_rt, h]), hih, q_fi_0 (by simp [q_cp, h])]
      · rw [if_neg (by simp [q_rt, h]), v_wish1 hw ha (by omega), q_bd, v_countAbove hI hw ha (by omega), q_bd]
        by_cases h2 : nI (q_av τ a k) = x
        · rw [if_pos h2, q_fi_1 (by simp [q_cp, h, h2])]; rfl
        · rw [if_neg h2, hih, q_fi_0 (by simp [q_cp, h2])]
  exact key 8 0 1000 (by omega) (by omega)
theorem w_rather_l (hI : q_I τ) (hT : q_TB τ 0 σ) {a : Nat} (ha : a < 8) (x : Int32) : l_X7_rather_21 1000 (nI a) x 0 σ = some (q_e4 (q_fi (q_cp τ a x) 0 8), σ) := by
  have inn : ∀ (k21 : Int32 → Int32 → Int32 → k_Mem → Option (Int32 × k_Mem)) (c n : Nat), c < 8 → k21 (nI a) x (nI (c + 1)) σ = some (q_e4 (q_fi (q_cp τ a x) (c + 1) n), σ) → ∀ (m k f : Nat), k + m = 8 → m < f → l_X7_rather_33 k21 f (nI a) x (nI c) (nI (q_sm (fun d => if decide (d ≠ c) && q_rt τ a d (some c) then 1 else 0) k)) (nI k) σ = some (q_e4 (q_fi (q_cp τ a x) c (n + 1)), σ) := by
    intro k21 c n hc hk m
    induction m with
    | zero =>
      intro k f h1 h2
      obtain ⟨f, rfl⟩ : ∃ g, f = g + 1 := ⟨f - 1, by omega⟩
      rw [l_X7_rather_33, show (8 : Int32) = nI 8 from rfl, if_pos (nI_le (by omega) (by omega)), q_mul, q_add]
      simp (disch := omega) only [q_inT, eq_self, if_true, q_n, hT a c ha hc]
      simp only [j_X7_rather_95, show nI c + 1 = nI (c + 1) from nI_1 c, hk]
      have e : q_sm (fun d => if decide (d ≠ c) && q_rt τ a d (some c) then 1 else 0) k = q_av τ a c := by
        rw [show k = 8 by omega]
        refine q_sm_ext (fun d hd => ?_)
        by_cases h : d = c
        · subst h; simp [q_rt]
        · simp [h]
      rw [e]
      cases h : q_can τ a c
      · rw [if_pos (show q_ta τ 0 a c < 0 by rw [show q_ta τ 0 a c = -1 by simp [q_ta, q_cg0, h]]; decide), q_fi_0 (by simp [q_cp, h])]
      · have l23 := q_lk23 hI (q_can_H h).1 (q_can_H h).2.1
        rw [if_neg (show ¬ q_ta τ 0 a c < 0 by rw [show q_ta τ 0 a c = nI (q_lk τ a c) by simp [q_ta, q_cg0, h]]; exact nI_pos (by omega))]
        by_cases h2 : nI (q_av τ a c) = x
        · rw [if_pos h2, q_fi_1 (by simp [q_cp, h, h2])]; rfl
        · rw [if_neg h2, q_fi_0 (by simp [q_cp, h2])]
    | succ m ih =>
      intro k f h1 h2
      obtain ⟨f, rfl⟩ : ∃ g, f = g + 1 := ⟨f - 1, by omega⟩
      have hih := ih (k + 1) f (by omega) (by omega)
      rw [l_X7_rather_33, show (8 : Int32) = nI 8 from rfl, if_neg (nI_ge (by omega) (by omega))]
      simp (disch := omega) only [q_eq]
      simp only [j_X7_rather_63, j_X7_rather_64, show nI k + 1 = nI (k + 1) from nI_1 k]
      rw [← hih]
      by_cases hkc : k = c
      · rw [if_pos hkc, q_sm, show (0 : Int32) = nI 0 from rfl, q_add]; simp [hkc]
      · rw [if_neg hkc, show (nI c) = q_e4 (some c) from rfl, w_isRather2 hI hT ha (by omega) (some c) (fun d h => by cases h; exact hc), q_bd]
        simp only [q_b0]
        cases h : q_rt τ a k (some c)
        · rw [if_pos rfl, q_sm, h, show (0 : Int32) = nI 0 from rfl, q_add]; simp
        · rw [if_neg (by decide), q_sm, h, show (1 : Int32) = nI 1 from rfl, q_add]; simp [hkc]
  have key : ∀ (m k f : Nat), k + m = 8 → m < f → l_X7_rather_21 f (nI a) x (nI k) σ = some (q_e4 (q_fi (q_cp τ a x) k m), σ) := by
    intro m
    induction m with
    | zero =>
      intro k f h1 h2
      obtain ⟨f, rfl⟩ : ∃ g, f = g + 1 := ⟨f - 1, by omega⟩
      rw [l_X7_rather_21, show (8 : Int32) = nI 8 from rfl, if_pos (nI_le (by omega) (by omega))]; rfl
    | succ m ih =>
      intro k f h1 h2
      obtain ⟨f, rfl⟩ : ∃ g, f = g + 1 := ⟨f - 1, by omega⟩
      rw [l_X7_rather_21, show (8 : Int32) = nI 8 from rfl, if_neg (nI_ge (by omega) (by omega))]
      exact inn _ k m (by omega) (ih (k + 1) f (by omega) (by omega)) 8 0 1000 (by omega) (by omega)
  exact key 8 0 1000 (by omega) (by omega)
end RA
theorem o_rather (x y : Int32) : q_Op (fun σ => f_X6_rather x y σ) (fun σ => f_X7_rather x y σ) := q_qu (fun τ im σ h => by
  obtain ⟨hI, hC, hN, hM, -⟩ := h
  unfold f_X6_rather f_X7_rather
  rcases q_hand x (im := im) hI with ⟨a, a8, rfl, ha⟩ | ⟨h1, h2⟩
  · rw [v_isH1 hI hC ha, q_bd, if_neg q_10]
    by_cases hy : 0 ≤ y
    · obtain ⟨σ1, e1, e2, e3, e4⟩ := v_weigh (b := 6) (by omega) hI hC
      rw [if_pos hy, e1, q_bd, v_choiceOf hI e3.2.2 a8, q_bd, v_orNone (fun c h => by have := q_fi_in h; omega), q_bd]
      refine ⟨_, _, rfl, k_Sm_mono e4 q_sc_w, fun σ' h' => ?_⟩
      obtain ⟨-, hC', hN', hM', -⟩ := h'
      obtain ⟨σ3, f1, f2, f3⟩ := w_laysTable (g := 0) hI hN' hM' (by omega)
      rw [w_isH1 hI hN' ha, q_bd, if_neg q_10, if_pos hy, show f_X7_laysTable 0 σ' = some ((), σ3) from f1, q_bd, w_rather_l hI f2 a8]
      exact ⟨σ3, rfl, k_Sm_mono f3 (by decide)⟩
    · rw [if_neg hy]
      refine ⟨_, _, rfl, sm_rf, fun σ' h' => ?_⟩
      obtain ⟨-, hC', hN', hM', -⟩ := h'
      rw [w_isH1 hI hN' ha, q_bd, if_neg q_10, if_neg hy]
      exact ⟨_, rfl, sm_rf⟩
  · rw [h1 6 σ hC, q_bd]
    refine ⟨_, _, rfl, sm_rf, fun σ' h' => ?_⟩
    obtain ⟨-, hC', hN', hM', -⟩ := h'
    rw [h2 σ' hN']
    exact ⟨_, rfl, sm_rf⟩)
