/-! PURE: names on the tape -/
def q_wd (k : Nat) : List Nat := ([[112, 108, 97, 105, 110], [116, 97, 117, 103, 104, 116], [118, 97, 105, 110], [116, 114, 101, 109, 98, 108, 101, 114], [112, 101, 110], [114, 117, 110], [102, 111, 108, 100], [119, 101, 100], [108, 101, 102, 116], [114, 105, 103, 104, 116]] : List (List Nat)).getD k []
def q_cu (k : Nat) : Nat := ([0, 5, 11, 15, 23, 26, 29, 33, 36, 40, 45] : List Nat).getD k 0
def q_tx (cb : Nat → Nat) (n p : Nat) : List Nat := (List.range (q_lE cb n p - q_lS cb n p)).map (fun i => cb (q_lS cb n p + i))
def q_sp (cb : Nat → Nat) (n p k : Nat) : Bool := decide (q_lT cb n p = 1) && decide (q_tx cb n p = q_wd k)
def q_fw (P : Nat → Bool) : Nat → Nat → Option Nat
  | 0, _ => none
  | m + 1, k => if P k then some k else q_fw P m (k + 1)
theorem q_71 : ∀ k, k < 11 → k_σ0 71 k = nI (q_cu k) := by decide +kernel
theorem q_72 : ∀ k, k < 10 → ∀ i, i < (q_wd k).length → k_σ0 72 (q_cu k + i) = nI ((q_wd k).getD i 0) := by decide +kernel
theorem q_cul : ∀ k, k < 10 → q_cu (k + 1) = q_cu k + (q_wd k).length ∧ (q_wd k).length ≤ 8 ∧ q_cu (k + 1) ≤ 45 := by decide +kernel
theorem q_wdb : ∀ k, k < 10 → ∀ i, i < (q_wd k).length → (q_wd k).getD i 0 < 128 := by decide +kernel
section
variable {cb : Nat → Nat} {n : Nat} {σ : k_Mem} {p : Nat}
theorem q_gD {w : List Nat} {i : Nat} (h : i < w.length) : w.getD i 0 = w[i] := by
  unfold List.getD; rw [List.getElem?_eq_getElem h]; rfl
theorem q_tx_eq {w : List Nat} : (q_tx cb n p = w) ↔ (q_lE cb n p - q_lS cb n p = w.length ∧ ∀ j, j < w.length → cb (q_lS cb n p + j) = w.getD j 0) := by
  constructor
  · intro h
    subst h
    refine ⟨by simp [q_tx], fun j hj => ?_⟩
    rw [q_gD hj]
    simp [q_tx]
  · intro h
    apply List.ext_getElem
    · simp [q_tx, h.1]
    · intro i h1 h2
      have := h.2 i h2
      rw [q_gD h2] at this
      simp [q_tx, this]
theorem q_lEn (hp : p ≤ n) : q_lS cb n p ≤ n ∧ q_lE cb n p ≤ n ∧ q_lS cb n p ≤ q_lE cb n p ∧ p ≤ q_lS cb n p ∧ (q_lT cb n p ≠ 0 → q_lT cb n p ≠ 4 → q_lS cb n p < q_lE cb n p) := by
  have h1 : q_lS cb n p ≤ n := q_re_le hp
  have h2 : p ≤ q_lS cb n p := q_re_ge p
  have h3 := q_re_le (cb := cb) (lo := 97) (hi := 122) h1
  have h4 := q_re_ge (cb := cb) (n := n) (lo := 97) (hi := 122) (q_lS cb n p)
  have h5 := q_re_le (cb := cb) (lo := 48) (hi := 57) h1
  have h6 := q_re_ge (cb := cb) (n := n) (lo := 48) (hi := 57) (q_lS cb n p)
  have h7 : q_lT cb n p = 3 → q_lS cb n p < n := fun h => by
    unfold q_lT at h
    split at h
    · omega
    · omega
  have h8 : q_lT cb n p = 1 → q_lS cb n p < q_re cb n 97 122 (q_lS cb n p) := fun h => by
    unfold q_lT at h
    split at h
    · omega
    · rename_i g0
      split at h
      · omega
      · split at h
        · rename_i g
          rw [q_re_y (by omega) g.1 g.2]
          have := q_re_ge (cb := cb) (n := n) (lo := 97) (hi := 122) (q_lS cb n p + 1)
          omega
        · split at h <;> omega
  have h9 : q_lT cb n p = 2 → q_lS cb n p < q_lD cb n p := fun h => by
    unfold q_lT at h
    split at h
    · omega
    · split at h
      · omega
      · split at h
        · omega
        · split at h
          · omega
          · omega
  have h10 : q_lD cb n p = q_re cb n 48 57 (q_lS cb n p) := rfl
  have h11 : q_lT cb n p ≤ 4 := by
    unfold q_lT
    split
    · omega
    · split
      · omega
      · split
        · omega
        · split <;> omega
  refine ⟨h1, ?_, ?_, h2, fun g0 g4 => ?_⟩
  · unfold q_lE
    split
    · have := h7 (by assumption); omega
    · split
      · omega
      · split <;> omega
  · unfold q_lE
    split
    · omega
    · split
      · omega
      · split <;> omega
  · unfold q_lE
    split
    · omega
    · split
      · exact h8 (by assumption)
      · split
        · exact h9 (by assumption)
        · omega
/-- the class -/
theorem v_spells (hn : n ≤ 160) (hp : p ≤ n) (hT : q_TP cb n σ) (hA : q_TA cb n p σ) {w k : Nat} (hk : k < 10) (hl : k_slen.getD w 0 = (q_wd k).length) (hb : ∀ i, i < (q_wd k).length → (k_sbyt.getD w []).getD i 0 = nI ((q_wd k).getD i 0)) : f_X4_spells w σ = some (q_b (q_sp cb n p k), σ) := by
  obtain ⟨b1, b2, b3, b4, b5⟩ := q_lEn (cb := cb) hp
  have c8 := (q_cul k hk).2.1
  unfold f_X4_spells q_sp
  have ht4 : q_lT cb n p ≤ 4 := by
    unfold q_lT
    split
    · omega
    · split
      · omega
      · split
        · omega
        · split <;> omega
  rw [hA.1, hl]
  by_cases h1 : q_lT cb n p = 1
  · have h4 := hA.2.2.1 (by omega) (by omega)
    rw [h1, if_pos (show nI 1 = 1 from rfl), h4, hA.2.1, q_sub b3]
    simp (disch := omega) only [q_eq]
    have hx := q_tx_eq (cb := cb) (n := n) (p := p) (w := q_wd k)
    by_cases hlen : q_lE cb n p - q_lS cb n p = (q_wd k).length
    · rw [if_pos hlen]
      have key : ∀ m i f, i + m = (q_wd k).length → m < f → ∃ b, l_X4_spells_28 w f (nI i) σ = some (q_b b, σ) ∧ (b = true ↔ ∀ j, i ≤ j → j < (q_wd k).length → cb (q_lS cb n p + j) = (q_wd k).getD j 0) := by
        intro m
        induction m with
        | zero =>
          intro i f h1 h2
          obtain ⟨f, rfl⟩ : ∃ g, f = g + 1 := ⟨f - 1, by omega⟩
          rw [l_X4_spells_28, hl, if_pos (nI_le (by omega) (by omega))]
          exact ⟨true, rfl, fun _ j h1 h2 => absurd h2 (by omega), fun _ => rfl⟩
        | succ m ih =>
          intro i f h1 h2
          obtain ⟨f, rfl⟩ : ∃ g, f = g + 1 := ⟨f - 1, by omega⟩
          obtain ⟨t1, t2⟩ := hT.2 (q_lS cb n p + i) (by omega)
          have wb := q_wdb k hk i (by omega)
          rw [l_X4_spells_28, hl, if_neg (nI_ge (by omega) (by omega)), hA.2.1, q_add, q_inT (show q_lS cb n p + i < 160 by omega) (by omega), q_inT (show i < (q_wd k).length by omega) (by omega), if_pos rfl, if_pos rfl, q_n (by omega), q_n (by omega), t2, hb i (by omega)]
          simp (disch := omega) only [q_eq]
          by_cases he : cb (q_lS cb n p + i) = (q_wd k).getD i 0
          · rw [if_pos he, show nI i + 1 = nI (i + 1) from nI_1 _]
            obtain ⟨b, g1, g2⟩ := ih (i + 1) f (by omega) (by omega)
            refine ⟨b, g1, g2.trans ⟨fun h j j1 j2 => ?_, fun h j j1 j2 => h j (by omega) j2⟩⟩
            by_cases hj : j = i
            · subst hj; exact he
            · exact h j (by omega) j2
          · rw [if_neg he]
            exact ⟨false, rfl, ⟨fun h => absurd h (by decide), fun h => absurd (h i (by omega) (by omega)) he⟩⟩
      obtain ⟨b, g1, g2⟩ := key (q_wd k).length 0 1000 (by omega) (by omega)
      rw [show nI 0 = 0 from rfl] at g1
      rw [g1]
      have : b = decide (q_tx cb n p = q_wd k) := by
        cases hbb : b
        · symm
          apply decide_eq_false
          intro h
          have := g2.mpr (fun j _ hj => (hx.mp h).2 j hj)
          rw [hbb] at this; cases this
        · symm
          apply decide_eq_true
          exact hx.mpr ⟨hlen, fun j hj => g2.mp hbb j (by omega) hj⟩
      rw [this]; simp
    · rw [if_neg hlen]
      have : decide (q_tx cb n p = q_wd k) = false := decide_eq_false (fun h => hlen (hx.mp h).1)
      rw [this]; rfl
  · rw [if_neg (show ¬ nI (q_lT cb n p) = 1 by rw [show (1 : Int32) = nI 1 from rfl, q_eq (by omega) (by omega)]; exact h1), decide_eq_false h1]; rfl
/-- the reference -/
theorem w_nameHere (hn : n ≤ 160) (hp : p ≤ n) (hT : q_MP cb n σ) (h71 : σ 71 = k_σ0 71) (h72 : σ 72 = k_σ0 72) (h4 : q_lT cb n p ≠ 4) (hA : q_LA cb n p σ) : f_X7_nameHere σ = some (q_e4 (q_fw (q_sp cb n p) 10 0), σ) := by
  obtain ⟨b1, b2, b3, b4, b5⟩ := q_lEn (cb := cb) hp
  obtain ⟨a1, a2⟩ := hA
  rw [if_neg h4] at a2
  obtain ⟨a2, a3, a4, a5⟩ := a2
  have ht4 : q_lT cb n p ≤ 4 := by
    unfold q_lT
    split
    · omega
    · split
      · omega
      · split
        · omega
        · split <;> omega
  have key : ∀ m k f, k + m = 10 → m < f → l_X7_nameHere_2 f (nI k) σ = some (q_e4 (q_fw (q_sp cb n p) m k), σ) := by
    intro m
    induction m with
    | zero =>
      intro k f h1 h2
      obtain ⟨f, rfl⟩ : ∃ g, f = g + 1 := ⟨f - 1, by omega⟩
      obtain rfl : k = 10 := by omega
      rw [l_X7_nameHere_2, if_pos (by decide)]; rfl
    | succ m ih =>
      intro k f h1 h2
      obtain ⟨f, rfl⟩ : ∃ g, f = g + 1 := ⟨f - 1, by omega⟩
      obtain ⟨c1, c2, c3⟩ := q_cul k (by omega)
      have ih' := ih (k + 1) f (by omega) (by omega)
      rw [l_X7_nameHere_2, show (10 : Int32) = nI 10 from rfl, if_neg (nI_ge (by omega) (by omega)), a3]
      by_cases ht : q_lT cb n p = 1
      · have hx := q_tx_eq (cb := cb) (n := n) (p := p) (w := q_wd k)
        rw [ht, if_pos (show nI 1 = 1 from rfl), show nI k + 1 = nI (k + 1) from nI_1 _, q_inT (show k + 1 < 11 by omega) (by omega), q_inT (show k < 11 by omega) (by omega), if_pos rfl, if_pos rfl, q_n (by omega), q_n (by omega), a1, a4, h71, q_71 k (by omega), q_71 (k + 1) (by omega), q_sub b3, q_sub (by omega), c1, show q_cu k + (q_wd k).length - q_cu k = (q_wd k).length by omega]
        simp (disch := omega) only [q_eq]
        unfold j_X7_nameHere_48
        rw [q_fw]
        have no : ∀ f', l_X7_nameHere_51 (fun x1 σ => l_X7_nameHere_2 f x1 σ) (f' + 1) (nI k) 0 = fun (x3 : Int32) σ' => l_X7_nameHere_2 f (nI (k + 1)) σ' := fun f' => by
          funext x3 σ'
          rw [l_X7_nameHere_51, if_pos rfl]
          unfold j_X7_nameHere_106
          rw [if_pos rfl, show nI k + 1 = nI (k + 1) from nI_1 _]
        have spk : q_sp cb n p k = decide (q_tx cb n p = q_wd k) := by unfold q_sp; rw [decide_eq_true ht]; rfl
        rw [spk]
        by_cases hlen : q_lE cb n p - q_lS cb n p = (q_wd k).length
        · rw [if_pos hlen]
          have in51 : ∀ r i f', i + r = (q_wd k).length → r + 1 < f' → (∀ j, j < i → cb (q_lS cb n p + j) = (q_wd k).getD j 0) → l_X7_nameHere_51 (fun x1 σ => l_X7_nameHere_2 f x1 σ) f' (nI k) 1 (nI i) σ = if q_tx cb n p = q_wd k then some (nI k, σ) else l_X7_nameHere_2 f (nI (k + 1)) σ := by
            intro r
            induction r with
            | zero =>
              intro i f' g1 g2 g3
              obtain ⟨f', rfl⟩ : ∃ g, f' = g + 1 := ⟨f' - 1, by omega⟩
              rw [l_X7_nameHere_51, if_neg q_10, a4, a1, q_sub b3, if_pos (nI_le (by omega) (by omega))]
              unfold j_X7_nameHere_106
              rw [if_neg q_10, if_pos (hx.mpr ⟨hlen, fun j hj => g3 j (by omega)⟩)]
            | succ r ihr =>
              intro i f' g1 g2 g3
              obtain ⟨f', rfl⟩ : ∃ g, f' = g + 2 := ⟨f' - 2, by omega⟩
              have wb := q_wdb k (by omega) i (by omega)
              have tb := (hT.2 (q_lS cb n p + i) (by omega)).1
              rw [l_X7_nameHere_51, if_neg q_10, a4, a1, q_sub b3, if_neg (nI_ge (by omega) (by omega)), q_add, w_byteAt hn hT (show q_lS cb n p + i ≤ n by omega), q_bd, if_pos (show q_lS cb n p + i < n by omega), q_inT (show k < 11 by omega) (by omega), if_pos rfl, q_n (by omega), h71, q_71 k (by omega), q_add, q_inT (show q_cu k + i < 45 by omega) (by omega), if_pos rfl, q_n (by omega), h72, q_72 k (by omega) i (by omega)]
              simp (disch := omega) only [q_eq]
              unfold j_X7_nameHere_99
              rw [show nI i + 1 = nI (i + 1) from nI_1 _]
              by_cases he : cb (q_lS cb n p + i) = (q_wd k).getD i 0
              · rw [if_pos he]
                exact ihr (i + 1) (f' + 1) (by omega) (by omega) (fun j hj => by
                  by_cases hji : j = i
                  · subst hji; exact he
                  · exact g3 j (by omega))
              · rw [if_neg he]
                dsimp only
                rw [no, if_neg (fun h => he ((hx.mp h).2 i (by omega)))]
          have := in51 (q_wd k).length 0 1000 (by omega) (by omega) (fun j hj => absurd hj (by omega))
          rw [show nI 0 = 0 from rfl] at this
          rw [this]
          by_cases he : q_tx cb n p = q_wd k
          · rw [if_pos he, if_pos (decide_eq_true he)]; rfl
          · rw [if_neg he, if_neg (by rw [decide_eq_false he]; decide)]; exact ih'
        · rw [if_neg hlen, no, if_neg (by rw [decide_eq_false (fun h => hlen (hx.mp h).1)]; decide)]
          exact ih'
      · have none' : ∀ m k, q_fw (q_sp cb n p) m k = none := by
          intro m
          induction m with
          | zero => intro k; rfl
          | succ m ih => intro k; rw [q_fw, show q_sp cb n p k = false by unfold q_sp; rw [decide_eq_false ht]; rfl]; exact ih (k + 1)
        rw [if_neg (show ¬ nI (q_lT cb n p) = 1 by rw [show (1 : Int32) = nI 1 from rfl, q_eq (by omega) (by omega)]; exact ht), none']; rfl
  exact key 10 0 1000 (by omega) (by omega)
end
