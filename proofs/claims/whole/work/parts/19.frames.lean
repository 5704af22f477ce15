/-! WHAT A FUNCTION LEAVES ALONE -/
def k_Sm (fp : List Nat) (σ0 σ1 : k_Mem) : Prop := ∀ k, k ∉ fp → σ1 k = σ0 k
def k_Fr {ρ : Type} (fp : List Nat) (σ0 : k_Mem) (X : Option (ρ × k_Mem)) : Prop := ∀ (r : ρ) (σ1 : k_Mem), X = some (r, σ1) → k_Sm fp σ0 σ1
theorem sm_rf {fp : List Nat} {σ : k_Mem} : k_Sm fp σ σ := fun _ _ => rfl
theorem sm_row {fp : List Nat} {σ0 σ1 : k_Mem} {c : Nat} {f : Nat → Int32} (hc : c ∈ fp) (h : k_Sm fp σ0 σ1) : k_Sm fp σ0 (k_mrow σ1 c f) := fun k hk => by
  rw [k_row_ne _ _ (fun e => hk (by rw [e]; exact hc))]
  exact h k hk
theorem sm_set {fp : List Nat} {σ0 σ1 : k_Mem} {c i : Nat} {v : Int32} (hc : c ∈ fp) (h : k_Sm fp σ0 σ1) : k_Sm fp σ0 (k_mset σ1 c i v) := sm_row hc h
theorem k_sub {fp fp1 : List Nat} (h : ∀ c ∈ fp1, c ∈ fp) : ∀ k, k ∉ fp → k ∉ fp1 := fun k hk h1 => hk (h k h1)
section FR
variable {ρ : Type} {fp fp1 : List Nat} {σ0 σ1 : k_Mem} {X A B : Option (ρ × k_Mem)}
theorem fr_some {v : ρ} (h : k_Sm fp σ0 σ1) : k_Fr fp σ0 (some (v, σ1)) := fun r σ' e => by cases e; exact h
theorem fr_none : k_Fr fp σ0 (none : Option (ρ × k_Mem)) := fun r σ' e => by cases e
theorem fr_ite {P : Prop} [Decidable P] (a : P → k_Fr fp σ0 A) (b : ¬ P → k_Fr fp σ0 B) : k_Fr fp σ0 (if P then A else B) := by
  by_cases h : P
  · rw [if_pos h]; exact a h
  · rw [if_neg h]; exact b h
theorem fr_bd {α : Type} {Y : Option (α × k_Mem)} {K : α → k_Mem → Option (ρ × k_Mem)} (hs : k_Sm fp σ0 σ1) (hY : k_Fr fp1 σ1 Y) (hm : ∀ k, k ∉ fp → k ∉ fp1) (hK : ∀ (r : α) (σ2 : k_Mem), k_Sm fp σ0 σ2 → k_Fr fp σ0 (K r σ2)) : k_Fr fp σ0 (k_bd Y K) := by
  intro r σ' e
  obtain ⟨r1, σ2, h1, h2⟩ := k_bd_some e
  exact hK r1 σ2 (fun k hk => (hY r1 σ2 h1 k (hm k hk)).trans (hs k hk)) r σ' h2
theorem fr_to (hs : k_Sm fp σ0 σ1) (hX : k_Fr fp1 σ1 X) (hm : ∀ k, k ∉ fp → k ∉ fp1) : k_Fr fp σ0 X := fun r σ' e k hk => (hX r σ' e k (hm k hk)).trans (hs k hk)
theorem fr_ct {s : k_Mem} {K : k_Mem → Option (ρ × k_Mem)} (h : k_Fr fp σ0 (K s)) : k_Fr fp σ0 (k_ct s K) := h
theorem fr_lt {α : Type} {x : α} {K : α → Option (ρ × k_Mem)} (h : k_Fr fp σ0 (K x)) : k_Fr fp σ0 (k_lt x K) := h
end FR
theorem k_tout {r : Nat} {fp : List Nat} (h : k_isTb r = true) (hs : ∀ c ∈ [6, 7, 8, 9, 10, 11, 12, 13, 14, 15, 16, 17, 18, 19, 20, 21, 22, 23, 24, 25, 26, 27, 28, 29, 30, 31, 32, 33, 34, 35, 36, 37, 38, 39, 40, 41, 42, 43, 44, 45], c ∈ fp) : ∀ k, k ∉ fp → k ∉ [r, (r + 1), (r + 2), (r + 3), (r + 4), (r + 5), (r + 6), (r + 7)] := by
  refine k_sub (fun c hc => hs c ?_)
  simp only [k_isTb, Bool.or_eq_true, beq_iff_eq] at h
  rcases h with (((h | h) | h) | h) | h <;> subst h <;> revert hc <;> revert c <;> decide
theorem k_sout {r : Nat} {fp : List Nat} (h : k_isSb r = true) (hs : ∀ c ∈ [59, 60, 61, 62, 63, 64, 65, 66], c ∈ fp) : ∀ k, k ∉ fp → k ∉ [r, (r + 1)] := by
  refine k_sub (fun c hc => hs c ?_)
  simp only [k_isSb, Bool.or_eq_true, beq_iff_eq] at h
  rcases h with ((h | h) | h) | h <;> subst h <;> revert hc <;> revert c <;> decide
theorem k_sout1 {r : Nat} {fp : List Nat} (h : k_isSb r = true) (hs : ∀ c ∈ [59, 60, 61, 62, 63, 64, 65, 66], c ∈ fp) : ∀ k, k ∉ fp → k ∉ [(r + 1)] := fun k hk h1 => k_sout h hs k hk (List.mem_cons_of_mem _ h1)

theorem fr_f_J6_bitCount_0f7a4 (x0 : Int32) (σ : k_Mem) : k_Fr [] σ (f_J6_bitCount_0f7a4 x0 σ) := by
  unfold f_J6_bitCount_0f7a4
  refine fr_lt ?_
  exact fr_some sm_rf
theorem fr_l_J7_fill_53178_5 (o0 : Nat) (n0 : Nat) : ∀ (n : Nat) (x1 : Int32) (x2 : Int32) (x3 : Int32) (σ : k_Mem), k_Fr [o0] σ (l_J7_fill_53178_5 o0 n0 n x1 x2 x3 σ) := by
  intro n
  induction n with
  | zero => intro x1 x2 x3 σ; exact fr_none
  | succ n ih =>
    intro x1 x2 x3 σ
    rw [l_J7_fill_53178_5]
    refine fr_ite (fun c1 => ?_) (fun c1 => ?_)
    · exact fr_some sm_rf
    · refine fr_ite (fun c2 => ?_) (fun c2 => ?_)
      · exact fr_to (sm_set (by simp) sm_rf) (ih _ _ _ _) (fun _ h => h)
      · exact fr_none
theorem fr_f_J7_fill_53178 (o0 : Nat) (n0 : Nat) (x1 : Int32) (σ : k_Mem) : k_Fr [o0] σ (f_J7_fill_53178 o0 n0 x1 σ) := by
  unfold f_J7_fill_53178
  exact fr_to sm_rf (fr_l_J7_fill_53178_5 _ _  _ _ _ _ _) (fun _ h => h)
theorem fr_l_X5_clear_2 (b0 : Nat) : ∀ (n : Nat) (x1 : Int32) (σ : k_Mem), k_Fr [b0, (b0 + 5), (b0 + 6), (b0 + 7)] σ (l_X5_clear_2 b0 n x1 σ) := by
  intro n
  induction n with
  | zero => intro x1 σ; exact fr_none
  | succ n ih =>
    intro x1 σ
    rw [l_X5_clear_2]
    refine fr_ite (fun c1 => ?_) (fun c1 => ?_)
    · exact fr_some (sm_set (by simp) (sm_set (by simp) (sm_set (by simp) (sm_set (by simp) sm_rf))))
    · refine fr_ite (fun c2 => ?_) (fun c2 => ?_)
      · refine fr_ite (fun c3 => ?_) (fun c3 => ?_)
        · refine fr_ite (fun c4 => ?_) (fun c4 => ?_)
          · exact fr_to (sm_set (by simp) (sm_set (by simp) (sm_set (by simp) sm_rf))) (ih _ _) (fun _ h => h)
          · exact fr_none
        · exact fr_none
      · exact fr_none
theorem fr_f_X5_clear (b0 : Nat) (σ : k_Mem) : k_Fr [b0, (b0 + 5), (b0 + 6), (b0 + 7)] σ (f_X5_clear b0 σ) := by
  unfold f_X5_clear
  exact fr_to sm_rf (fr_l_X5_clear_2 _  _ _ _) (fun _ h => h)
theorem fr_j_X5_isFull_15 (b0 : Nat) (xs0 : Int32) (σ : k_Mem) : k_Fr [] σ (j_X5_isFull_15 b0 xs0 σ) := by
  unfold j_X5_isFull_15
  refine fr_ite (fun c1 => ?_) (fun c1 => ?_)
  · exact fr_some sm_rf
  · exact fr_some sm_rf
theorem fr_f_X5_isFull (b0 : Nat) (x1 : Int32) (σ : k_Mem) : k_Fr [] σ (f_X5_isFull b0 x1 σ) := by
  unfold f_X5_isFull
  refine fr_ite (fun c1 => ?_) (fun c1 => ?_)
  · exact fr_to sm_rf (fr_j_X5_isFull_15 _ _ _ ) (fun _ h => h)
  · exact fr_to sm_rf (fr_j_X5_isFull_15 _ _ _ ) (fun _ h => h)
theorem fr_j_X5_add_55 (b0 : Nat) (x2 : Int32) (x3 : Int32) (x4 : Int32) (x5 : Int32) (x6 : Int32) (σ : k_Mem) : k_Fr [b0, (b0 + 1), (b0 + 2), (b0 + 3), (b0 + 4)] σ (j_X5_add_55 b0 x2 x3 x4 x5 x6 σ) := by
  unfold j_X5_add_55
  refine fr_ite (fun c1 => ?_) (fun c1 => ?_)
  · refine fr_ite (fun c2 => ?_) (fun c2 => ?_)
    · refine fr_ite (fun c3 => ?_) (fun c3 => ?_)
      · refine fr_ite (fun c4 => ?_) (fun c4 => ?_)
        · exact fr_some (sm_set (by simp) (sm_set (by simp) (sm_set (by simp) (sm_set (by simp) sm_rf))))
        · exact fr_none
      · exact fr_none
    · exact fr_none
  · exact fr_none
theorem fr_j_X5_add_26 (b0 : Nat) (x1 : Int32) (x2 : Int32) (x3 : Int32) (x4 : Int32) (x5 : Int32) (xs0 : Int32) (σ : k_Mem) : k_Fr [b0, (b0 + 1), (b0 + 2), (b0 + 3), (b0 + 4)] σ (j_X5_add_26 b0 x1 x2 x3 x4 x5 xs0 σ) := by
  unfold j_X5_add_26
  refine fr_ite (fun c1 => ?_) (fun c1 => ?_)
  · exact fr_to (sm_set (by simp) sm_rf) (fr_j_X5_add_55 _ _ _ _ _ _ _ ) (fun _ h => h)
  · exact fr_to (sm_set (by simp) sm_rf) (fr_j_X5_add_55 _ _ _ _ _ _ _ ) (fun _ h => h)
theorem fr_f_X5_add (b0 : Nat) (x1 : Int32) (x2 : Int32) (x3 : Int32) (x4 : Int32) (x5 : Int32) (σ : k_Mem) : k_Fr [b0, (b0 + 1), (b0 + 2), (b0 + 3), (b0 + 4)] σ (f_X5_add b0 x1 x2 x3 x4 x5 σ) := by
  unfold f_X5_add
  refine fr_bd sm_rf (fr_f_X5_isFull _ _ _) (fun _ _ => List.not_mem_nil) (fun r1 σ1 hσ1 => ?_)
  refine fr_ite (fun c1 => ?_) (fun c1 => ?_)
  · refine fr_ite (fun c2 => ?_) (fun c2 => ?_)
    · exact fr_to hσ1 (fr_j_X5_add_26 _ _ _ _ _ _ _ _ ) (fun _ h => h)
    · exact fr_to hσ1 (fr_j_X5_add_26 _ _ _ _ _ _ _ _ ) (fun _ h => h)
  · exact fr_some hσ1
theorem fr_f_X5_isRun (b0 : Nat) (x1 : Int32) (σ : k_Mem) : k_Fr [] σ (f_X5_isRun b0 x1 σ) := by
  unfold f_X5_isRun
  refine fr_ite (fun c1 => ?_) (fun c1 => ?_)
  · exact fr_some sm_rf
  · exact fr_some sm_rf
theorem fr_f_X5_withBit (x0 : Int32) (x1 : Int32) (x2 : Int32) (σ : k_Mem) : k_Fr [] σ (f_X5_withBit x0 x1 x2 σ) := by
  unfold f_X5_withBit
  refine fr_ite (fun c1 => ?_) (fun c1 => ?_)
  · exact fr_some sm_rf
  · exact fr_some sm_rf
theorem fr_f_X5_setRun (b0 : Nat) (x1 : Int32) (x2 : Int32) (σ : k_Mem) : k_Fr [b0] σ (f_X5_setRun b0 x1 x2 σ) := by
  unfold f_X5_setRun
  refine fr_bd sm_rf (fr_f_X5_withBit _ _ _ _) (fun _ _ => List.not_mem_nil) (fun r1 σ1 hσ1 => ?_)
  exact fr_some (sm_set (by simp) hσ1)
theorem fr_f_X5_areFolded (b0 : Nat) (x1 : Int32) (x2 : Int32) (σ : k_Mem) : k_Fr [] σ (f_X5_areFolded b0 x1 x2 σ) := by
  unfold f_X5_areFolded
  refine fr_ite (fun c1 => ?_) (fun c1 => ?_)
  · refine fr_ite (fun c2 => ?_) (fun c2 => ?_)
    · exact fr_some sm_rf
    · exact fr_some sm_rf
  · exact fr_none
theorem fr_f_X5_setFolded (b0 : Nat) (x1 : Int32) (x2 : Int32) (x3 : Int32) (σ : k_Mem) : k_Fr [(b0 + 7)] σ (f_X5_setFolded b0 x1 x2 x3 σ) := by
  unfold f_X5_setFolded
  refine fr_ite (fun c1 => ?_) (fun c1 => ?_)
  · refine fr_bd sm_rf (fr_f_X5_withBit _ _ _ _) (fun _ _ => List.not_mem_nil) (fun r1 σ1 hσ1 => ?_)
    refine fr_ite (fun c2 => ?_) (fun c2 => ?_)
    · refine fr_ite (fun c3 => ?_) (fun c3 => ?_)
      · refine fr_bd (sm_set (by simp) hσ1) (fr_f_X5_withBit _ _ _ _) (fun _ _ => List.not_mem_nil) (fun r2 σ2 hσ2 => ?_)
        refine fr_ite (fun c4 => ?_) (fun c4 => ?_)
        · exact fr_some (sm_set (by simp) hσ2)
        · exact fr_none
      · exact fr_none
    · exact fr_none
  · exact fr_none
theorem fr_f_X5_isWed (b0 : Nat) (x1 : Int32) (σ : k_Mem) : k_Fr [] σ (f_X5_isWed b0 x1 σ) := by
  unfold f_X5_isWed
  refine fr_ite (fun c1 => ?_) (fun c1 => ?_)
  · refine fr_ite (fun c2 => ?_) (fun c2 => ?_)
    · exact fr_some sm_rf
    · exact fr_some sm_rf
  · exact fr_none
theorem fr_f_X5_join (b0 : Nat) (x1 : Int32) (x2 : Int32) (σ : k_Mem) : k_Fr [(b0 + 6)] σ (f_X5_join b0 x1 x2 σ) := by
  unfold f_X5_join
  refine fr_ite (fun c1 => ?_) (fun c1 => ?_)
  · refine fr_ite (fun c2 => ?_) (fun c2 => ?_)
    · exact fr_some (sm_set (by simp) (sm_set (by simp) sm_rf))
    · exact fr_none
  · exact fr_none
theorem fr_j_X5_wedBits_24 (b0 : Nat) (k4 : Int32 → Int32 → k_Mem → Option (Int32 × k_Mem)) (x1 : Int32) (x2 : Int32) (σ : k_Mem) (hk4 : ∀ (a0 : Int32) (a1 : Int32) (a2 : k_Mem), k_Fr [] a2 (k4 a0 a1 a2)) : k_Fr [] σ (j_X5_wedBits_24 b0 k4 x1 x2 σ) := by
  unfold j_X5_wedBits_24
  exact fr_to sm_rf (hk4 _ _ _) (fun _ h => h)
theorem fr_l_X5_wedBits_4 (b0 : Nat) : ∀ (n : Nat) (x1 : Int32) (x2 : Int32) (σ : k_Mem), k_Fr [] σ (l_X5_wedBits_4 b0 n x1 x2 σ) := by
  intro n
  induction n with
  | zero => intro x1 x2 σ; exact fr_none
  | succ n ih =>
    intro x1 x2 σ
    rw [l_X5_wedBits_4]
    refine fr_ite (fun c1 => ?_) (fun c1 => ?_)
    · exact fr_some sm_rf
    · refine fr_bd sm_rf (fr_f_X5_isWed _ _ _) (fun _ _ => List.not_mem_nil) (fun r2 σ2 hσ2 => ?_)
      refine fr_ite (fun c2 => ?_) (fun c2 => ?_)
      · exact fr_to hσ2 (fr_j_X5_wedBits_24 _ _ _ _ _ (fun x1 x2 σ => ih x1 x2 σ)) (fun _ h => h)
      · exact fr_to hσ2 (fr_j_X5_wedBits_24 _ _ _ _ _ (fun x1 x2 σ => ih x1 x2 σ)) (fun _ h => h)
theorem fr_f_X5_wedBits (b0 : Nat) (σ : k_Mem) : k_Fr [] σ (f_X5_wedBits b0 σ) := by
  unfold f_X5_wedBits
  exact fr_to sm_rf (fr_l_X5_wedBits_4 _  _ _ _ _) (fun _ h => h)
theorem fr_f_X5_handBits (b0 : Nat) (σ : k_Mem) : k_Fr [] σ (f_X5_handBits b0 σ) := by
  unfold f_X5_handBits
  exact fr_some sm_rf
theorem fr_f_X5_become (b0 : Nat) (b1 : Nat) (σ : k_Mem) : k_Fr [b0, (b0 + 1), (b0 + 2), (b0 + 3), (b0 + 4), (b0 + 5), (b0 + 6), (b0 + 7)] σ (f_X5_become b0 b1 σ) := by
  unfold f_X5_become
  refine fr_ite (fun c1 => ?_) (fun c1 => ?_)
  · refine fr_ite (fun c2 => ?_) (fun c2 => ?_)
    · refine fr_ct ?_
      refine fr_ite (fun c3 => ?_) (fun c3 => ?_)
      · refine fr_ite (fun c4 => ?_) (fun c4 => ?_)
        · refine fr_ct ?_
          refine fr_ite (fun c5 => ?_) (fun c5 => ?_)
          · refine fr_ite (fun c6 => ?_) (fun c6 => ?_)
            · refine fr_ct ?_
              refine fr_ite (fun c7 => ?_) (fun c7 => ?_)
              · refine fr_ct ?_
                refine fr_ct ?_
                exact fr_some (sm_set (by simp) (sm_set (by simp) (sm_set (by simp) (sm_set (by simp) (sm_row (by simp) (sm_row (by simp) (sm_row (by simp) (sm_row (by simp) (sm_row (by simp) (sm_row (by simp) (sm_row (by simp) sm_rf)))))))))))
              · exact fr_none
            · exact fr_none
          · exact fr_none
        · exact fr_none
      · exact fr_none
    · exact fr_none
  · exact fr_none
theorem fr_j_X5_isHand_12 (b0 : Nat) (x1 : Int32) (σ : k_Mem) : k_Fr [] σ (j_X5_isHand_12 b0 x1 σ) := by
  unfold j_X5_isHand_12
  refine fr_ite (fun c1 => ?_) (fun c1 => ?_)
  · exact fr_some sm_rf
  · refine fr_ite (fun c2 => ?_) (fun c2 => ?_)
    · exact fr_some sm_rf
    · exact fr_some sm_rf
theorem fr_f_X5_isHand (b0 : Nat) (x1 : Int32) (σ : k_Mem) : k_Fr [] σ (f_X5_isHand b0 x1 σ) := by
  unfold f_X5_isHand
  refine fr_ite (fun c1 => ?_) (fun c1 => ?_)
  · exact fr_to sm_rf (fr_j_X5_isHand_12 _ _ _ ) (fun _ h => h)
  · refine fr_ite (fun c2 => ?_) (fun c2 => ?_)
    · exact fr_some sm_rf
    · exact fr_to sm_rf (fr_j_X5_isHand_12 _ _ _ ) (fun _ h => h)
theorem fr_j_X5_sameSide_20 (xs0 : Int32) (xs1 : Int32) (σ : k_Mem) : k_Fr [] σ (j_X5_sameSide_20 xs0 xs1 σ) := by
  unfold j_X5_sameSide_20
  refine fr_ite (fun c1 => ?_) (fun c1 => ?_)
  · exact fr_some sm_rf
  · exact fr_some sm_rf
theorem fr_j_X5_sameSide_10 (x1 : Int32) (xs0 : Int32) (σ : k_Mem) : k_Fr [] σ (j_X5_sameSide_10 x1 xs0 σ) := by
  unfold j_X5_sameSide_10
  refine fr_ite (fun c1 => ?_) (fun c1 => ?_)
  · exact fr_to sm_rf (fr_j_X5_sameSide_20 _ _ _ ) (fun _ h => h)
  · exact fr_to sm_rf (fr_j_X5_sameSide_20 _ _ _ ) (fun _ h => h)
theorem fr_f_X5_sameSide (x0 : Int32) (x1 : Int32) (σ : k_Mem) : k_Fr [] σ (f_X5_sameSide x0 x1 σ) := by
  unfold f_X5_sameSide
  refine fr_ite (fun c1 => ?_) (fun c1 => ?_)
  · exact fr_to sm_rf (fr_j_X5_sameSide_10 _ _ _ ) (fun _ h => h)
  · exact fr_to sm_rf (fr_j_X5_sameSide_10 _ _ _ ) (fun _ h => h)
theorem fr_j_X5_runsWith_34 (b0 : Nat) (x1 : Int32) (σ : k_Mem) : k_Fr [] σ (j_X5_runsWith_34 b0 x1 σ) := by
  unfold j_X5_runsWith_34
  refine fr_bd sm_rf (fr_f_X5_isRun _ _ _) (fun _ _ => List.not_mem_nil) (fun r3 σ3 hσ3 => ?_)
  refine fr_ite (fun c1 => ?_) (fun c1 => ?_)
  · exact fr_some hσ3
  · refine fr_bd hσ3 (fr_f_X5_isHand _ _ _) (fun _ _ => List.not_mem_nil) (fun r5 σ5 hσ5 => ?_)
    refine fr_ite (fun c2 => ?_) (fun c2 => ?_)
    · exact fr_some hσ5
    · refine fr_bd hσ5 (fr_f_X5_sameSide _ _ _) (fun _ _ => List.not_mem_nil) (fun r7 σ7 hσ7 => ?_)
      refine fr_ite (fun c3 => ?_) (fun c3 => ?_)
      · exact fr_some hσ7
      · exact fr_some hσ7
theorem fr_f_X5_runsWith (b0 : Nat) (x1 : Int32) (σ : k_Mem) : k_Fr [] σ (f_X5_runsWith b0 x1 σ) := by
  unfold f_X5_runsWith
  refine fr_bd sm_rf (fr_f_X5_isHand _ _ _) (fun _ _ => List.not_mem_nil) (fun r1 σ1 hσ1 => ?_)
  refine fr_ite (fun c1 => ?_) (fun c1 => ?_)
  · exact fr_to hσ1 (fr_j_X5_runsWith_34 _ _ _ ) (fun _ h => h)
  · refine fr_bd hσ1 (fr_f_X5_sameSide _ _ _) (fun _ _ => List.not_mem_nil) (fun r9 σ9 hσ9 => ?_)
    refine fr_ite (fun c2 => ?_) (fun c2 => ?_)
    · exact fr_to hσ9 (fr_j_X5_runsWith_34 _ _ _ ) (fun _ h => h)
    · refine fr_bd hσ9 (fr_f_X5_isRun _ _ _) (fun _ _ => List.not_mem_nil) (fun r11 σ11 hσ11 => ?_)
      refine fr_ite (fun c3 => ?_) (fun c3 => ?_)
      · exact fr_to hσ11 (fr_j_X5_runsWith_34 _ _ _ ) (fun _ h => h)
      · exact fr_some hσ11
theorem fr_j_X5_shows_32 (b0 : Nat) (x1 : Int32) (os0_ : Nat) (σ : k_Mem) : k_Fr [] σ (j_X5_shows_32 b0 x1 os0_ σ) := by
  unfold j_X5_shows_32
  refine fr_bd sm_rf (fr_f_X5_runsWith _ _ _) (fun _ _ => List.not_mem_nil) (fun r3 σ3 hσ3 => ?_)
  refine fr_ite (fun c1 => ?_) (fun c1 => ?_)
  · refine fr_ite (fun c2 => ?_) (fun c2 => ?_)
    · refine fr_ite (fun c3 => ?_) (fun c3 => ?_)
      · exact fr_some hσ3
      · refine fr_ite (fun c4 => ?_) (fun c4 => ?_)
        · refine fr_ite (fun c5 => ?_) (fun c5 => ?_)
          · exact fr_some hσ3
          · exact fr_none
        · exact fr_none
    · exact fr_none
  · exact fr_none
theorem fr_f_X5_shows (b0 : Nat) (x1 : Int32) (x2 : Int32) (σ : k_Mem) : k_Fr [] σ (f_X5_shows b0 x1 x2 σ) := by
  unfold f_X5_shows
  refine fr_ite (fun c1 => ?_) (fun c1 => ?_)
  · refine fr_ite (fun c2 => ?_) (fun c2 => ?_)
    · refine fr_ite (fun c3 => ?_) (fun c3 => ?_)
      · exact fr_some sm_rf
      · exact fr_none
    · exact fr_none
  · refine fr_ite (fun c4 => ?_) (fun c4 => ?_)
    · exact fr_to sm_rf (fr_j_X5_shows_32 _ _ _ _ ) (fun _ h => h)
    · exact fr_to sm_rf (fr_j_X5_shows_32 _ _ _ _ ) (fun _ h => h)
theorem fr_f_X5_isLeft (b0 : Nat) (x1 : Int32) (σ : k_Mem) : k_Fr [] σ (f_X5_isLeft b0 x1 σ) := by
  unfold f_X5_isLeft
  refine fr_ite (fun c1 => ?_) (fun c1 => ?_)
  · exact fr_some sm_rf
  · refine fr_ite (fun c2 => ?_) (fun c2 => ?_)
    · exact fr_some sm_rf
    · exact fr_some sm_rf
theorem fr_f_X5_isRight (b0 : Nat) (x1 : Int32) (σ : k_Mem) : k_Fr [] σ (f_X5_isRight b0 x1 σ) := by
  unfold f_X5_isRight
  refine fr_ite (fun c1 => ?_) (fun c1 => ?_)
  · exact fr_some sm_rf
  · refine fr_ite (fun c2 => ?_) (fun c2 => ?_)
    · exact fr_some sm_rf
    · exact fr_some sm_rf
theorem fr_f_X5_couples (b0 : Nat) (σ : k_Mem) : k_Fr [] σ (f_X5_couples b0 σ) := by
  unfold f_X5_couples
  refine fr_bd sm_rf (fr_f_X5_wedBits _ _) (fun _ _ => List.not_mem_nil) (fun r1 σ1 hσ1 => ?_)
  refine fr_bd hσ1 (fr_f_J6_bitCount_0f7a4 _ _) (fun _ _ => List.not_mem_nil) (fun r2 σ2 hσ2 => ?_)
  exact fr_some hσ2
theorem fr_f_X5_divorce (b0 : Nat) (x1 : Int32) (x2 : Int32) (σ : k_Mem) : k_Fr [(b0 + 6)] σ (f_X5_divorce b0 x1 x2 σ) := by
  unfold f_X5_divorce
  refine fr_ite (fun c1 => ?_) (fun c1 => ?_)
  · refine fr_ite (fun c2 => ?_) (fun c2 => ?_)
    · exact fr_some (sm_set (by simp) (sm_set (by simp) sm_rf))
    · exact fr_none
  · exact fr_none
theorem fr_j_X5_comeNearer_25 (o0 : Nat) (n0 : Nat) (x3 : Int32) (xs0 : Int32) (σ : k_Mem) : k_Fr [o0] σ (j_X5_comeNearer_25 o0 n0 x3 xs0 σ) := by
  unfold j_X5_comeNearer_25
  refine fr_ite (fun c1 => ?_) (fun c1 => ?_)
  · refine fr_ite (fun c2 => ?_) (fun c2 => ?_)
    · refine fr_ite (fun c3 => ?_) (fun c3 => ?_)
      · refine fr_ite (fun c4 => ?_) (fun c4 => ?_)
        · refine fr_ite (fun c5 => ?_) (fun c5 => ?_)
          · refine fr_ite (fun c6 => ?_) (fun c6 => ?_)
            · exact fr_some (sm_set (by simp) sm_rf)
            · exact fr_none
          · exact fr_none
        · exact fr_some sm_rf
      · refine fr_ite (fun c7 => ?_) (fun c7 => ?_)
        · refine fr_ite (fun c8 => ?_) (fun c8 => ?_)
          · refine fr_ite (fun c9 => ?_) (fun c9 => ?_)
            · refine fr_ite (fun c10 => ?_) (fun c10 => ?_)
              · exact fr_some (sm_set (by simp) (sm_set (by simp) sm_rf))
              · exact fr_none
            · exact fr_none
          · exact fr_none
        · exact fr_none
    · exact fr_none
  · exact fr_none
theorem fr_j_X5_comeNearer_14 (o0 : Nat) (n0 : Nat) (x1 : Int32) (x2 : Int32) (xs0 : Int32) (σ : k_Mem) : k_Fr [o0] σ (j_X5_comeNearer_14 o0 n0 x1 x2 xs0 σ) := by
  unfold j_X5_comeNearer_14
  refine fr_ite (fun c1 => ?_) (fun c1 => ?_)
  · exact fr_to sm_rf (fr_j_X5_comeNearer_25 _ _ _ _ _ ) (fun _ h => h)
  · exact fr_to sm_rf (fr_j_X5_comeNearer_25 _ _ _ _ _ ) (fun _ h => h)
theorem fr_f_X5_comeNearer (o0 : Nat) (n0 : Nat) (x1 : Int32) (x2 : Int32) (σ : k_Mem) : k_Fr [o0] σ (f_X5_comeNearer o0 n0 x1 x2 σ) := by
  unfold f_X5_comeNearer
  refine fr_ite (fun c1 => ?_) (fun c1 => ?_)
  · refine fr_ite (fun c2 => ?_) (fun c2 => ?_)
    · refine fr_ite (fun c3 => ?_) (fun c3 => ?_)
      · exact fr_to sm_rf (fr_j_X5_comeNearer_14 _ _ _ _ _ _ ) (fun _ h => h)
      · exact fr_to sm_rf (fr_j_X5_comeNearer_14 _ _ _ _ _ _ ) (fun _ h => h)
    · exact fr_none
  · exact fr_none
theorem fr_j_X5_passYear_43 (b0 : Nat) (k2 : Int32 → k_Mem → Option (Unit × k_Mem)) (x1 : Int32) (σ : k_Mem) (hk2 : ∀ (a0 : Int32) (a1 : k_Mem), k_Fr [b0, (b0 + 2), (b0 + 3)] a1 (k2 a0 a1)) : k_Fr [b0, (b0 + 2), (b0 + 3)] σ (j_X5_passYear_43 b0 k2 x1 σ) := by
  unfold j_X5_passYear_43
  exact fr_to sm_rf (hk2 _ _) (fun _ h => h)
theorem fr_l_X5_passYear_2 (b0 : Nat) : ∀ (n : Nat) (x1 : Int32) (σ : k_Mem), k_Fr [b0, (b0 + 2), (b0 + 3)] σ (l_X5_passYear_2 b0 n x1 σ) := by
  intro n
  induction n with
  | zero => intro x1 σ; exact fr_none
  | succ n ih =>
    intro x1 σ
    rw [l_X5_passYear_2]
    refine fr_ite (fun c1 => ?_) (fun c1 => ?_)
    · exact fr_some (sm_set (by simp) sm_rf)
    · refine fr_bd sm_rf (fr_f_X5_isWed _ _ _) (fun _ _ => List.not_mem_nil) (fun r2 σ2 hσ2 => ?_)
      refine fr_ite (fun c2 => ?_) (fun c2 => ?_)
      · exact fr_to hσ2 (fr_j_X5_passYear_43 _ _ _ _ (fun x1 σ => ih x1 σ)) (fun _ h => h)
      · refine fr_ite (fun c3 => ?_) (fun c3 => ?_)
        · refine fr_bd hσ2 (fr_f_X5_comeNearer _ _ _ _ _) (k_sub (by simp)) (fun _ σ4 hσ4 => ?_)
          refine fr_ite (fun c4 => ?_) (fun c4 => ?_)
          · refine fr_bd hσ4 (fr_f_X5_comeNearer _ _ _ _ _) (k_sub (by simp)) (fun _ σ5 hσ5 => ?_)
            exact fr_to hσ5 (fr_j_X5_passYear_43 _ _ _ _ (fun x1 σ => ih x1 σ)) (fun _ h => h)
          · exact fr_none
        · exact fr_none
theorem fr_f_X5_passYear (b0 : Nat) (σ : k_Mem) : k_Fr [b0, (b0 + 2), (b0 + 3)] σ (f_X5_passYear b0 σ) := by
  unfold f_X5_passYear
  exact fr_to sm_rf (fr_l_X5_passYear_2 _  _ _ _) (fun _ h => h)
theorem fr_f_X5_unlike (b0 : Nat) (x1 : Int32) (x2 : Int32) (σ : k_Mem) : k_Fr [] σ (f_X5_unlike b0 x1 x2 σ) := by
  unfold f_X5_unlike
  refine fr_ite (fun c1 => ?_) (fun c1 => ?_)
  · refine fr_ite (fun c2 => ?_) (fun c2 => ?_)
    · refine fr_ite (fun c3 => ?_) (fun c3 => ?_)
      · refine fr_ite (fun c4 => ?_) (fun c4 => ?_)
        · exact fr_some sm_rf
        · exact fr_none
      · exact fr_none
    · exact fr_none
  · exact fr_none
theorem fr_j_X5_couplesAlike_31 (b0 : Nat) (k2 : Int32 → k_Mem → Option (Int32 × k_Mem)) (x1 : Int32) (σ : k_Mem) (hk2 : ∀ (a0 : Int32) (a1 : k_Mem), k_Fr [] a1 (k2 a0 a1)) : k_Fr [] σ (j_X5_couplesAlike_31 b0 k2 x1 σ) := by
  unfold j_X5_couplesAlike_31
  exact fr_to sm_rf (hk2 _ _) (fun _ h => h)
theorem fr_l_X5_couplesAlike_2 (b0 : Nat) : ∀ (n : Nat) (x1 : Int32) (σ : k_Mem), k_Fr [] σ (l_X5_couplesAlike_2 b0 n x1 σ) := by
  intro n
  induction n with
  | zero => intro x1 σ; exact fr_none
  | succ n ih =>
    intro x1 σ
    rw [l_X5_couplesAlike_2]
    refine fr_ite (fun c1 => ?_) (fun c1 => ?_)
    · exact fr_some sm_rf
    · refine fr_bd sm_rf (fr_f_X5_isWed _ _ _) (fun _ _ => List.not_mem_nil) (fun r2 σ2 hσ2 => ?_)
      refine fr_ite (fun c2 => ?_) (fun c2 => ?_)
      · exact fr_to hσ2 (fr_j_X5_couplesAlike_31 _ _ _ _ (fun x1 σ => ih x1 σ)) (fun _ h => h)
      · refine fr_ite (fun c3 => ?_) (fun c3 => ?_)
        · refine fr_bd hσ2 (fr_f_X5_unlike _ _ _ _) (fun _ _ => List.not_mem_nil) (fun r4 σ4 hσ4 => ?_)
          refine fr_ite (fun c4 => ?_) (fun c4 => ?_)
          · exact fr_to hσ4 (fr_j_X5_couplesAlike_31 _ _ _ _ (fun x1 σ => ih x1 σ)) (fun _ h => h)
          · exact fr_some hσ4
        · exact fr_none
theorem fr_f_X5_couplesAlike (b0 : Nat) (σ : k_Mem) : k_Fr [] σ (f_X5_couplesAlike b0 σ) := by
  unfold f_X5_couplesAlike
  exact fr_to sm_rf (fr_l_X5_couplesAlike_2 _  _ _ _) (fun _ h => h)
theorem fr_f_X5_swapPens (b0 : Nat) (x1 : Int32) (x2 : Int32) (σ : k_Mem) : k_Fr [(b0 + 5)] σ (f_X5_swapPens b0 x1 x2 σ) := by
  unfold f_X5_swapPens
  refine fr_ite (fun c1 => ?_) (fun c1 => ?_)
  · refine fr_ite (fun c2 => ?_) (fun c2 => ?_)
    · refine fr_ite (fun c3 => ?_) (fun c3 => ?_)
      · refine fr_ite (fun c4 => ?_) (fun c4 => ?_)
        · exact fr_some (sm_set (by simp) (sm_set (by simp) sm_rf))
        · exact fr_none
      · exact fr_none
    · exact fr_none
  · exact fr_none
theorem fr_f_X5_size (b0 : Nat) (σ : k_Mem) : k_Fr [] σ (f_X5_size b0 σ) := by
  unfold f_X5_size
  exact fr_some sm_rf
theorem fr_f_X5_byOrder (b0 : Nat) (x1 : Int32) (σ : k_Mem) : k_Fr [] σ (f_X5_byOrder b0 x1 σ) := by
  unfold f_X5_byOrder
  refine fr_ite (fun c1 => ?_) (fun c1 => ?_)
  · exact fr_some sm_rf
  · exact fr_some sm_rf
theorem fr_l_X5_foldings_4 (b0 : Nat) : ∀ (n : Nat) (x1 : Int32) (x2 : Int32) (σ : k_Mem), k_Fr [] σ (l_X5_foldings_4 b0 n x1 x2 σ) := by
  intro n
  induction n with
  | zero => intro x1 x2 σ; exact fr_none
  | succ n ih =>
    intro x1 x2 σ
    rw [l_X5_foldings_4]
    refine fr_ite (fun c1 => ?_) (fun c1 => ?_)
    · exact fr_some sm_rf
    · refine fr_ite (fun c2 => ?_) (fun c2 => ?_)
      · refine fr_bd sm_rf (fr_f_J6_bitCount_0f7a4 _ _) (fun _ _ => List.not_mem_nil) (fun r2 σ2 hσ2 => ?_)
        exact fr_to hσ2 (ih _ _ _) (fun _ h => h)
      · exact fr_none
theorem fr_f_X5_foldings (b0 : Nat) (σ : k_Mem) : k_Fr [] σ (f_X5_foldings b0 σ) := by
  unfold f_X5_foldings
  exact fr_to sm_rf (fr_l_X5_foldings_4 _  _ _ _ _) (fun _ h => h)
theorem fr_f_X4_put (x1 : Int32) (σ : k_Mem) : k_Fr [1, 2] σ (f_X4_put x1 σ) := by
  unfold f_X4_put
  refine fr_ite (fun c1 => ?_) (fun c1 => ?_)
  · refine fr_ite (fun c2 => ?_) (fun c2 => ?_)
    · refine fr_ct ?_
      exact fr_some (sm_set (by decide) (sm_set (by decide) sm_rf))
    · exact fr_none
  · exact fr_some sm_rf
theorem fr_f_X4_rewind (σ : k_Mem) : k_Fr [1] σ (f_X4_rewind σ) := by
  unfold f_X4_rewind
  exact fr_some (sm_set (by decide) (sm_set (by decide) (sm_set (by decide) sm_rf)))
theorem fr_l_X4_runEnd_3  : ∀ (n : Nat) (x2 : Int32) (x3 : Int32) (x4 : Int32) (σ : k_Mem), k_Fr [] σ (l_X4_runEnd_3  n x2 x3 x4 σ) := by
  intro n
  induction n with
  | zero => intro x2 x3 x4 σ; exact fr_none
  | succ n ih =>
    intro x2 x3 x4 σ
    rw [l_X4_runEnd_3]
    refine fr_ite (fun c1 => ?_) (fun c1 => ?_)
    · exact fr_some sm_rf
    · refine fr_ite (fun c2 => ?_) (fun c2 => ?_)
      · refine fr_ite (fun c3 => ?_) (fun c3 => ?_)
        · exact fr_some sm_rf
        · refine fr_ite (fun c4 => ?_) (fun c4 => ?_)
          · refine fr_ite (fun c5 => ?_) (fun c5 => ?_)
            · exact fr_some sm_rf
            · exact fr_to sm_rf (ih _ _ _ _) (fun _ h => h)
          · exact fr_none
      · exact fr_none
theorem fr_f_X4_runEnd (x1 : Int32) (x2 : Int32) (x3 : Int32) (σ : k_Mem) : k_Fr [] σ (f_X4_runEnd x1 x2 x3 σ) := by
  unfold f_X4_runEnd
  exact fr_to sm_rf (fr_l_X4_runEnd_3   _ _ _ _ _) (fun _ h => h)
theorem fr_l_X4_takeNumber_47  : ∀ (n : Nat) (x2 : Int32) (σ : k_Mem), k_Fr [1] σ (l_X4_takeNumber_47  n x2 σ) := by
  intro n
  induction n with
  | zero => intro x2 σ; exact fr_none
  | succ n ih =>
    intro x2 σ
    rw [l_X4_takeNumber_47]
    refine fr_ite (fun c1 => ?_) (fun c1 => ?_)
    · exact fr_some sm_rf
    · refine fr_ite (fun c2 => ?_) (fun c2 => ?_)
      · exact fr_to (sm_set (by decide) sm_rf) (ih _ _) (fun _ h => h)
      · exact fr_none
theorem fr_j_X4_takeNumber_26 (xs1 : Int32) (σ : k_Mem) : k_Fr [1] σ (j_X4_takeNumber_26 xs1 σ) := by
  unfold j_X4_takeNumber_26
  refine fr_ite (fun c1 => ?_) (fun c1 => ?_)
  · exact fr_to (sm_set (by decide) (sm_set (by decide) sm_rf)) (fr_l_X4_takeNumber_47   _ _ _) (fun _ h => h)
  · exact fr_some (sm_set (by decide) (sm_set (by decide) sm_rf))
theorem fr_j_X4_takeNumber_21 (σ : k_Mem) : k_Fr [1] σ (j_X4_takeNumber_21 σ) := by
  unfold j_X4_takeNumber_21
  exact fr_to sm_rf (fr_j_X4_takeNumber_26 _ _ ) (fun _ h => h)
theorem fr_f_X4_takeNumber (σ : k_Mem) : k_Fr [1] σ (f_X4_takeNumber σ) := by
  unfold f_X4_takeNumber
  refine fr_ite (fun c1 => ?_) (fun c1 => ?_)
  · exact fr_to sm_rf (fr_j_X4_takeNumber_21 _ ) (fun _ h => h)
  · refine fr_ite (fun c2 => ?_) (fun c2 => ?_)
    · exact fr_to sm_rf (fr_j_X4_takeNumber_21 _ ) (fun _ h => h)
    · exact fr_to sm_rf (fr_j_X4_takeNumber_26 _ _ ) (fun _ h => h)
theorem fr_f_X4_advance (σ : k_Mem) : k_Fr [1] σ (f_X4_advance σ) := by
  unfold f_X4_advance
  refine fr_bd sm_rf (fr_f_X4_runEnd _ _ _ _) (fun _ _ => List.not_mem_nil) (fun r1 σ1 hσ1 => ?_)
  refine fr_ite (fun c1 => ?_) (fun c1 => ?_)
  · refine fr_ite (fun c2 => ?_) (fun c2 => ?_)
    · refine fr_ite (fun c3 => ?_) (fun c3 => ?_)
      · exact fr_some (sm_set (by decide) (sm_set (by decide) (sm_set (by decide) hσ1)))
      · refine fr_bd (sm_set (by decide) hσ1) (fr_f_X4_runEnd _ _ _ _) (fun _ _ => List.not_mem_nil) (fun r4 σ4 hσ4 => ?_)
        refine fr_ite (fun c4 => ?_) (fun c4 => ?_)
        · refine fr_bd hσ4 (fr_f_X4_runEnd _ _ _ _) (fun _ _ => List.not_mem_nil) (fun r6 σ6 hσ6 => ?_)
          refine fr_bd (sm_set (by decide) hσ6) (fr_f_X4_takeNumber _) (fun _ h => h) (fun _ σ7 hσ7 => ?_)
          exact fr_some hσ7
        · refine fr_bd (sm_set (by decide) hσ4) (fr_f_X4_runEnd _ _ _ _) (fun _ _ => List.not_mem_nil) (fun r8 σ8 hσ8 => ?_)
          exact fr_some (sm_set (by decide) hσ8)
    · exact fr_none
  · exact fr_some (sm_set (by decide) (sm_set (by decide) hσ1))
theorem fr_f_X1_refuse (x1 : Int32) (σ : k_Mem) : k_Fr [3] σ (f_X1_refuse x1 σ) := by
  unfold f_X1_refuse
  exact fr_some (sm_set (by decide) (sm_set (by decide) sm_rf))
theorem fr_f_X1_stands (x1 : Int32) (σ : k_Mem) : k_Fr [3] σ (f_X1_stands x1 σ) := by
  unfold f_X1_stands
  refine fr_ite (fun c1 => ?_) (fun c1 => ?_)
  · refine fr_bd sm_rf (fr_f_X1_refuse _ _) (fun _ h => h) (fun r2 σ2 hσ2 => ?_)
    refine fr_ite (fun c2 => ?_) (fun c2 => ?_)
    · exact fr_some hσ2
    · exact fr_none
  · refine fr_ite (fun c3 => ?_) (fun c3 => ?_)
    · exact fr_some sm_rf
    · refine fr_bd sm_rf (fr_f_X1_refuse _ _) (fun _ h => h) (fun r5 σ5 hσ5 => ?_)
      refine fr_ite (fun c4 => ?_) (fun c4 => ?_)
      · exact fr_some hσ5
      · exact fr_some hσ5
theorem fr_l_X4_spells_28 (w1 : Nat) : ∀ (n : Nat) (x2 : Int32) (σ : k_Mem), k_Fr [] σ (l_X4_spells_28 w1 n x2 σ) := by
  intro n
  induction n with
  | zero => intro x2 σ; exact fr_none
  | succ n ih =>
    intro x2 σ
    rw [l_X4_spells_28]
    refine fr_ite (fun c1 => ?_) (fun c1 => ?_)
    · exact fr_some sm_rf
    · refine fr_ite (fun c2 => ?_) (fun c2 => ?_)
      · refine fr_ite (fun c3 => ?_) (fun c3 => ?_)
        · refine fr_ite (fun c4 => ?_) (fun c4 => ?_)
          · exact fr_to sm_rf (ih _ _) (fun _ h => h)
          · exact fr_some sm_rf
        · exact fr_none
      · exact fr_none
theorem fr_f_X4_spells (w1 : Nat) (σ : k_Mem) : k_Fr [] σ (f_X4_spells w1 σ) := by
  unfold f_X4_spells
  refine fr_ite (fun c1 => ?_) (fun c1 => ?_)
  · refine fr_ite (fun c2 => ?_) (fun c2 => ?_)
    · exact fr_to sm_rf (fr_l_X4_spells_28 _  _ _ _) (fun _ h => h)
    · exact fr_some sm_rf
  · exact fr_some sm_rf
theorem fr_f_X1_kindNamed (σ : k_Mem) : k_Fr [] σ (f_X1_kindNamed σ) := by
  unfold f_X1_kindNamed
  refine fr_bd sm_rf (fr_f_X4_spells _ _) (fun _ _ => List.not_mem_nil) (fun r1 σ1 hσ1 => ?_)
  refine fr_ite (fun c1 => ?_) (fun c1 => ?_)
  · refine fr_bd hσ1 (fr_f_X4_spells _ _) (fun _ _ => List.not_mem_nil) (fun r3 σ3 hσ3 => ?_)
    refine fr_ite (fun c2 => ?_) (fun c2 => ?_)
    · refine fr_bd hσ3 (fr_f_X4_spells _ _) (fun _ _ => List.not_mem_nil) (fun r5 σ5 hσ5 => ?_)
      refine fr_ite (fun c3 => ?_) (fun c3 => ?_)
      · refine fr_bd hσ5 (fr_f_X4_spells _ _) (fun _ _ => List.not_mem_nil) (fun r7 σ7 hσ7 => ?_)
        refine fr_ite (fun c4 => ?_) (fun c4 => ?_)
        · exact fr_some hσ7
        · exact fr_some hσ7
      · exact fr_some hσ5
    · exact fr_some hσ3
  · exact fr_some hσ1
theorem fr_f_X1_follows (x1 : Int32) (σ : k_Mem) : k_Fr [1, 3] σ (f_X1_follows x1 σ) := by
  unfold f_X1_follows
  refine fr_bd sm_rf (fr_f_X4_advance _) (k_sub (by decide)) (fun _ σ1 hσ1 => ?_)
  refine fr_bd hσ1 (fr_f_X1_stands _ _) (k_sub (by decide)) (fun r2 σ2 hσ2 => ?_)
  refine fr_ite (fun c1 => ?_) (fun c1 => ?_)
  · exact fr_some hσ2
  · exact fr_none
theorem fr_j_X1_number_39 (σ : k_Mem) : k_Fr [1, 3] σ (j_X1_number_39 σ) := by
  unfold j_X1_number_39
  refine fr_bd sm_rf (fr_f_X1_refuse _ _) (k_sub (by decide)) (fun r5 σ5 hσ5 => ?_)
  exact fr_some hσ5
theorem fr_f_X1_number (x1 : Int32) (x2 : Int32) (σ : k_Mem) : k_Fr [1, 3] σ (f_X1_number x1 x2 σ) := by
  unfold f_X1_number
  refine fr_bd sm_rf (fr_f_X4_advance _) (k_sub (by decide)) (fun _ σ1 hσ1 => ?_)
  refine fr_bd hσ1 (fr_f_X1_stands _ _) (k_sub (by decide)) (fun r2 σ2 hσ2 => ?_)
  refine fr_ite (fun c1 => ?_) (fun c1 => ?_)
  · exact fr_some hσ2
  · refine fr_ite (fun c2 => ?_) (fun c2 => ?_)
    · exact fr_to hσ2 (fr_j_X1_number_39 _ ) (fun _ h => h)
    · refine fr_ite (fun c3 => ?_) (fun c3 => ?_)
      · exact fr_some hσ2
      · exact fr_to hσ2 (fr_j_X1_number_39 _ ) (fun _ h => h)
theorem fr_j_X1_handLine_113 (x1 : Int32) (x3 : Int32) (x4 : Int32) (x5 : Int32) (xs0 : Int32) (σ : k_Mem) : k_Fr [1, 3, 38, 39, 40, 41, 42] σ (j_X1_handLine_113 x1 x3 x4 x5 xs0 σ) := by
  unfold j_X1_handLine_113
  refine fr_ite (fun c1 => ?_) (fun c1 => ?_)
  · exact fr_some sm_rf
  · refine fr_bd sm_rf (fr_f_X5_add _ _ _ _ _ _ _) (k_sub (by decide)) (fun _ σ16 hσ16 => ?_)
    refine fr_bd hσ16 (fr_f_X1_follows _ _) (k_sub (by decide)) (fun r17 σ17 hσ17 => ?_)
    refine fr_ite (fun c2 => ?_) (fun c2 => ?_)
    · exact fr_some hσ17
    · exact fr_none
theorem fr_j_X1_handLine_95 (x1 : Int32) (x3 : Int32) (x4 : Int32) (xs0 : Int32) (σ : k_Mem) : k_Fr [1, 3, 38, 39, 40, 41, 42] σ (j_X1_handLine_95 x1 x3 x4 xs0 σ) := by
  unfold j_X1_handLine_95
  refine fr_ite (fun c1 => ?_) (fun c1 => ?_)
  · exact fr_to sm_rf (fr_j_X1_handLine_113 _ _ _ _ _ _ ) (fun _ h => h)
  · refine fr_bd sm_rf (fr_f_X1_number _ _ _) (k_sub (by decide)) (fun r19 σ19 hσ19 => ?_)
    exact fr_to hσ19 (fr_j_X1_handLine_113 _ _ _ _ _ _ ) (fun _ h => h)
theorem fr_j_X1_handLine_51 (x1 : Int32) (xs0 : Int32) (σ : k_Mem) : k_Fr [1, 3, 38, 39, 40, 41, 42] σ (j_X1_handLine_51 x1 xs0 σ) := by
  unfold j_X1_handLine_51
  refine fr_bd sm_rf (fr_f_X5_isFull _ _ _) (fun _ _ => List.not_mem_nil) (fun r10 σ10 hσ10 => ?_)
  refine fr_ite (fun c1 => ?_) (fun c1 => ?_)
  · refine fr_bd hσ10 (fr_f_X1_number _ _ _) (k_sub (by decide)) (fun r12 σ12 hσ12 => ?_)
    refine fr_ite (fun c2 => ?_) (fun c2 => ?_)
    · exact fr_to hσ12 (fr_j_X1_handLine_95 _ _ _ _ _ ) (fun _ h => h)
    · refine fr_bd hσ12 (fr_f_X1_number _ _ _) (k_sub (by decide)) (fun r20 σ20 hσ20 => ?_)
      exact fr_to hσ20 (fr_j_X1_handLine_95 _ _ _ _ _ ) (fun _ h => h)
  · refine fr_bd hσ10 (fr_f_X1_refuse _ _) (k_sub (by decide)) (fun r21 σ21 hσ21 => ?_)
    refine fr_ite (fun c3 => ?_) (fun c3 => ?_)
    · exact fr_some hσ21
    · exact fr_none
theorem fr_j_X1_handLine_42 (x1 : Int32) (x2 : Int32) (σ : k_Mem) : k_Fr [1, 3, 38, 39, 40, 41, 42] σ (j_X1_handLine_42 x1 x2 σ) := by
  unfold j_X1_handLine_42
  refine fr_ite (fun c1 => ?_) (fun c1 => ?_)
  · exact fr_to sm_rf (fr_j_X1_handLine_51 _ _ _ ) (fun _ h => h)
  · exact fr_to sm_rf (fr_j_X1_handLine_51 _ _ _ ) (fun _ h => h)
theorem fr_f_X1_handLine (x1 : Int32) (σ : k_Mem) : k_Fr [1, 3, 38, 39, 40, 41, 42] σ (f_X1_handLine x1 σ) := by
  unfold f_X1_handLine
  refine fr_bd sm_rf (fr_f_X1_follows _ _) (k_sub (by decide)) (fun r1 σ1 hσ1 => ?_)
  refine fr_ite (fun c1 => ?_) (fun c1 => ?_)
  · exact fr_some hσ1
  · refine fr_bd hσ1 (fr_f_X4_spells _ _) (fun _ _ => List.not_mem_nil) (fun r3 σ3 hσ3 => ?_)
    refine fr_ite (fun c2 => ?_) (fun c2 => ?_)
    · refine fr_bd hσ3 (fr_f_X4_spells _ _) (fun _ _ => List.not_mem_nil) (fun r5 σ5 hσ5 => ?_)
      refine fr_ite (fun c3 => ?_) (fun c3 => ?_)
      · refine fr_bd hσ5 (fr_f_X1_refuse _ _) (k_sub (by decide)) (fun r7 σ7 hσ7 => ?_)
        refine fr_ite (fun c4 => ?_) (fun c4 => ?_)
        · exact fr_some hσ7
        · exact fr_none
      · exact fr_to hσ5 (fr_j_X1_handLine_42 _ _ _ ) (fun _ h => h)
    · exact fr_to hσ3 (fr_j_X1_handLine_42 _ _ _ ) (fun _ h => h)
theorem fr_f_X1_penLine (σ : k_Mem) : k_Fr [1, 3, 43] σ (f_X1_penLine σ) := by
  unfold f_X1_penLine
  refine fr_bd sm_rf (fr_f_X1_number _ _ _) (k_sub (by decide)) (fun r1 σ1 hσ1 => ?_)
  refine fr_ite (fun c1 => ?_) (fun c1 => ?_)
  · exact fr_some hσ1
  · refine fr_ite (fun c2 => ?_) (fun c2 => ?_)
    · refine fr_bd hσ1 (fr_f_X1_refuse _ _) (k_sub (by decide)) (fun r4 σ4 hσ4 => ?_)
      refine fr_ite (fun c3 => ?_) (fun c3 => ?_)
      · exact fr_some hσ4
      · exact fr_none
    · refine fr_bd hσ1 (fr_f_X1_number _ _ _) (k_sub (by decide)) (fun r6 σ6 hσ6 => ?_)
      refine fr_ite (fun c4 => ?_) (fun c4 => ?_)
      · exact fr_some hσ6
      · refine fr_ite (fun c5 => ?_) (fun c5 => ?_)
        · refine fr_bd (sm_set (by decide) (sm_set (by decide) hσ6)) (fr_f_X1_follows _ _) (k_sub (by decide)) (fun r8 σ8 hσ8 => ?_)
          refine fr_ite (fun c6 => ?_) (fun c6 => ?_)
          · exact fr_some hσ8
          · exact fr_none
        · exact fr_none
theorem fr_f_X1_runLine (σ : k_Mem) : k_Fr [1, 3, 38] σ (f_X1_runLine σ) := by
  unfold f_X1_runLine
  refine fr_bd sm_rf (fr_f_X1_number _ _ _) (k_sub (by decide)) (fun r1 σ1 hσ1 => ?_)
  refine fr_ite (fun c1 => ?_) (fun c1 => ?_)
  · exact fr_some hσ1
  · refine fr_bd hσ1 (fr_f_X5_isRun _ _ _) (fun _ _ => List.not_mem_nil) (fun r3 σ3 hσ3 => ?_)
    refine fr_ite (fun c2 => ?_) (fun c2 => ?_)
    · refine fr_bd hσ3 (fr_f_X5_setRun _ _ _ _) (k_sub (by decide)) (fun _ σ5 hσ5 => ?_)
      refine fr_bd hσ5 (fr_f_X1_follows _ _) (k_sub (by decide)) (fun r6 σ6 hσ6 => ?_)
      refine fr_ite (fun c3 => ?_) (fun c3 => ?_)
      · exact fr_some hσ6
      · exact fr_none
    · refine fr_bd hσ3 (fr_f_X1_refuse _ _) (k_sub (by decide)) (fun r8 σ8 hσ8 => ?_)
      refine fr_ite (fun c4 => ?_) (fun c4 => ?_)
      · exact fr_some hσ8
      · exact fr_none
theorem fr_j_X1_foldLine_23 (x1 : Int32) (xs0 : Int32) (σ : k_Mem) : k_Fr [1, 3, 45] σ (j_X1_foldLine_23 x1 xs0 σ) := by
  unfold j_X1_foldLine_23
  refine fr_ite (fun c1 => ?_) (fun c1 => ?_)
  · exact fr_some sm_rf
  · refine fr_bd sm_rf (fr_f_X5_areFolded _ _ _ _) (fun _ _ => List.not_mem_nil) (fun r4 σ4 hσ4 => ?_)
    refine fr_ite (fun c2 => ?_) (fun c2 => ?_)
    · refine fr_bd hσ4 (fr_f_X5_setFolded _ _ _ _ _) (k_sub (by decide)) (fun _ σ6 hσ6 => ?_)
      refine fr_bd hσ6 (fr_f_X1_follows _ _) (k_sub (by decide)) (fun r7 σ7 hσ7 => ?_)
      refine fr_ite (fun c3 => ?_) (fun c3 => ?_)
      · exact fr_some hσ7
      · exact fr_none
    · refine fr_bd hσ4 (fr_f_X1_refuse _ _) (k_sub (by decide)) (fun r9 σ9 hσ9 => ?_)
      refine fr_ite (fun c4 => ?_) (fun c4 => ?_)
      · exact fr_some hσ9
      · exact fr_none
theorem fr_f_X1_foldLine (σ : k_Mem) : k_Fr [1, 3, 45] σ (f_X1_foldLine σ) := by
  unfold f_X1_foldLine
  refine fr_bd sm_rf (fr_f_X1_number _ _ _) (k_sub (by decide)) (fun r1 σ1 hσ1 => ?_)
  refine fr_ite (fun c1 => ?_) (fun c1 => ?_)
  · exact fr_to hσ1 (fr_j_X1_foldLine_23 _ _ _ ) (fun _ h => h)
  · refine fr_bd hσ1 (fr_f_X1_number _ _ _) (k_sub (by decide)) (fun r11 σ11 hσ11 => ?_)
    exact fr_to hσ11 (fr_j_X1_foldLine_23 _ _ _ ) (fun _ h => h)
theorem fr_f_X1_wedLine (σ : k_Mem) : k_Fr [1, 3, 44] σ (f_X1_wedLine σ) := by
  unfold f_X1_wedLine
  refine fr_bd sm_rf (fr_f_X1_number _ _ _) (k_sub (by decide)) (fun r1 σ1 hσ1 => ?_)
  refine fr_ite (fun c1 => ?_) (fun c1 => ?_)
  · exact fr_some hσ1
  · refine fr_bd hσ1 (fr_f_X5_isWed _ _ _) (fun _ _ => List.not_mem_nil) (fun r3 σ3 hσ3 => ?_)
    refine fr_ite (fun c2 => ?_) (fun c2 => ?_)
    · refine fr_bd hσ3 (fr_f_X1_number _ _ _) (k_sub (by decide)) (fun r5 σ5 hσ5 => ?_)
      refine fr_ite (fun c3 => ?_) (fun c3 => ?_)
      · exact fr_some hσ5
      · refine fr_bd hσ5 (fr_f_X5_isWed _ _ _) (fun _ _ => List.not_mem_nil) (fun r7 σ7 hσ7 => ?_)
        refine fr_ite (fun c4 => ?_) (fun c4 => ?_)
        · refine fr_bd hσ7 (fr_f_X5_join _ _ _ _) (k_sub (by decide)) (fun _ σ9 hσ9 => ?_)
          refine fr_bd hσ9 (fr_f_X1_follows _ _) (k_sub (by decide)) (fun r10 σ10 hσ10 => ?_)
          refine fr_ite (fun c5 => ?_) (fun c5 => ?_)
          · exact fr_some hσ10
          · exact fr_none
        · refine fr_bd hσ7 (fr_f_X1_refuse _ _) (k_sub (by decide)) (fun r12 σ12 hσ12 => ?_)
          refine fr_ite (fun c6 => ?_) (fun c6 => ?_)
          · exact fr_some hσ12
          · exact fr_none
    · refine fr_bd hσ3 (fr_f_X1_refuse _ _) (k_sub (by decide)) (fun r14 σ14 hσ14 => ?_)
      refine fr_ite (fun c7 => ?_) (fun c7 => ?_)
      · exact fr_some hσ14
      · exact fr_none
theorem fr_f_X1_line (σ : k_Mem) : k_Fr [1, 3, 38, 39, 40, 41, 42, 43, 44, 45] σ (f_X1_line σ) := by
  unfold f_X1_line
  refine fr_bd sm_rf (fr_f_X1_stands _ _) (k_sub (by decide)) (fun r1 σ1 hσ1 => ?_)
  refine fr_ite (fun c1 => ?_) (fun c1 => ?_)
  · exact fr_some hσ1
  · refine fr_bd hσ1 (fr_f_X1_kindNamed _) (fun _ _ => List.not_mem_nil) (fun r3 σ3 hσ3 => ?_)
    refine fr_ite (fun c2 => ?_) (fun c2 => ?_)
    · refine fr_bd hσ3 (fr_f_X4_spells _ _) (fun _ _ => List.not_mem_nil) (fun r5 σ5 hσ5 => ?_)
      refine fr_ite (fun c3 => ?_) (fun c3 => ?_)
      · refine fr_bd hσ5 (fr_f_X4_spells _ _) (fun _ _ => List.not_mem_nil) (fun r7 σ7 hσ7 => ?_)
        refine fr_ite (fun c4 => ?_) (fun c4 => ?_)
        · refine fr_bd hσ7 (fr_f_X4_spells _ _) (fun _ _ => List.not_mem_nil) (fun r9 σ9 hσ9 => ?_)
          refine fr_ite (fun c5 => ?_) (fun c5 => ?_)
          · refine fr_bd hσ9 (fr_f_X4_spells _ _) (fun _ _ => List.not_mem_nil) (fun r11 σ11 hσ11 => ?_)
            refine fr_ite (fun c6 => ?_) (fun c6 => ?_)
            · refine fr_bd hσ11 (fr_f_X1_refuse _ _) (k_sub (by decide)) (fun r13 σ13 hσ13 => ?_)
              refine fr_ite (fun c7 => ?_) (fun c7 => ?_)
              · exact fr_some hσ13
              · exact fr_none
            · refine fr_bd hσ11 (fr_f_X1_wedLine _) (k_sub (by decide)) (fun r15 σ15 hσ15 => ?_)
              refine fr_ite (fun c8 => ?_) (fun c8 => ?_)
              · exact fr_some hσ15
              · exact fr_none
          · refine fr_bd hσ9 (fr_f_X1_foldLine _) (k_sub (by decide)) (fun r17 σ17 hσ17 => ?_)
            refine fr_ite (fun c9 => ?_) (fun c9 => ?_)
            · exact fr_some hσ17
            · exact fr_none
        · refine fr_bd hσ7 (fr_f_X1_runLine _) (k_sub (by decide)) (fun r19 σ19 hσ19 => ?_)
          refine fr_ite (fun c10 => ?_) (fun c10 => ?_)
          · exact fr_some hσ19
          · exact fr_none
      · refine fr_bd hσ5 (fr_f_X1_penLine _) (k_sub (by decide)) (fun r21 σ21 hσ21 => ?_)
        refine fr_ite (fun c11 => ?_) (fun c11 => ?_)
        · exact fr_some hσ21
        · exact fr_none
    · refine fr_bd hσ3 (fr_f_X1_handLine _ _) (k_sub (by decide)) (fun r23 σ23 hσ23 => ?_)
      refine fr_ite (fun c12 => ?_) (fun c12 => ?_)
      · exact fr_some hσ23
      · exact fr_none
theorem fr_j_X1_namedBits_67 (k23 : Int32 → Int32 → k_Mem → Option (Int32 × k_Mem)) (x1 : Int32) (x2 : Int32) (σ : k_Mem) (hk23 : ∀ (a0 : Int32) (a1 : Int32) (a2 : k_Mem), k_Fr [] a2 (k23 a0 a1 a2)) : k_Fr [] σ (j_X1_namedBits_67 k23 x1 x2 σ) := by
  unfold j_X1_namedBits_67
  exact fr_to sm_rf (hk23 _ _ _) (fun _ h => h)
theorem fr_l_X1_namedBits_23  : ∀ (n : Nat) (x1 : Int32) (x2 : Int32) (σ : k_Mem), k_Fr [] σ (l_X1_namedBits_23  n x1 x2 σ) := by
  intro n
  induction n with
  | zero => intro x1 x2 σ; exact fr_none
  | succ n ih =>
    intro x1 x2 σ
    rw [l_X1_namedBits_23]
    refine fr_ite (fun c1 => ?_) (fun c1 => ?_)
    · exact fr_some sm_rf
    · refine fr_ite (fun c2 => ?_) (fun c2 => ?_)
      · refine fr_ite (fun c3 => ?_) (fun c3 => ?_)
        · refine fr_ite (fun c4 => ?_) (fun c4 => ?_)
          · exact fr_to sm_rf (fr_j_X1_namedBits_67 _ _ _ _ (fun x1 x2 σ => ih x1 x2 σ)) (fun _ h => h)
          · exact fr_none
        · exact fr_to sm_rf (fr_j_X1_namedBits_67 _ _ _ _ (fun x1 x2 σ => ih x1 x2 σ)) (fun _ h => h)
      · exact fr_none
theorem fr_f_X1_namedBits (σ : k_Mem) : k_Fr [] σ (f_X1_namedBits σ) := by
  unfold f_X1_namedBits
  refine fr_bd sm_rf (fr_f_X5_wedBits _ _) (fun _ _ => List.not_mem_nil) (fun r1 σ1 hσ1 => ?_)
  exact fr_to hσ1 (fr_l_X1_namedBits_23   _ _ _ _) (fun _ h => h)
theorem fr_j_X1_parse_90 (σ : k_Mem) : k_Fr [1, 3, 38, 39, 40, 41, 42, 43, 44, 45] σ (j_X1_parse_90 σ) := by
  unfold j_X1_parse_90
  refine fr_ite (fun c1 => ?_) (fun c1 => ?_)
  · refine fr_bd sm_rf (fr_f_X1_namedBits _) (fun _ _ => List.not_mem_nil) (fun r6 σ6 hσ6 => ?_)
    refine fr_bd hσ6 (fr_f_X5_handBits _ _) (fun _ _ => List.not_mem_nil) (fun r7 σ7 hσ7 => ?_)
    refine fr_ite (fun c2 => ?_) (fun c2 => ?_)
    · exact fr_some hσ7
    · exact fr_some (sm_set (by decide) (sm_set (by decide) hσ7))
  · exact fr_some sm_rf
theorem fr_l_X1_parse_43  : ∀ (n : Nat) (x1 : Int32) (σ : k_Mem), k_Fr [1, 3, 38, 39, 40, 41, 42, 43, 44, 45] σ (l_X1_parse_43  n x1 σ) := by
  intro n
  induction n with
  | zero => intro x1 σ; exact fr_none
  | succ n ih =>
    intro x1 σ
    rw [l_X1_parse_43]
    refine fr_ite (fun c1 => ?_) (fun c1 => ?_)
    · exact fr_to sm_rf (fr_j_X1_parse_90 _ ) (fun _ h => h)
    · refine fr_ite (fun c2 => ?_) (fun c2 => ?_)
      · exact fr_to sm_rf (fr_j_X1_parse_90 _ ) (fun _ h => h)
      · refine fr_bd sm_rf (fr_f_X1_line _) (fun _ h => h) (fun r10 σ10 hσ10 => ?_)
        refine fr_ite (fun c3 => ?_) (fun c3 => ?_)
        · exact fr_to hσ10 (fr_j_X1_parse_90 _ ) (fun _ h => h)
        · refine fr_bd (sm_set (by decide) hσ10) (fr_f_X4_advance _) (k_sub (by decide)) (fun _ σ12 hσ12 => ?_)
          exact fr_to hσ12 (ih _ _) (fun _ h => h)
theorem fr_f_X1_parse (σ : k_Mem) : k_Fr [1, 3, 38, 39, 40, 41, 42, 43, 44, 45] σ (f_X1_parse σ) := by
  unfold f_X1_parse
  refine fr_bd sm_rf (fr_f_X5_clear _ _) (k_sub (by decide)) (fun _ σ1 hσ1 => ?_)
  refine fr_bd (sm_set (by decide) (sm_set (by decide) (sm_set (by decide) (sm_set (by decide) hσ1)))) (fr_f_X4_rewind _) (k_sub (by decide)) (fun _ σ2 hσ2 => ?_)
  refine fr_bd hσ2 (fr_f_X4_advance _) (k_sub (by decide)) (fun _ σ3 hσ3 => ?_)
  exact fr_to hσ3 (fr_l_X1_parse_43   _ _ _) (fun _ h => h)
theorem fr_f_X3_add (x1 : Int32) (x2 : Int32) (x3 : Int32) (σ : k_Mem) : k_Fr [55, 56, 57, 58] σ (f_X3_add x1 x2 x3 σ) := by
  unfold f_X3_add
  refine fr_ite (fun c1 => ?_) (fun c1 => ?_)
  · refine fr_ite (fun c2 => ?_) (fun c2 => ?_)
    · refine fr_ite (fun c3 => ?_) (fun c3 => ?_)
      · refine fr_ite (fun c4 => ?_) (fun c4 => ?_)
        · refine fr_ct ?_
          exact fr_some (sm_set (by decide) (sm_set (by decide) (sm_set (by decide) (sm_set (by decide) sm_rf))))
        · exact fr_none
      · exact fr_none
    · exact fr_none
  · exact fr_some sm_rf
theorem fr_j_X3_agreeWith_42 (b1 : Nat) (k2 : Int32 → Int32 → k_Mem → Option (Int32 × k_Mem)) (x2 : Int32) (x3 : Int32) (σ : k_Mem) (hk2 : ∀ (a0 : Int32) (a1 : Int32) (a2 : k_Mem), k_Fr [] a2 (k2 a0 a1 a2)) : k_Fr [] σ (j_X3_agreeWith_42 b1 k2 x2 x3 σ) := by
  unfold j_X3_agreeWith_42
  exact fr_to sm_rf (hk2 _ _ _) (fun _ h => h)
theorem fr_l_X3_agreeWith_2 (b1 : Nat) : ∀ (n : Nat) (x2 : Int32) (x3 : Int32) (σ : k_Mem), k_Fr [] σ (l_X3_agreeWith_2 b1 n x2 x3 σ) := by
  intro n
  induction n with
  | zero => intro x2 x3 σ; exact fr_none
  | succ n ih =>
    intro x2 x3 σ
    rw [l_X3_agreeWith_2]
    refine fr_ite (fun c1 => ?_) (fun c1 => ?_)
    · exact fr_some sm_rf
    · refine fr_ite (fun c2 => ?_) (fun c2 => ?_)
      · refine fr_ite (fun c3 => ?_) (fun c3 => ?_)
        · refine fr_ite (fun c4 => ?_) (fun c4 => ?_)
          · refine fr_bd sm_rf (fr_f_X5_shows _ _ _ _) (fun _ _ => List.not_mem_nil) (fun r3 σ3 hσ3 => ?_)
            refine fr_ite (fun c5 => ?_) (fun c5 => ?_)
            · refine fr_ite (fun c6 => ?_) (fun c6 => ?_)
              · exact fr_to hσ3 (fr_j_X3_agreeWith_42 _ _ _ _ _ (fun x2 x3 σ => ih x2 x3 σ)) (fun _ h => h)
              · exact fr_some hσ3
            · exact fr_none
          · exact fr_none
        · exact fr_to sm_rf (fr_j_X3_agreeWith_42 _ _ _ _ _ (fun x2 x3 σ => ih x2 x3 σ)) (fun _ h => h)
      · exact fr_none
theorem fr_f_X3_agreeWith (b1 : Nat) (x2 : Int32) (σ : k_Mem) : k_Fr [] σ (f_X3_agreeWith b1 x2 σ) := by
  unfold f_X3_agreeWith
  exact fr_to sm_rf (fr_l_X3_agreeWith_2 _  _ _ _ _) (fun _ h => h)
theorem fr_f_X2_renew (b0 : Nat) (x1 : Int32) (x2 : Int32) (σ : k_Mem) : k_Fr [b0, (b0 + 1)] σ (f_X2_renew b0 x1 x2 σ) := by
  unfold f_X2_renew
  refine fr_bd (sm_set (by simp) (sm_set (by simp) sm_rf)) (fr_f_J7_fill_53178 _ _ _ _) (k_sub (by simp)) (fun _ σ1 hσ1 => ?_)
  exact fr_some hσ1
theorem fr_f_X2_isNothing (b0 : Nat) (σ : k_Mem) : k_Fr [] σ (f_X2_isNothing b0 σ) := by
  unfold f_X2_isNothing
  refine fr_ite (fun c1 => ?_) (fun c1 => ?_)
  · exact fr_some sm_rf
  · exact fr_some sm_rf
theorem fr_f_X2_faultAt (b0 : Nat) (x1 : Int32) (x2 : Int32) (σ : k_Mem) : k_Fr [] σ (f_X2_faultAt b0 x1 x2 σ) := by
  unfold f_X2_faultAt
  refine fr_bd sm_rf (fr_f_X2_isNothing _ _) (fun _ _ => List.not_mem_nil) (fun r1 σ1 hσ1 => ?_)
  refine fr_ite (fun c1 => ?_) (fun c1 => ?_)
  · refine fr_ite (fun c2 => ?_) (fun c2 => ?_)
    · refine fr_ite (fun c3 => ?_) (fun c3 => ?_)
      · exact fr_some hσ1
      · refine fr_ite (fun c4 => ?_) (fun c4 => ?_)
        · exact fr_some hσ1
        · exact fr_some hσ1
    · exact fr_some hσ1
  · exact fr_some hσ1
theorem fr_f_X2_put (b0 : Nat) (x1 : Int32) (x2 : Int32) (σ : k_Mem) : k_Fr [(b0 + 1)] σ (f_X2_put b0 x1 x2 σ) := by
  unfold f_X2_put
  refine fr_ite (fun c1 => ?_) (fun c1 => ?_)
  · refine fr_ite (fun c2 => ?_) (fun c2 => ?_)
    · exact fr_some (sm_set (by simp) sm_rf)
    · exact fr_none
  · refine fr_ite (fun c3 => ?_) (fun c3 => ?_)
    · refine fr_ite (fun c4 => ?_) (fun c4 => ?_)
      · exact fr_some (sm_set (by simp) sm_rf)
      · exact fr_none
    · refine fr_ite (fun c5 => ?_) (fun c5 => ?_)
      · exact fr_some (sm_set (by simp) sm_rf)
      · exact fr_none
theorem fr_f_X2_faultAtTwo (b0 : Nat) (x1 : Int32) (x2 : Int32) (σ : k_Mem) : k_Fr [] σ (f_X2_faultAtTwo b0 x1 x2 σ) := by
  unfold f_X2_faultAtTwo
  refine fr_bd sm_rf (fr_f_X2_faultAt _ _ _ _) (fun _ _ => List.not_mem_nil) (fun r1 σ1 hσ1 => ?_)
  refine fr_ite (fun c1 => ?_) (fun c1 => ?_)
  · refine fr_bd hσ1 (fr_f_X2_faultAt _ _ _ _) (fun _ _ => List.not_mem_nil) (fun r3 σ3 hσ3 => ?_)
    exact fr_some hσ3
  · exact fr_some hσ1
theorem fr_f_X0_likingIn (b1 : Nat) (x2 : Int32) (x3 : Int32) (σ : k_Mem) : k_Fr [] σ (f_X0_likingIn b1 x2 x3 σ) := by
  unfold f_X0_likingIn
  refine fr_ite (fun c1 => ?_) (fun c1 => ?_)
  · refine fr_ite (fun c2 => ?_) (fun c2 => ?_)
    · refine fr_ite (fun c3 => ?_) (fun c3 => ?_)
      · refine fr_ite (fun c4 => ?_) (fun c4 => ?_)
        · exact fr_some sm_rf
        · refine fr_ite (fun c5 => ?_) (fun c5 => ?_)
          · refine fr_ite (fun c6 => ?_) (fun c6 => ?_)
            · exact fr_some sm_rf
            · refine fr_ite (fun c7 => ?_) (fun c7 => ?_)
              · refine fr_ite (fun c8 => ?_) (fun c8 => ?_)
                · refine fr_ite (fun c9 => ?_) (fun c9 => ?_)
                  · refine fr_ite (fun c10 => ?_) (fun c10 => ?_)
                    · refine fr_ite (fun c11 => ?_) (fun c11 => ?_)
                      · refine fr_ite (fun c12 => ?_) (fun c12 => ?_)
                        · refine fr_ite (fun c13 => ?_) (fun c13 => ?_)
                          · refine fr_ite (fun c14 => ?_) (fun c14 => ?_)
                            · refine fr_ite (fun c15 => ?_) (fun c15 => ?_)
                              · exact fr_some sm_rf
                              · exact fr_some sm_rf
                            · exact fr_none
                          · exact fr_none
                        · exact fr_some sm_rf
                      · exact fr_none
                    · exact fr_none
                  · exact fr_none
                · exact fr_none
              · exact fr_none
          · exact fr_none
      · exact fr_none
    · exact fr_none
  · exact fr_none
theorem fr_f_X0_weighOne (b1 : Nat) (x2 : Int32) (x3 : Int32) (σ : k_Mem) : k_Fr [50, 51] σ (f_X0_weighOne b1 x2 x3 σ) := by
  unfold f_X0_weighOne
  refine fr_bd sm_rf (fr_f_X0_likingIn _ _ _ _) (fun _ _ => List.not_mem_nil) (fun r1 σ1 hσ1 => ?_)
  refine fr_ite (fun c1 => ?_) (fun c1 => ?_)
  · refine fr_bd (sm_set (by decide) hσ1) (fr_f_X5_areFolded _ _ _ _) (fun _ _ => List.not_mem_nil) (fun r2 σ2 hσ2 => ?_)
    refine fr_ite (fun c2 => ?_) (fun c2 => ?_)
    · refine fr_ite (fun c3 => ?_) (fun c3 => ?_)
      · refine fr_ite (fun c4 => ?_) (fun c4 => ?_)
        · exact fr_some (sm_set (by decide) hσ2)
        · exact fr_none
      · exact fr_none
    · exact fr_some hσ2
  · exact fr_none
theorem fr_l_X0_weigh_87 (b1 : Nat) (k77 : Int32 → k_Mem → Option (Unit × k_Mem)) (hk77 : ∀ (a0 : Int32) (a1 : k_Mem), k_Fr [46, 47, 48, 49, 50, 51] a1 (k77 a0 a1)) : ∀ (n : Nat) (x2 : Int32) (x3 : Int32) (σ : k_Mem), k_Fr [46, 47, 48, 49, 50, 51] σ (l_X0_weigh_87 b1 k77 n x2 x3 σ) := by
  intro n
  induction n with
  | zero => intro x2 x3 σ; exact fr_none
  | succ n ih =>
    intro x2 x3 σ
    rw [l_X0_weigh_87]
    refine fr_ite (fun c1 => ?_) (fun c1 => ?_)
    · exact fr_to sm_rf (hk77 _ _) (fun _ h => h)
    · refine fr_bd sm_rf (fr_f_X0_weighOne _ _ _ _) (k_sub (by decide)) (fun _ σ6 hσ6 => ?_)
      refine fr_bd hσ6 (fr_f_X0_weighOne _ _ _ _) (k_sub (by decide)) (fun _ σ7 hσ7 => ?_)
      exact fr_to hσ7 (ih _ _ _) (fun _ h => h)
theorem fr_l_X0_weigh_77 (b1 : Nat) : ∀ (n : Nat) (x2 : Int32) (σ : k_Mem), k_Fr [46, 47, 48, 49, 50, 51] σ (l_X0_weigh_77 b1 n x2 σ) := by
  intro n
  induction n with
  | zero => intro x2 σ; exact fr_none
  | succ n ih =>
    intro x2 σ
    rw [l_X0_weigh_77]
    refine fr_ite (fun c1 => ?_) (fun c1 => ?_)
    · exact fr_some sm_rf
    · exact fr_to sm_rf (fr_l_X0_weigh_87 _ _ (fun x2 σ => ih x2 σ) _ _ _ _) (fun _ h => h)
theorem fr_j_X0_weigh_69 (b1 : Nat) (k19 : Int32 → k_Mem → Option (Unit × k_Mem)) (x2 : Int32) (σ : k_Mem) (hk19 : ∀ (a0 : Int32) (a1 : k_Mem), k_Fr [46, 47, 48, 49, 50, 51] a1 (k19 a0 a1)) : k_Fr [46, 47, 48, 49, 50, 51] σ (j_X0_weigh_69 b1 k19 x2 σ) := by
  unfold j_X0_weigh_69
  exact fr_to sm_rf (hk19 _ _) (fun _ h => h)
theorem fr_l_X0_weigh_19 (b1 : Nat) : ∀ (n : Nat) (x2 : Int32) (σ : k_Mem), k_Fr [46, 47, 48, 49, 50, 51] σ (l_X0_weigh_19 b1 n x2 σ) := by
  intro n
  induction n with
  | zero => intro x2 σ; exact fr_none
  | succ n ih =>
    intro x2 σ
    rw [l_X0_weigh_19]
    refine fr_ite (fun c1 => ?_) (fun c1 => ?_)
    · exact fr_to sm_rf (fr_l_X0_weigh_77 _  _ _ _) (fun _ h => h)
    · refine fr_bd sm_rf (fr_f_X5_isHand _ _ _) (fun _ _ => List.not_mem_nil) (fun r8 σ8 hσ8 => ?_)
      refine fr_ite (fun c2 => ?_) (fun c2 => ?_)
      · exact fr_to hσ8 (fr_j_X0_weigh_69 _ _ _ _ (fun x2 σ => ih x2 σ)) (fun _ h => h)
      · refine fr_bd hσ8 (fr_f_X5_shows _ _ _ _) (fun _ _ => List.not_mem_nil) (fun r10 σ10 hσ10 => ?_)
        refine fr_ite (fun c3 => ?_) (fun c3 => ?_)
        · refine fr_bd (sm_set (by decide) hσ10) (fr_f_X5_shows _ _ _ _) (fun _ _ => List.not_mem_nil) (fun r11 σ11 hσ11 => ?_)
          refine fr_ite (fun c4 => ?_) (fun c4 => ?_)
          · refine fr_bd (sm_set (by decide) hσ11) (fr_f_X5_shows _ _ _ _) (fun _ _ => List.not_mem_nil) (fun r12 σ12 hσ12 => ?_)
            refine fr_ite (fun c5 => ?_) (fun c5 => ?_)
            · exact fr_to (sm_set (by decide) hσ12) (fr_j_X0_weigh_69 _ _ _ _ (fun x2 σ => ih x2 σ)) (fun _ h => h)
            · exact fr_none
          · exact fr_none
        · exact fr_none
theorem fr_f_X0_weigh (b1 : Nat) (σ : k_Mem) : k_Fr [46, 47, 48, 49, 50, 51] σ (f_X0_weigh b1 σ) := by
  unfold f_X0_weigh
  refine fr_bd sm_rf (fr_f_X5_handBits _ _) (fun _ _ => List.not_mem_nil) (fun r1 σ1 hσ1 => ?_)
  refine fr_bd (sm_set (by decide) hσ1) (fr_f_J7_fill_53178 _ _ _ _) (k_sub (by decide)) (fun _ σ2 hσ2 => ?_)
  exact fr_to hσ2 (fr_l_X0_weigh_19 _  _ _ _) (fun _ h => h)
theorem fr_f_X0_liking (x1 : Int32) (x2 : Int32) (σ : k_Mem) : k_Fr [] σ (f_X0_liking x1 x2 σ) := by
  unfold f_X0_liking
  refine fr_ite (fun c1 => ?_) (fun c1 => ?_)
  · exact fr_some sm_rf
  · exact fr_none
theorem fr_f_X0_wishFor (x1 : Int32) (x2 : Int32) (σ : k_Mem) : k_Fr [] σ (f_X0_wishFor x1 x2 σ) := by
  unfold f_X0_wishFor
  refine fr_ite (fun c1 => ?_) (fun c1 => ?_)
  · exact fr_some sm_rf
  · refine fr_ite (fun c2 => ?_) (fun c2 => ?_)
    · exact fr_some sm_rf
    · exact fr_none
theorem fr_j_X0_countAbove_26 (k5 : Int32 → Int32 → Int32 → Int32 → k_Mem → Option (Int32 × k_Mem)) (x1 : Int32) (x2 : Int32) (x3 : Int32) (x4 : Int32) (σ : k_Mem) (hk5 : ∀ (a0 : Int32) (a1 : Int32) (a2 : Int32) (a3 : Int32) (a4 : k_Mem), k_Fr [] a4 (k5 a0 a1 a2 a3 a4)) : k_Fr [] σ (j_X0_countAbove_26 k5 x1 x2 x3 x4 σ) := by
  unfold j_X0_countAbove_26
  exact fr_to sm_rf (hk5 _ _ _ _ _) (fun _ h => h)
theorem fr_l_X0_countAbove_5  : ∀ (n : Nat) (x1 : Int32) (x2 : Int32) (x3 : Int32) (x4 : Int32) (σ : k_Mem), k_Fr [] σ (l_X0_countAbove_5  n x1 x2 x3 x4 σ) := by
  intro n
  induction n with
  | zero => intro x1 x2 x3 x4 σ; exact fr_none
  | succ n ih =>
    intro x1 x2 x3 x4 σ
    rw [l_X0_countAbove_5]
    refine fr_ite (fun c1 => ?_) (fun c1 => ?_)
    · exact fr_some sm_rf
    · refine fr_bd sm_rf (fr_f_X0_wishFor _ _ _) (fun _ _ => List.not_mem_nil) (fun r2 σ2 hσ2 => ?_)
      refine fr_ite (fun c2 => ?_) (fun c2 => ?_)
      · exact fr_to hσ2 (fr_j_X0_countAbove_26 _ _ _ _ _ _ (fun x1 x2 x3 x4 σ => ih x1 x2 x3 x4 σ)) (fun _ h => h)
      · exact fr_to hσ2 (fr_j_X0_countAbove_26 _ _ _ _ _ _ (fun x1 x2 x3 x4 σ => ih x1 x2 x3 x4 σ)) (fun _ h => h)
theorem fr_f_X0_countAbove (x1 : Int32) (x2 : Int32) (σ : k_Mem) : k_Fr [] σ (f_X0_countAbove x1 x2 σ) := by
  unfold f_X0_countAbove
  exact fr_to sm_rf (fr_l_X0_countAbove_5   _ _ _ _ _ _) (fun _ h => h)
theorem fr_j_X0_choiceOf_35 (k2 : Int32 → Int32 → Int32 → k_Mem → Option (Int32 × k_Mem)) (x1 : Int32) (x2 : Int32) (x3 : Int32) (σ : k_Mem) (hk2 : ∀ (a0 : Int32) (a1 : Int32) (a2 : Int32) (a3 : k_Mem), k_Fr [] a3 (k2 a0 a1 a2 a3)) : k_Fr [] σ (j_X0_choiceOf_35 k2 x1 x2 x3 σ) := by
  unfold j_X0_choiceOf_35
  exact fr_to sm_rf (hk2 _ _ _ _) (fun _ h => h)
theorem fr_l_X0_choiceOf_2  : ∀ (n : Nat) (x1 : Int32) (x2 : Int32) (x3 : Int32) (σ : k_Mem), k_Fr [] σ (l_X0_choiceOf_2  n x1 x2 x3 σ) := by
  intro n
  induction n with
  | zero => intro x1 x2 x3 σ; exact fr_none
  | succ n ih =>
    intro x1 x2 x3 σ
    rw [l_X0_choiceOf_2]
    refine fr_ite (fun c1 => ?_) (fun c1 => ?_)
    · exact fr_some sm_rf
    · refine fr_bd sm_rf (fr_f_X0_wishFor _ _ _) (fun _ _ => List.not_mem_nil) (fun r2 σ2 hσ2 => ?_)
      refine fr_ite (fun c2 => ?_) (fun c2 => ?_)
      · exact fr_to hσ2 (fr_j_X0_choiceOf_35 _ _ _ _ _ (fun x1 x2 x3 σ => ih x1 x2 x3 σ)) (fun _ h => h)
      · refine fr_bd hσ2 (fr_f_X0_wishFor _ _ _) (fun _ _ => List.not_mem_nil) (fun r4 σ4 hσ4 => ?_)
        refine fr_bd hσ4 (fr_f_X0_countAbove _ _ _) (fun _ _ => List.not_mem_nil) (fun r5 σ5 hσ5 => ?_)
        refine fr_ite (fun c3 => ?_) (fun c3 => ?_)
        · exact fr_some hσ5
        · exact fr_to hσ5 (fr_j_X0_choiceOf_35 _ _ _ _ _ (fun x1 x2 x3 σ => ih x1 x2 x3 σ)) (fun _ h => h)
theorem fr_f_X0_choiceOf (x1 : Int32) (x2 : Int32) (σ : k_Mem) : k_Fr [] σ (f_X0_choiceOf x1 x2 σ) := by
  unfold f_X0_choiceOf
  exact fr_to sm_rf (fr_l_X0_choiceOf_2   _ _ _ _ _) (fun _ h => h)
theorem fr_j_X0_dearest_74 (k21 : Int32 → Int32 → Int32 → Int32 → Int32 → Int32 → k_Mem → Option (Int32 × k_Mem)) (x1 : Int32) (x2 : Int32) (x3 : Int32) (x4 : Int32) (x5 : Int32) (x6 : Int32) (σ : k_Mem) (hk21 : ∀ (a0 : Int32) (a1 : Int32) (a2 : Int32) (a3 : Int32) (a4 : Int32) (a5 : Int32) (a6 : k_Mem), k_Fr [] a6 (k21 a0 a1 a2 a3 a4 a5 a6)) : k_Fr [] σ (j_X0_dearest_74 k21 x1 x2 x3 x4 x5 x6 σ) := by
  unfold j_X0_dearest_74
  exact fr_to sm_rf (hk21 _ _ _ _ _ _ _) (fun _ h => h)
theorem fr_l_X0_dearest_21  : ∀ (n : Nat) (x1 : Int32) (x2 : Int32) (x3 : Int32) (x4 : Int32) (x5 : Int32) (x6 : Int32) (σ : k_Mem), k_Fr [] σ (l_X0_dearest_21  n x1 x2 x3 x4 x5 x6 σ) := by
  intro n
  induction n with
  | zero => intro x1 x2 x3 x4 x5 x6 σ; exact fr_none
  | succ n ih =>
    intro x1 x2 x3 x4 x5 x6 σ
    rw [l_X0_dearest_21]
    refine fr_ite (fun c1 => ?_) (fun c1 => ?_)
    · exact fr_some sm_rf
    · refine fr_ite (fun c2 => ?_) (fun c2 => ?_)
      · refine fr_ite (fun c3 => ?_) (fun c3 => ?_)
        · refine fr_ite (fun c4 => ?_) (fun c4 => ?_)
          · exact fr_to sm_rf (fr_j_X0_dearest_74 _ _ _ _ _ _ _ _ (fun x1 x2 x3 x4 x5 x6 σ => ih x1 x2 x3 x4 x5 x6 σ)) (fun _ h => h)
          · refine fr_ite (fun c5 => ?_) (fun c5 => ?_)
            · exact fr_to sm_rf (fr_j_X0_dearest_74 _ _ _ _ _ _ _ _ (fun x1 x2 x3 x4 x5 x6 σ => ih x1 x2 x3 x4 x5 x6 σ)) (fun _ h => h)
            · exact fr_none
        · exact fr_none
      · exact fr_to sm_rf (fr_j_X0_dearest_74 _ _ _ _ _ _ _ _ (fun x1 x2 x3 x4 x5 x6 σ => ih x1 x2 x3 x4 x5 x6 σ)) (fun _ h => h)
theorem fr_j_X0_dearest_15 (x1 : Int32) (x2 : Int32) (x3 : Int32) (x4 : Int32) (xs0 : Int32) (σ : k_Mem) : k_Fr [] σ (j_X0_dearest_15 x1 x2 x3 x4 xs0 σ) := by
  unfold j_X0_dearest_15
  exact fr_to sm_rf (fr_l_X0_dearest_21   _ _ _ _ _ _ _ _) (fun _ h => h)
theorem fr_f_X0_dearest (x1 : Int32) (x2 : Int32) (σ : k_Mem) : k_Fr [] σ (f_X0_dearest x1 x2 σ) := by
  unfold f_X0_dearest
  refine fr_ite (fun c1 => ?_) (fun c1 => ?_)
  · exact fr_to sm_rf (fr_j_X0_dearest_15 _ _ _ _ _ _ ) (fun _ h => h)
  · exact fr_to sm_rf (fr_j_X0_dearest_15 _ _ _ _ _ _ ) (fun _ h => h)
theorem fr_j_X0_answer_34 (x1 : Int32) (x2 : Int32) (σ : k_Mem) : k_Fr [52] σ (j_X0_answer_34 x1 x2 σ) := by
  unfold j_X0_answer_34
  refine fr_ite (fun c1 => ?_) (fun c1 => ?_)
  · refine fr_ite (fun c2 => ?_) (fun c2 => ?_)
    · exact fr_some (sm_set (by decide) (sm_set (by decide) sm_rf))
    · exact fr_none
  · exact fr_none
theorem fr_f_X0_answer (x1 : Int32) (x2 : Int32) (σ : k_Mem) : k_Fr [52] σ (f_X0_answer x1 x2 σ) := by
  unfold f_X0_answer
  refine fr_ite (fun c1 => ?_) (fun c1 => ?_)
  · refine fr_bd sm_rf (fr_f_X0_wishFor _ _ _) (fun _ _ => List.not_mem_nil) (fun r1 σ1 hσ1 => ?_)
    refine fr_bd hσ1 (fr_f_X0_wishFor _ _ _) (fun _ _ => List.not_mem_nil) (fun r2 σ2 hσ2 => ?_)
    refine fr_ite (fun c2 => ?_) (fun c2 => ?_)
    · exact fr_some hσ2
    · refine fr_ite (fun c3 => ?_) (fun c3 => ?_)
      · exact fr_to hσ2 (fr_j_X0_answer_34 _ _ _ ) (fun _ h => h)
      · refine fr_ite (fun c4 => ?_) (fun c4 => ?_)
        · exact fr_to (sm_set (by decide) hσ2) (fr_j_X0_answer_34 _ _ _ ) (fun _ h => h)
        · exact fr_none
  · exact fr_none
theorem fr_j_X0_firstAsks_68 (k2 : Int32 → Int32 → k_Mem → Option (Int32 × k_Mem)) (x1 : Int32) (x2 : Int32) (σ : k_Mem) (hk2 : ∀ (a0 : Int32) (a1 : Int32) (a2 : k_Mem), k_Fr [52, 53] a2 (k2 a0 a1 a2)) : k_Fr [52, 53] σ (j_X0_firstAsks_68 k2 x1 x2 σ) := by
  unfold j_X0_firstAsks_68
  exact fr_to sm_rf (hk2 _ _ _) (fun _ h => h)
theorem fr_l_X0_firstAsks_2  : ∀ (n : Nat) (x1 : Int32) (x2 : Int32) (σ : k_Mem), k_Fr [52, 53] σ (l_X0_firstAsks_2  n x1 x2 σ) := by
  intro n
  induction n with
  | zero => intro x1 x2 σ; exact fr_none
  | succ n ih =>
    intro x1 x2 σ
    rw [l_X0_firstAsks_2]
    refine fr_ite (fun c1 => ?_) (fun c1 => ?_)
    · exact fr_some sm_rf
    · refine fr_ite (fun c2 => ?_) (fun c2 => ?_)
      · exact fr_to sm_rf (fr_j_X0_firstAsks_68 _ _ _ _ (fun x1 x2 σ => ih x1 x2 σ)) (fun _ h => h)
      · refine fr_ite (fun c3 => ?_) (fun c3 => ?_)
        · refine fr_ite (fun c4 => ?_) (fun c4 => ?_)
          · refine fr_ite (fun c5 => ?_) (fun c5 => ?_)
            · refine fr_bd sm_rf (fr_f_X0_dearest _ _ _) (fun _ _ => List.not_mem_nil) (fun r4 σ4 hσ4 => ?_)
              refine fr_ite (fun c6 => ?_) (fun c6 => ?_)
              · exact fr_to hσ4 (fr_j_X0_firstAsks_68 _ _ _ _ (fun x1 x2 σ => ih x1 x2 σ)) (fun _ h => h)
              · refine fr_ite (fun c7 => ?_) (fun c7 => ?_)
                · refine fr_ite (fun c8 => ?_) (fun c8 => ?_)
                  · refine fr_bd (sm_set (by decide) hσ4) (fr_f_X0_answer _ _ _) (k_sub (by decide)) (fun _ σ6 hσ6 => ?_)
                    exact fr_some hσ6
                  · exact fr_none
                · exact fr_none
            · exact fr_none
          · exact fr_to sm_rf (fr_j_X0_firstAsks_68 _ _ _ _ (fun x1 x2 σ => ih x1 x2 σ)) (fun _ h => h)
        · exact fr_none
theorem fr_f_X0_firstAsks (x1 : Int32) (σ : k_Mem) : k_Fr [52, 53] σ (f_X0_firstAsks x1 σ) := by
  unfold f_X0_firstAsks
  exact fr_to sm_rf (fr_l_X0_firstAsks_2   _ _ _ _) (fun _ h => h)
theorem fr_l_X0_ask_18  : ∀ (n : Nat) (x1 : Int32) (x3 : Int32) (σ : k_Mem), k_Fr [52, 53] σ (l_X0_ask_18  n x1 x3 σ) := by
  intro n
  induction n with
  | zero => intro x1 x3 σ; exact fr_none
  | succ n ih =>
    intro x1 x3 σ
    rw [l_X0_ask_18]
    refine fr_ite (fun c1 => ?_) (fun c1 => ?_)
    · exact fr_some sm_rf
    · refine fr_bd sm_rf (fr_f_X0_firstAsks _ _) (fun _ h => h) (fun r4 σ4 hσ4 => ?_)
      refine fr_ite (fun c2 => ?_) (fun c2 => ?_)
      · exact fr_some hσ4
      · exact fr_to hσ4 (ih _ _ _) (fun _ h => h)
theorem fr_f_X0_ask (x1 : Int32) (x2 : Int32) (σ : k_Mem) : k_Fr [52, 53] σ (f_X0_ask x1 x2 σ) := by
  unfold f_X0_ask
  refine fr_bd sm_rf (fr_f_J7_fill_53178 _ _ _ _) (k_sub (by decide)) (fun _ σ1 hσ1 => ?_)
  refine fr_bd hσ1 (fr_f_J7_fill_53178 _ _ _ _) (k_sub (by decide)) (fun _ σ2 hσ2 => ?_)
  exact fr_to hσ2 (fr_l_X0_ask_18   _ _ _ _) (fun _ h => h)
theorem fr_f_X0_court (b1 : Nat) (x2 : Int32) (σ : k_Mem) : k_Fr [46, 47, 48, 49, 50, 51, 52, 53] σ (f_X0_court b1 x2 σ) := by
  unfold f_X0_court
  refine fr_bd sm_rf (fr_f_X0_weigh _ _) (k_sub (by decide)) (fun _ σ1 hσ1 => ?_)
  refine fr_ite (fun c1 => ?_) (fun c1 => ?_)
  · refine fr_bd hσ1 (fr_f_X0_ask _ _ _) (k_sub (by decide)) (fun _ σ3 hσ3 => ?_)
    exact fr_some hσ3
  · refine fr_bd hσ1 (fr_f_X0_ask _ _ _) (k_sub (by decide)) (fun _ σ4 hσ4 => ?_)
    exact fr_some hσ4
theorem fr_j_X0_matedBits_26 (k4 : Int32 → Int32 → k_Mem → Option (Int32 × k_Mem)) (x1 : Int32) (x2 : Int32) (σ : k_Mem) (hk4 : ∀ (a0 : Int32) (a1 : Int32) (a2 : k_Mem), k_Fr [] a2 (k4 a0 a1 a2)) : k_Fr [] σ (j_X0_matedBits_26 k4 x1 x2 σ) := by
  unfold j_X0_matedBits_26
  exact fr_to sm_rf (hk4 _ _ _) (fun _ h => h)
theorem fr_l_X0_matedBits_4  : ∀ (n : Nat) (x1 : Int32) (x2 : Int32) (σ : k_Mem), k_Fr [] σ (l_X0_matedBits_4  n x1 x2 σ) := by
  intro n
  induction n with
  | zero => intro x1 x2 σ; exact fr_none
  | succ n ih =>
    intro x1 x2 σ
    rw [l_X0_matedBits_4]
    refine fr_ite (fun c1 => ?_) (fun c1 => ?_)
    · exact fr_some sm_rf
    · refine fr_ite (fun c2 => ?_) (fun c2 => ?_)
      · refine fr_ite (fun c3 => ?_) (fun c3 => ?_)
        · exact fr_to sm_rf (fr_j_X0_matedBits_26 _ _ _ _ (fun x1 x2 σ => ih x1 x2 σ)) (fun _ h => h)
        · exact fr_to sm_rf (fr_j_X0_matedBits_26 _ _ _ _ (fun x1 x2 σ => ih x1 x2 σ)) (fun _ h => h)
      · exact fr_none
theorem fr_f_X0_matedBits (σ : k_Mem) : k_Fr [] σ (f_X0_matedBits σ) := by
  unfold f_X0_matedBits
  exact fr_to sm_rf (fr_l_X0_matedBits_4   _ _ _ _) (fun _ h => h)
theorem fr_f_X0_pairs (σ : k_Mem) : k_Fr [] σ (f_X0_pairs σ) := by
  unfold f_X0_pairs
  refine fr_bd sm_rf (fr_f_X0_matedBits _) (fun _ _ => List.not_mem_nil) (fun r1 σ1 hσ1 => ?_)
  refine fr_bd hσ1 (fr_f_J6_bitCount_0f7a4 _ _) (fun _ _ => List.not_mem_nil) (fun r2 σ2 hσ2 => ?_)
  exact fr_some hσ2
theorem fr_j_X0_allLikes_34 (k4 : Int32 → Int32 → k_Mem → Option (Int32 × k_Mem)) (x1 : Int32) (x2 : Int32) (σ : k_Mem) (hk4 : ∀ (a0 : Int32) (a1 : Int32) (a2 : k_Mem), k_Fr [] a2 (k4 a0 a1 a2)) : k_Fr [] σ (j_X0_allLikes_34 k4 x1 x2 σ) := by
  unfold j_X0_allLikes_34
  exact fr_to sm_rf (hk4 _ _ _) (fun _ h => h)
theorem fr_l_X0_allLikes_4  : ∀ (n : Nat) (x1 : Int32) (x2 : Int32) (σ : k_Mem), k_Fr [] σ (l_X0_allLikes_4  n x1 x2 σ) := by
  intro n
  induction n with
  | zero => intro x1 x2 σ; exact fr_none
  | succ n ih =>
    intro x1 x2 σ
    rw [l_X0_allLikes_4]
    refine fr_ite (fun c1 => ?_) (fun c1 => ?_)
    · exact fr_some sm_rf
    · refine fr_ite (fun c2 => ?_) (fun c2 => ?_)
      · refine fr_ite (fun c3 => ?_) (fun c3 => ?_)
        · exact fr_to sm_rf (fr_j_X0_allLikes_34 _ _ _ _ (fun x1 x2 σ => ih x1 x2 σ)) (fun _ h => h)
        · refine fr_ite (fun c4 => ?_) (fun c4 => ?_)
          · refine fr_bd sm_rf (fr_f_X0_liking _ _ _) (fun _ _ => List.not_mem_nil) (fun r3 σ3 hσ3 => ?_)
            exact fr_to hσ3 (fr_j_X0_allLikes_34 _ _ _ _ (fun x1 x2 σ => ih x1 x2 σ)) (fun _ h => h)
          · exact fr_none
      · exact fr_none
theorem fr_f_X0_allLikes (σ : k_Mem) : k_Fr [] σ (f_X0_allLikes σ) := by
  unfold f_X0_allLikes
  exact fr_to sm_rf (fr_l_X0_allLikes_4   _ _ _ _) (fun _ h => h)
theorem fr_f_X0_quarrelOver (x1 : Int32) (x2 : Int32) (σ : k_Mem) : k_Fr [] σ (f_X0_quarrelOver x1 x2 σ) := by
  unfold f_X0_quarrelOver
  refine fr_bd sm_rf (fr_f_X0_wishFor _ _ _) (fun _ _ => List.not_mem_nil) (fun r1 σ1 hσ1 => ?_)
  refine fr_ite (fun c1 => ?_) (fun c1 => ?_)
  · refine fr_bd hσ1 (fr_f_X0_wishFor _ _ _) (fun _ _ => List.not_mem_nil) (fun r2 σ2 hσ2 => ?_)
    refine fr_ite (fun c2 => ?_) (fun c2 => ?_)
    · exact fr_some hσ2
    · refine fr_bd hσ2 (fr_f_X0_wishFor _ _ _) (fun _ _ => List.not_mem_nil) (fun r4 σ4 hσ4 => ?_)
      refine fr_ite (fun c3 => ?_) (fun c3 => ?_)
      · refine fr_bd hσ4 (fr_f_X0_wishFor _ _ _) (fun _ _ => List.not_mem_nil) (fun r5 σ5 hσ5 => ?_)
        refine fr_ite (fun c4 => ?_) (fun c4 => ?_)
        · exact fr_some hσ5
        · exact fr_some hσ5
      · exact fr_none
  · exact fr_none
theorem fr_l_X0_firstQuarrel_9 (k2 : Int32 → k_Mem → Option (Int32 × k_Mem)) (hk2 : ∀ (a0 : Int32) (a1 : k_Mem), k_Fr [] a1 (k2 a0 a1)) : ∀ (n : Nat) (x1 : Int32) (x2 : Int32) (σ : k_Mem), k_Fr [] σ (l_X0_firstQuarrel_9 k2 n x1 x2 σ) := by
  intro n
  induction n with
  | zero => intro x1 x2 σ; exact fr_none
  | succ n ih =>
    intro x1 x2 σ
    rw [l_X0_firstQuarrel_9]
    refine fr_ite (fun c1 => ?_) (fun c1 => ?_)
    · exact fr_to sm_rf (hk2 _ _) (fun _ h => h)
    · refine fr_bd sm_rf (fr_f_X0_quarrelOver _ _ _) (fun _ _ => List.not_mem_nil) (fun r3 σ3 hσ3 => ?_)
      refine fr_ite (fun c2 => ?_) (fun c2 => ?_)
      · exact fr_to hσ3 (ih _ _ _) (fun _ h => h)
      · exact fr_some hσ3
theorem fr_l_X0_firstQuarrel_2  : ∀ (n : Nat) (x1 : Int32) (σ : k_Mem), k_Fr [] σ (l_X0_firstQuarrel_2  n x1 σ) := by
  intro n
  induction n with
  | zero => intro x1 σ; exact fr_none
  | succ n ih =>
    intro x1 σ
    rw [l_X0_firstQuarrel_2]
    refine fr_ite (fun c1 => ?_) (fun c1 => ?_)
    · exact fr_some sm_rf
    · exact fr_to sm_rf (fr_l_X0_firstQuarrel_9 _ (fun x1 σ => ih x1 σ) _ _ _ _) (fun _ h => h)
theorem fr_f_X0_firstQuarrel (σ : k_Mem) : k_Fr [] σ (f_X0_firstQuarrel σ) := by
  unfold f_X0_firstQuarrel
  exact fr_to sm_rf (fr_l_X0_firstQuarrel_2   _ _ _) (fun _ h => h)
theorem fr_j_X0_toNextPairs_87 (k2 : Int32 → k_Mem → Option (Int32 × k_Mem)) (k45 : Int32 → Int32 → k_Mem → Option (Int32 × k_Mem)) (x1 : Int32) (x3 : Int32) (σ : k_Mem) (hk2 : ∀ (a0 : Int32) (a1 : k_Mem), k_Fr [52] a1 (k2 a0 a1)) (hk45 : ∀ (a0 : Int32) (a1 : Int32) (a2 : k_Mem), k_Fr [52] a2 (k45 a0 a1 a2)) : k_Fr [52] σ (j_X0_toNextPairs_87 k2 k45 x1 x3 σ) := by
  unfold j_X0_toNextPairs_87
  exact fr_to sm_rf (hk45 _ _ _) (fun _ h => h)
theorem fr_l_X0_toNextPairs_45 (k2 : Int32 → k_Mem → Option (Int32 × k_Mem)) (hk2 : ∀ (a0 : Int32) (a1 : k_Mem), k_Fr [52] a1 (k2 a0 a1)) : ∀ (n : Nat) (x1 : Int32) (x3 : Int32) (σ : k_Mem), k_Fr [52] σ (l_X0_toNextPairs_45 k2 n x1 x3 σ) := by
  intro n
  induction n with
  | zero => intro x1 x3 σ; exact fr_none
  | succ n ih =>
    intro x1 x3 σ
    rw [l_X0_toNextPairs_45]
    refine fr_ite (fun c1 => ?_) (fun c1 => ?_)
    · exact fr_to sm_rf (hk2 _ _) (fun _ h => h)
    · refine fr_ite (fun c2 => ?_) (fun c2 => ?_)
      · refine fr_ite (fun c3 => ?_) (fun c3 => ?_)
        · refine fr_bd sm_rf (fr_f_X0_wishFor _ _ _) (fun _ _ => List.not_mem_nil) (fun r6 σ6 hσ6 => ?_)
          refine fr_ite (fun c4 => ?_) (fun c4 => ?_)
          · exact fr_to hσ6 (fr_j_X0_toNextPairs_87 _ _ _ _ _ hk2 (fun x1 x3 σ => ih x1 x3 σ)) (fun _ h => h)
          · refine fr_ite (fun c5 => ?_) (fun c5 => ?_)
            · refine fr_ite (fun c6 => ?_) (fun c6 => ?_)
              · exact fr_some (sm_set (by decide) (sm_set (by decide) hσ6))
              · exact fr_none
            · exact fr_none
        · exact fr_to sm_rf (fr_j_X0_toNextPairs_87 _ _ _ _ _ hk2 (fun x1 x3 σ => ih x1 x3 σ)) (fun _ h => h)
      · exact fr_none
theorem fr_j_X0_toNextPairs_44 (k2 : Int32 → k_Mem → Option (Int32 × k_Mem)) (x1 : Int32) (xs0 : Int32) (σ : k_Mem) (hk2 : ∀ (a0 : Int32) (a1 : k_Mem), k_Fr [52] a1 (k2 a0 a1)) : k_Fr [52] σ (j_X0_toNextPairs_44 k2 x1 xs0 σ) := by
  unfold j_X0_toNextPairs_44
  exact fr_to sm_rf (fr_l_X0_toNextPairs_45 _ hk2 _ _ _ _) (fun _ h => h)
theorem fr_j_X0_toNextPairs_32 (k2 : Int32 → k_Mem → Option (Int32 × k_Mem)) (x1 : Int32) (x2 : Int32) (σ : k_Mem) (hk2 : ∀ (a0 : Int32) (a1 : k_Mem), k_Fr [52] a1 (k2 a0 a1)) : k_Fr [52] σ (j_X0_toNextPairs_32 k2 x1 x2 σ) := by
  unfold j_X0_toNextPairs_32
  refine fr_ite (fun c1 => ?_) (fun c1 => ?_)
  · exact fr_to sm_rf (fr_j_X0_toNextPairs_44 _ _ _ _ hk2) (fun _ h => h)
  · exact fr_to sm_rf (fr_j_X0_toNextPairs_44 _ _ _ _ hk2) (fun _ h => h)
theorem fr_l_X0_toNextPairs_2  : ∀ (n : Nat) (x1 : Int32) (σ : k_Mem), k_Fr [52] σ (l_X0_toNextPairs_2  n x1 σ) := by
  intro n
  induction n with
  | zero => intro x1 σ; exact fr_none
  | succ n ih =>
    intro x1 σ
    rw [l_X0_toNextPairs_2]
    refine fr_ite (fun c1 => ?_) (fun c1 => ?_)
    · exact fr_some sm_rf
    · refine fr_ite (fun c2 => ?_) (fun c2 => ?_)
      · refine fr_ite (fun c3 => ?_) (fun c3 => ?_)
        · exact fr_to sm_rf (fr_j_X0_toNextPairs_32 _ _ _ _ (fun x1 σ => ih x1 σ)) (fun _ h => h)
        · refine fr_ite (fun c4 => ?_) (fun c4 => ?_)
          · refine fr_ite (fun c5 => ?_) (fun c5 => ?_)
            · exact fr_to (sm_set (by decide) (sm_set (by decide) sm_rf)) (fr_j_X0_toNextPairs_32 _ _ _ _ (fun x1 σ => ih x1 σ)) (fun _ h => h)
            · exact fr_none
          · exact fr_none
      · exact fr_none
theorem fr_f_X0_toNextPairs (σ : k_Mem) : k_Fr [52] σ (f_X0_toNextPairs σ) := by
  unfold f_X0_toNextPairs
  exact fr_to sm_rf (fr_l_X0_toNextPairs_2   _ _ _) (fun _ h => h)
theorem fr_j_X0_countHoldingWith_67 (k16 : Int32 → Int32 → Int32 → Int32 → Int32 → k_Mem → Option (Int32 × k_Mem)) (x1 : Int32) (x2 : Int32) (x3 : Int32) (x5 : Int32) (σ : k_Mem) (hk16 : ∀ (a0 : Int32) (a1 : Int32) (a2 : Int32) (a3 : Int32) (a4 : Int32) (a5 : k_Mem), k_Fr [52] a5 (k16 a0 a1 a2 a3 a4 a5)) : k_Fr [52] σ (j_X0_countHoldingWith_67 k16 x1 x2 x3 x5 σ) := by
  unfold j_X0_countHoldingWith_67
  refine fr_bd sm_rf (fr_f_X0_toNextPairs _) (fun _ h => h) (fun r6 σ6 hσ6 => ?_)
  exact fr_to hσ6 (hk16 _ _ _ _ _ _) (fun _ h => h)
theorem fr_j_X0_countHoldingWith_49 (k16 : Int32 → Int32 → Int32 → Int32 → Int32 → k_Mem → Option (Int32 × k_Mem)) (x1 : Int32) (x2 : Int32) (x3 : Int32) (x5 : Int32) (xs0 : Int32) (σ : k_Mem) (hk16 : ∀ (a0 : Int32) (a1 : Int32) (a2 : Int32) (a3 : Int32) (a4 : Int32) (a5 : k_Mem), k_Fr [52] a5 (k16 a0 a1 a2 a3 a4 a5)) : k_Fr [52] σ (j_X0_countHoldingWith_49 k16 x1 x2 x3 x5 xs0 σ) := by
  unfold j_X0_countHoldingWith_49
  refine fr_ite (fun c1 => ?_) (fun c1 => ?_)
  · exact fr_to sm_rf (fr_j_X0_countHoldingWith_67 _ _ _ _ _ _ hk16) (fun _ h => h)
  · refine fr_bd sm_rf (fr_f_X0_firstQuarrel _) (fun _ _ => List.not_mem_nil) (fun r7 σ7 hσ7 => ?_)
    refine fr_ite (fun c2 => ?_) (fun c2 => ?_)
    · exact fr_to hσ7 (fr_j_X0_countHoldingWith_67 _ _ _ _ _ _ hk16) (fun _ h => h)
    · exact fr_to hσ7 (fr_j_X0_countHoldingWith_67 _ _ _ _ _ _ hk16) (fun _ h => h)
theorem fr_j_X0_countHoldingWith_44 (k16 : Int32 → Int32 → Int32 → Int32 → Int32 → k_Mem → Option (Int32 × k_Mem)) (x1 : Int32) (x2 : Int32) (x3 : Int32) (x5 : Int32) (σ : k_Mem) (hk16 : ∀ (a0 : Int32) (a1 : Int32) (a2 : Int32) (a3 : Int32) (a4 : Int32) (a5 : k_Mem), k_Fr [52] a5 (k16 a0 a1 a2 a3 a4 a5)) : k_Fr [52] σ (j_X0_countHoldingWith_44 k16 x1 x2 x3 x5 σ) := by
  unfold j_X0_countHoldingWith_44
  exact fr_to sm_rf (fr_j_X0_countHoldingWith_49 _ _ _ _ _ _ _ hk16) (fun _ h => h)
theorem fr_l_X0_countHoldingWith_16  : ∀ (n : Nat) (x1 : Int32) (x2 : Int32) (x3 : Int32) (x4 : Int32) (x5 : Int32) (σ : k_Mem), k_Fr [52] σ (l_X0_countHoldingWith_16  n x1 x2 x3 x4 x5 σ) := by
  intro n
  induction n with
  | zero => intro x1 x2 x3 x4 x5 σ; exact fr_none
  | succ n ih =>
    intro x1 x2 x3 x4 x5 σ
    rw [l_X0_countHoldingWith_16]
    refine fr_ite (fun c1 => ?_) (fun c1 => ?_)
    · exact fr_some sm_rf
    · refine fr_ite (fun c2 => ?_) (fun c2 => ?_)
      · exact fr_some sm_rf
      · refine fr_ite (fun c3 => ?_) (fun c3 => ?_)
        · exact fr_to sm_rf (fr_j_X0_countHoldingWith_44 _ _ _ _ _ _ (fun x1 x2 x3 x4 x5 σ => ih x1 x2 x3 x4 x5 σ)) (fun _ h => h)
        · refine fr_ite (fun c4 => ?_) (fun c4 => ?_)
          · refine fr_ite (fun c5 => ?_) (fun c5 => ?_)
            · exact fr_to sm_rf (fr_j_X0_countHoldingWith_44 _ _ _ _ _ _ (fun x1 x2 x3 x4 x5 σ => ih x1 x2 x3 x4 x5 σ)) (fun _ h => h)
            · exact fr_to sm_rf (fr_j_X0_countHoldingWith_49 _ _ _ _ _ _ _ (fun x1 x2 x3 x4 x5 σ => ih x1 x2 x3 x4 x5 σ)) (fun _ h => h)
          · exact fr_none
theorem fr_f_X0_countHoldingWith (x1 : Int32) (x2 : Int32) (σ : k_Mem) : k_Fr [52] σ (f_X0_countHoldingWith x1 x2 σ) := by
  unfold f_X0_countHoldingWith
  refine fr_bd sm_rf (fr_f_J7_fill_53178 _ _ _ _) (fun _ h => h) (fun _ σ1 hσ1 => ?_)
  exact fr_to hσ1 (fr_l_X0_countHoldingWith_16   _ _ _ _ _ _ _) (fun _ h => h)
theorem fr_f_X0_countHolding (σ : k_Mem) : k_Fr [52] σ (f_X0_countHolding σ) := by
  unfold f_X0_countHolding
  refine fr_bd sm_rf (fr_f_X0_countHoldingWith _ _ _) (fun _ h => h) (fun r1 σ1 hσ1 => ?_)
  exact fr_some hσ1
theorem fr_j_X0_findMost_63 (k22 : Int32 → Int32 → Int32 → k_Mem → Option (Int32 × k_Mem)) (x1 : Int32) (x3 : Int32) (σ : k_Mem) (hk22 : ∀ (a0 : Int32) (a1 : Int32) (a2 : Int32) (a3 : k_Mem), k_Fr [52, 54] a3 (k22 a0 a1 a2 a3)) : k_Fr [52, 54] σ (j_X0_findMost_63 k22 x1 x3 σ) := by
  unfold j_X0_findMost_63
  refine fr_bd sm_rf (fr_f_X0_toNextPairs _) (k_sub (by decide)) (fun r7 σ7 hσ7 => ?_)
  exact fr_to hσ7 (hk22 _ _ _ _) (fun _ h => h)
theorem fr_l_X0_findMost_22  : ∀ (n : Nat) (x1 : Int32) (x2 : Int32) (x3 : Int32) (σ : k_Mem), k_Fr [52, 54] σ (l_X0_findMost_22  n x1 x2 x3 σ) := by
  intro n
  induction n with
  | zero => intro x1 x2 x3 σ; exact fr_none
  | succ n ih =>
    intro x1 x2 x3 σ
    rw [l_X0_findMost_22]
    refine fr_ite (fun c1 => ?_) (fun c1 => ?_)
    · exact fr_some sm_rf
    · refine fr_ite (fun c2 => ?_) (fun c2 => ?_)
      · exact fr_some sm_rf
      · refine fr_bd sm_rf (fr_f_X0_allLikes _) (fun _ _ => List.not_mem_nil) (fun r5 σ5 hσ5 => ?_)
        refine fr_ite (fun c3 => ?_) (fun c3 => ?_)
        · exact fr_to hσ5 (fr_j_X0_findMost_63 _ _ _ _ (fun x1 x2 x3 σ => ih x1 x2 x3 σ)) (fun _ h => h)
        · refine fr_ite (fun c4 => ?_) (fun c4 => ?_)
          · exact fr_to (sm_row (by decide) hσ5) (fr_j_X0_findMost_63 _ _ _ _ (fun x1 x2 x3 σ => ih x1 x2 x3 σ)) (fun _ h => h)
          · exact fr_none
theorem fr_f_X0_findMost (σ : k_Mem) : k_Fr [52, 54] σ (f_X0_findMost σ) := by
  unfold f_X0_findMost
  refine fr_bd sm_rf (fr_f_J7_fill_53178 _ _ _ _) (k_sub (by decide)) (fun _ σ1 hσ1 => ?_)
  refine fr_bd hσ1 (fr_f_J7_fill_53178 _ _ _ _) (k_sub (by decide)) (fun _ σ2 hσ2 => ?_)
  exact fr_to hσ2 (fr_l_X0_findMost_22   _ _ _ _ _) (fun _ h => h)
theorem fr_f_X0_setMates (o1 : Nat) (n1 : Nat) (σ : k_Mem) : k_Fr [52] σ (f_X0_setMates o1 n1 σ) := by
  unfold f_X0_setMates
  refine fr_ite (fun c1 => ?_) (fun c1 => ?_)
  · exact fr_some (sm_row (by decide) sm_rf)
  · exact fr_none
theorem fr_j_X0_quarrels_29 (k4 : Int32 → Int32 → k_Mem → Option (Int32 × k_Mem)) (k11 : Int32 → Int32 → Int32 → k_Mem → Option (Int32 × k_Mem)) (x1 : Int32) (x2 : Int32) (x3 : Int32) (σ : k_Mem) (hk4 : ∀ (a0 : Int32) (a1 : Int32) (a2 : k_Mem), k_Fr [] a2 (k4 a0 a1 a2)) (hk11 : ∀ (a0 : Int32) (a1 : Int32) (a2 : Int32) (a3 : k_Mem), k_Fr [] a3 (k11 a0 a1 a2 a3)) : k_Fr [] σ (j_X0_quarrels_29 k4 k11 x1 x2 x3 σ) := by
  unfold j_X0_quarrels_29
  exact fr_to sm_rf (hk11 _ _ _ _) (fun _ h => h)
theorem fr_l_X0_quarrels_11 (k4 : Int32 → Int32 → k_Mem → Option (Int32 × k_Mem)) (hk4 : ∀ (a0 : Int32) (a1 : Int32) (a2 : k_Mem), k_Fr [] a2 (k4 a0 a1 a2)) : ∀ (n : Nat) (x1 : Int32) (x2 : Int32) (x3 : Int32) (σ : k_Mem), k_Fr [] σ (l_X0_quarrels_11 k4 n x1 x2 x3 σ) := by
  intro n
  induction n with
  | zero => intro x1 x2 x3 σ; exact fr_none
  | succ n ih =>
    intro x1 x2 x3 σ
    rw [l_X0_quarrels_11]
    refine fr_ite (fun c1 => ?_) (fun c1 => ?_)
    · exact fr_to sm_rf (hk4 _ _ _) (fun _ h => h)
    · refine fr_bd sm_rf (fr_f_X0_quarrelOver _ _ _) (fun _ _ => List.not_mem_nil) (fun r3 σ3 hσ3 => ?_)
      refine fr_ite (fun c2 => ?_) (fun c2 => ?_)
      · exact fr_to hσ3 (fr_j_X0_quarrels_29 _ _ _ _ _ _ hk4 (fun x1 x2 x3 σ => ih x1 x2 x3 σ)) (fun _ h => h)
      · exact fr_to hσ3 (fr_j_X0_quarrels_29 _ _ _ _ _ _ hk4 (fun x1 x2 x3 σ => ih x1 x2 x3 σ)) (fun _ h => h)
theorem fr_l_X0_quarrels_4  : ∀ (n : Nat) (x1 : Int32) (x2 : Int32) (σ : k_Mem), k_Fr [] σ (l_X0_quarrels_4  n x1 x2 σ) := by
  intro n
  induction n with
  | zero => intro x1 x2 σ; exact fr_none
  | succ n ih =>
    intro x1 x2 σ
    rw [l_X0_quarrels_4]
    refine fr_ite (fun c1 => ?_) (fun c1 => ?_)
    · exact fr_some sm_rf
    · exact fr_to sm_rf (fr_l_X0_quarrels_11 _ (fun x1 x2 σ => ih x1 x2 σ) _ _ _ _ _) (fun _ h => h)
theorem fr_f_X0_quarrels (σ : k_Mem) : k_Fr [] σ (f_X0_quarrels σ) := by
  unfold f_X0_quarrels
  exact fr_to sm_rf (fr_l_X0_quarrels_4   _ _ _ _) (fun _ h => h)
theorem fr_f_X6_feed (x1 : Int32) (σ : k_Mem) : k_Fr [1, 2] σ (f_X6_feed x1 σ) := by
  unfold f_X6_feed
  refine fr_ite (fun c1 => ?_) (fun c1 => ?_)
  · exact fr_some sm_rf
  · refine fr_ite (fun c2 => ?_) (fun c2 => ?_)
    · refine fr_bd sm_rf (fr_f_X4_put _ _) (fun _ h => h) (fun r3 σ3 hσ3 => ?_)
      refine fr_ite (fun c3 => ?_) (fun c3 => ?_)
      · exact fr_some hσ3
      · exact fr_some hσ3
    · exact fr_some sm_rf
theorem fr_f_X6_end (x1 : Int32) (σ : k_Mem) : k_Fr [1] σ (f_X6_end x1 σ) := by
  unfold f_X6_end
  refine fr_ite (fun c1 => ?_) (fun c1 => ?_)
  · exact fr_some sm_rf
  · refine fr_ite (fun c2 => ?_) (fun c2 => ?_)
    · exact fr_some (sm_set (by decide) sm_rf)
    · exact fr_some sm_rf
theorem fr_f_X6_text (σ : k_Mem) : k_Fr [0, 1, 3, 6, 7, 8, 9, 10, 11, 12, 13, 38, 39, 40, 41, 42, 43, 44, 45, 55] σ (f_X6_text σ) := by
  unfold f_X6_text
  refine fr_bd sm_rf (fr_f_X1_parse _) (k_sub (by decide)) (fun _ σ1 hσ1 => ?_)
  refine fr_ite (fun c1 => ?_) (fun c1 => ?_)
  · refine fr_bd (sm_set (by decide) hσ1) (fr_f_X5_become _ _ _) (k_sub (by decide)) (fun _ σ3 hσ3 => ?_)
    exact fr_some (sm_set (by decide) (sm_set (by decide) hσ3))
  · exact fr_some (sm_set (by decide) hσ1)
theorem fr_f_X6_fault (σ : k_Mem) : k_Fr [] σ (f_X6_fault σ) := by
  unfold f_X6_fault
  exact fr_some sm_rf
theorem fr_f_X6_rule (x1 : Int32) (σ : k_Mem) : k_Fr [] σ (f_X6_rule x1 σ) := by
  unfold f_X6_rule
  refine fr_ite (fun c1 => ?_) (fun c1 => ?_)
  · exact fr_some sm_rf
  · refine fr_ite (fun c2 => ?_) (fun c2 => ?_)
    · exact fr_some sm_rf
    · refine fr_ite (fun c3 => ?_) (fun c3 => ?_)
      · exact fr_some sm_rf
      · refine fr_ite (fun c4 => ?_) (fun c4 => ?_)
        · refine fr_bd sm_rf (fr_f_X5_wedBits _ _) (fun _ _ => List.not_mem_nil) (fun r5 σ5 hσ5 => ?_)
          exact fr_some hσ5
        · refine fr_ite (fun c5 => ?_) (fun c5 => ?_)
          · exact fr_some sm_rf
          · exact fr_some sm_rf
theorem fr_f_X6_orNone (x0 : Int32) (σ : k_Mem) : k_Fr [] σ (f_X6_orNone x0 σ) := by
  unfold f_X6_orNone
  refine fr_ite (fun c1 => ?_) (fun c1 => ?_)
  · exact fr_some sm_rf
  · exact fr_some sm_rf
theorem fr_f_X6_hand (x1 : Int32) (x2 : Int32) (σ : k_Mem) : k_Fr [] σ (f_X6_hand x1 x2 σ) := by
  unfold f_X6_hand
  refine fr_bd sm_rf (fr_f_X5_isHand _ _ _) (fun _ _ => List.not_mem_nil) (fun r1 σ1 hσ1 => ?_)
  refine fr_ite (fun c1 => ?_) (fun c1 => ?_)
  · exact fr_some hσ1
  · refine fr_ite (fun c2 => ?_) (fun c2 => ?_)
    · refine fr_ite (fun c3 => ?_) (fun c3 => ?_)
      · exact fr_some hσ1
      · exact fr_none
    · refine fr_ite (fun c4 => ?_) (fun c4 => ?_)
      · refine fr_ite (fun c5 => ?_) (fun c5 => ?_)
        · exact fr_some hσ1
        · exact fr_none
      · refine fr_ite (fun c6 => ?_) (fun c6 => ?_)
        · refine fr_ite (fun c7 => ?_) (fun c7 => ?_)
          · exact fr_some hσ1
          · exact fr_none
        · refine fr_ite (fun c8 => ?_) (fun c8 => ?_)
          · refine fr_ite (fun c9 => ?_) (fun c9 => ?_)
            · exact fr_some hσ1
            · exact fr_none
          · refine fr_ite (fun c10 => ?_) (fun c10 => ?_)
            · refine fr_ite (fun c11 => ?_) (fun c11 => ?_)
              · exact fr_some hσ1
              · exact fr_none
            · refine fr_ite (fun c12 => ?_) (fun c12 => ?_)
              · refine fr_ite (fun c13 => ?_) (fun c13 => ?_)
                · refine fr_bd hσ1 (fr_f_X6_orNone _ _) (fun _ _ => List.not_mem_nil) (fun r9 σ9 hσ9 => ?_)
                  exact fr_some hσ9
                · exact fr_none
              · refine fr_ite (fun c14 => ?_) (fun c14 => ?_)
                · refine fr_ite (fun c15 => ?_) (fun c15 => ?_)
                  · exact fr_some hσ1
                  · exact fr_none
                · exact fr_some hσ1
theorem fr_f_X6_isTrait (x0 : Int32) (σ : k_Mem) : k_Fr [] σ (f_X6_isTrait x0 σ) := by
  unfold f_X6_isTrait
  refine fr_ite (fun c1 => ?_) (fun c1 => ?_)
  · exact fr_some sm_rf
  · refine fr_ite (fun c2 => ?_) (fun c2 => ?_)
    · exact fr_some sm_rf
    · exact fr_some sm_rf
theorem fr_f_X6_page (x1 : Int32) (x2 : Int32) (σ : k_Mem) : k_Fr [] σ (f_X6_page x1 x2 σ) := by
  unfold f_X6_page
  refine fr_bd sm_rf (fr_f_X5_isHand _ _ _) (fun _ _ => List.not_mem_nil) (fun r1 σ1 hσ1 => ?_)
  refine fr_ite (fun c1 => ?_) (fun c1 => ?_)
  · exact fr_some hσ1
  · refine fr_bd hσ1 (fr_f_X6_isTrait _ _) (fun _ _ => List.not_mem_nil) (fun r3 σ3 hσ3 => ?_)
    refine fr_ite (fun c2 => ?_) (fun c2 => ?_)
    · exact fr_some hσ3
    · refine fr_bd hσ3 (fr_f_X5_shows _ _ _ _) (fun _ _ => List.not_mem_nil) (fun r5 σ5 hσ5 => ?_)
      exact fr_some hσ5
theorem fr_f_X6_likes (x1 : Int32) (x2 : Int32) (σ : k_Mem) : k_Fr [46, 47, 48, 49, 50, 51] σ (f_X6_likes x1 x2 σ) := by
  unfold f_X6_likes
  refine fr_bd sm_rf (fr_f_X5_isHand _ _ _) (fun _ _ => List.not_mem_nil) (fun r1 σ1 hσ1 => ?_)
  refine fr_ite (fun c1 => ?_) (fun c1 => ?_)
  · exact fr_some hσ1
  · refine fr_bd hσ1 (fr_f_X5_isHand _ _ _) (fun _ _ => List.not_mem_nil) (fun r3 σ3 hσ3 => ?_)
    refine fr_ite (fun c2 => ?_) (fun c2 => ?_)
    · exact fr_some hσ3
    · refine fr_bd hσ3 (fr_f_X5_sameSide _ _ _) (fun _ _ => List.not_mem_nil) (fun r5 σ5 hσ5 => ?_)
      refine fr_ite (fun c3 => ?_) (fun c3 => ?_)
      · refine fr_bd hσ5 (fr_f_X0_weigh _ _) (fun _ h => h) (fun _ σ7 hσ7 => ?_)
        refine fr_bd hσ7 (fr_f_X0_liking _ _ _) (fun _ _ => List.not_mem_nil) (fun r8 σ8 hσ8 => ?_)
        exact fr_some hσ8
      · exact fr_some hσ5
theorem fr_f_X6_rather (x1 : Int32) (x2 : Int32) (σ : k_Mem) : k_Fr [46, 47, 48, 49, 50, 51] σ (f_X6_rather x1 x2 σ) := by
  unfold f_X6_rather
  refine fr_bd sm_rf (fr_f_X5_isHand _ _ _) (fun _ _ => List.not_mem_nil) (fun r1 σ1 hσ1 => ?_)
  refine fr_ite (fun c1 => ?_) (fun c1 => ?_)
  · exact fr_some hσ1
  · refine fr_ite (fun c2 => ?_) (fun c2 => ?_)
    · refine fr_bd hσ1 (fr_f_X0_weigh _ _) (fun _ h => h) (fun _ σ4 hσ4 => ?_)
      refine fr_bd hσ4 (fr_f_X0_choiceOf _ _ _) (fun _ _ => List.not_mem_nil) (fun r5 σ5 hσ5 => ?_)
      refine fr_bd hσ5 (fr_f_X6_orNone _ _) (fun _ _ => List.not_mem_nil) (fun r6 σ6 hσ6 => ?_)
      exact fr_some hσ6
    · exact fr_some hσ1
theorem fr_f_X6_replace (o0 : Nat) (n0 : Nat) (x1 : Int32) (x2 : Int32) (x3 : Int32) (σ : k_Mem) : k_Fr [o0] σ (f_X6_replace o0 n0 x1 x2 x3 σ) := by
  unfold f_X6_replace
  refine fr_ite (fun c1 => ?_) (fun c1 => ?_)
  · exact fr_some sm_rf
  · refine fr_ite (fun c2 => ?_) (fun c2 => ?_)
    · exact fr_some sm_rf
    · refine fr_ite (fun c3 => ?_) (fun c3 => ?_)
      · refine fr_ite (fun c4 => ?_) (fun c4 => ?_)
        · refine fr_ite (fun c5 => ?_) (fun c5 => ?_)
          · exact fr_some (sm_set (by simp) sm_rf)
          · exact fr_none
        · exact fr_none
      · exact fr_some sm_rf
theorem fr_f_X6_isStrokes (x0 : Int32) (σ : k_Mem) : k_Fr [] σ (f_X6_isStrokes x0 σ) := by
  unfold f_X6_isStrokes
  refine fr_ite (fun c1 => ?_) (fun c1 => ?_)
  · exact fr_some sm_rf
  · refine fr_ite (fun c2 => ?_) (fun c2 => ?_)
    · exact fr_some sm_rf
    · exact fr_some sm_rf
theorem fr_j_X6_alter_71 (xs1 : Int32) (xs2 : Int32) (xs3 : Int32) (σ : k_Mem) : k_Fr [7, 8, 9, 10, 11] σ (j_X6_alter_71 xs1 xs2 xs3 σ) := by
  unfold j_X6_alter_71
  refine fr_bd sm_rf (fr_f_X6_replace _ _ _ _ _ _) (k_sub (by decide)) (fun r5 σ5 hσ5 => ?_)
  exact fr_some hσ5
theorem fr_j_X6_alter_70 (xs1 : Int32) (xs2 : Int32) (σ : k_Mem) : k_Fr [7, 8, 9, 10, 11] σ (j_X6_alter_70 xs1 xs2 σ) := by
  unfold j_X6_alter_70
  exact fr_to sm_rf (fr_j_X6_alter_71 _ _ _ _ ) (fun _ h => h)
theorem fr_j_X6_alter_132 (xs1 : Int32) (xs2 : Int32) (xs3 : Int32) (σ : k_Mem) : k_Fr [7, 8, 9, 10, 11] σ (j_X6_alter_132 xs1 xs2 xs3 σ) := by
  unfold j_X6_alter_132
  refine fr_bd sm_rf (fr_f_X6_replace _ _ _ _ _ _) (k_sub (by decide)) (fun r15 σ15 hσ15 => ?_)
  exact fr_some hσ15
theorem fr_j_X6_alter_131 (xs1 : Int32) (xs2 : Int32) (σ : k_Mem) : k_Fr [7, 8, 9, 10, 11] σ (j_X6_alter_131 xs1 xs2 σ) := by
  unfold j_X6_alter_131
  exact fr_to sm_rf (fr_j_X6_alter_132 _ _ _ _ ) (fun _ h => h)
theorem fr_f_X6_alter (x1 : Int32) (x2 : Int32) (x3 : Int32) (σ : k_Mem) : k_Fr [7, 8, 9, 10, 11] σ (f_X6_alter x1 x2 x3 σ) := by
  unfold f_X6_alter
  refine fr_bd sm_rf (fr_f_X5_isHand _ _ _) (fun _ _ => List.not_mem_nil) (fun r1 σ1 hσ1 => ?_)
  refine fr_ite (fun c1 => ?_) (fun c1 => ?_)
  · exact fr_some hσ1
  · refine fr_ite (fun c2 => ?_) (fun c2 => ?_)
    · refine fr_ite (fun c3 => ?_) (fun c3 => ?_)
      · exact fr_to hσ1 (fr_j_X6_alter_70 _ _ _ ) (fun _ h => h)
      · refine fr_ite (fun c4 => ?_) (fun c4 => ?_)
        · exact fr_to hσ1 (fr_j_X6_alter_70 _ _ _ ) (fun _ h => h)
        · exact fr_to hσ1 (fr_j_X6_alter_71 _ _ _ _ ) (fun _ h => h)
    · refine fr_ite (fun c5 => ?_) (fun c5 => ?_)
      · refine fr_bd hσ1 (fr_f_X6_isStrokes _ _) (fun _ _ => List.not_mem_nil) (fun r8 σ8 hσ8 => ?_)
        refine fr_bd hσ8 (fr_f_X6_replace _ _ _ _ _ _) (k_sub (by decide)) (fun r9 σ9 hσ9 => ?_)
        exact fr_some hσ9
      · refine fr_ite (fun c6 => ?_) (fun c6 => ?_)
        · refine fr_bd hσ1 (fr_f_X6_isStrokes _ _) (fun _ _ => List.not_mem_nil) (fun r11 σ11 hσ11 => ?_)
          refine fr_bd hσ11 (fr_f_X6_replace _ _ _ _ _ _) (k_sub (by decide)) (fun r12 σ12 hσ12 => ?_)
          exact fr_some hσ12
        · refine fr_ite (fun c7 => ?_) (fun c7 => ?_)
          · refine fr_ite (fun c8 => ?_) (fun c8 => ?_)
            · exact fr_to hσ1 (fr_j_X6_alter_131 _ _ _ ) (fun _ h => h)
            · refine fr_ite (fun c9 => ?_) (fun c9 => ?_)
              · exact fr_to hσ1 (fr_j_X6_alter_131 _ _ _ ) (fun _ h => h)
              · exact fr_to hσ1 (fr_j_X6_alter_132 _ _ _ _ ) (fun _ h => h)
          · refine fr_ite (fun c10 => ?_) (fun c10 => ?_)
            · refine fr_bd hσ1 (fr_f_X5_isHand _ _ _) (fun _ _ => List.not_mem_nil) (fun r18 σ18 hσ18 => ?_)
              refine fr_bd hσ18 (fr_f_X6_replace _ _ _ _ _ _) (k_sub (by decide)) (fun r19 σ19 hσ19 => ?_)
              exact fr_some hσ19
            · exact fr_some hσ1
theorem fr_j_X6_run_29 (x1 : Int32) (x2 : Int32) (xs0 : Int32) (σ : k_Mem) : k_Fr [6] σ (j_X6_run_29 x1 x2 xs0 σ) := by
  unfold j_X6_run_29
  refine fr_bd sm_rf (fr_f_X5_setRun _ _ _ _) (fun _ h => h) (fun _ σ5 hσ5 => ?_)
  exact fr_some hσ5
theorem fr_f_X6_run (x1 : Int32) (x2 : Int32) (σ : k_Mem) : k_Fr [6] σ (f_X6_run x1 x2 σ) := by
  unfold f_X6_run
  refine fr_bd sm_rf (fr_f_X5_isHand _ _ _) (fun _ _ => List.not_mem_nil) (fun r1 σ1 hσ1 => ?_)
  refine fr_ite (fun c1 => ?_) (fun c1 => ?_)
  · exact fr_some hσ1
  · refine fr_bd hσ1 (fr_f_X5_isRun _ _ _) (fun _ _ => List.not_mem_nil) (fun r3 σ3 hσ3 => ?_)
    refine fr_ite (fun c2 => ?_) (fun c2 => ?_)
    · exact fr_to hσ3 (fr_j_X6_run_29 _ _ _ _ ) (fun _ h => h)
    · exact fr_to hσ3 (fr_j_X6_run_29 _ _ _ _ ) (fun _ h => h)
theorem fr_j_X6_fold_41 (x1 : Int32) (x2 : Int32) (x3 : Int32) (xs0 : Int32) (σ : k_Mem) : k_Fr [13] σ (j_X6_fold_41 x1 x2 x3 xs0 σ) := by
  unfold j_X6_fold_41
  refine fr_bd sm_rf (fr_f_X5_setFolded _ _ _ _ _) (k_sub (by decide)) (fun _ σ7 hσ7 => ?_)
  exact fr_some hσ7
theorem fr_f_X6_fold (x1 : Int32) (x2 : Int32) (x3 : Int32) (σ : k_Mem) : k_Fr [13] σ (f_X6_fold x1 x2 x3 σ) := by
  unfold f_X6_fold
  refine fr_bd sm_rf (fr_f_X5_isLeft _ _ _) (fun _ _ => List.not_mem_nil) (fun r1 σ1 hσ1 => ?_)
  refine fr_ite (fun c1 => ?_) (fun c1 => ?_)
  · exact fr_some hσ1
  · refine fr_bd hσ1 (fr_f_X5_isRight _ _ _) (fun _ _ => List.not_mem_nil) (fun r3 σ3 hσ3 => ?_)
    refine fr_ite (fun c2 => ?_) (fun c2 => ?_)
    · exact fr_some hσ3
    · refine fr_bd hσ3 (fr_f_X5_areFolded _ _ _ _) (fun _ _ => List.not_mem_nil) (fun r5 σ5 hσ5 => ?_)
      refine fr_ite (fun c3 => ?_) (fun c3 => ?_)
      · exact fr_to hσ5 (fr_j_X6_fold_41 _ _ _ _ _ ) (fun _ h => h)
      · exact fr_to hσ5 (fr_j_X6_fold_41 _ _ _ _ _ ) (fun _ h => h)
theorem fr_f_X6_wed (x1 : Int32) (x2 : Int32) (σ : k_Mem) : k_Fr [12] σ (f_X6_wed x1 x2 σ) := by
  unfold f_X6_wed
  refine fr_bd sm_rf (fr_f_X5_isLeft _ _ _) (fun _ _ => List.not_mem_nil) (fun r1 σ1 hσ1 => ?_)
  refine fr_ite (fun c1 => ?_) (fun c1 => ?_)
  · exact fr_some hσ1
  · refine fr_bd hσ1 (fr_f_X5_isRight _ _ _) (fun _ _ => List.not_mem_nil) (fun r3 σ3 hσ3 => ?_)
    refine fr_ite (fun c2 => ?_) (fun c2 => ?_)
    · exact fr_some hσ3
    · refine fr_bd hσ3 (fr_f_X5_isWed _ _ _) (fun _ _ => List.not_mem_nil) (fun r5 σ5 hσ5 => ?_)
      refine fr_ite (fun c3 => ?_) (fun c3 => ?_)
      · refine fr_bd hσ5 (fr_f_X5_isWed _ _ _) (fun _ _ => List.not_mem_nil) (fun r7 σ7 hσ7 => ?_)
        refine fr_ite (fun c4 => ?_) (fun c4 => ?_)
        · refine fr_bd hσ7 (fr_f_X5_areFolded _ _ _ _) (fun _ _ => List.not_mem_nil) (fun r9 σ9 hσ9 => ?_)
          refine fr_ite (fun c5 => ?_) (fun c5 => ?_)
          · refine fr_bd hσ9 (fr_f_X5_join _ _ _ _) (k_sub (by decide)) (fun _ σ11 hσ11 => ?_)
            refine fr_bd hσ11 (fr_f_X5_couples _ _) (fun _ _ => List.not_mem_nil) (fun r12 σ12 hσ12 => ?_)
            exact fr_some hσ12
          · exact fr_some hσ9
        · exact fr_some hσ7
      · exact fr_some hσ5
theorem fr_f_X6_part (x1 : Int32) (σ : k_Mem) : k_Fr [12] σ (f_X6_part x1 σ) := by
  unfold f_X6_part
  refine fr_bd sm_rf (fr_f_X5_isHand _ _ _) (fun _ _ => List.not_mem_nil) (fun r1 σ1 hσ1 => ?_)
  refine fr_ite (fun c1 => ?_) (fun c1 => ?_)
  · exact fr_some hσ1
  · refine fr_ite (fun c2 => ?_) (fun c2 => ?_)
    · refine fr_ite (fun c3 => ?_) (fun c3 => ?_)
      · exact fr_some hσ1
      · refine fr_bd hσ1 (fr_f_X5_divorce _ _ _ _) (k_sub (by decide)) (fun _ σ4 hσ4 => ?_)
        exact fr_some hσ4
    · exact fr_none
theorem fr_f_X6_asked (x1 : Int32) (x2 : Int32) (σ : k_Mem) : k_Fr [46, 47, 48, 49, 50, 51, 52, 53] σ (f_X6_asked x1 x2 σ) := by
  unfold f_X6_asked
  refine fr_ite (fun c1 => ?_) (fun c1 => ?_)
  · exact fr_some sm_rf
  · refine fr_ite (fun c2 => ?_) (fun c2 => ?_)
    · exact fr_some sm_rf
    · refine fr_bd sm_rf (fr_f_X5_isHand _ _ _) (fun _ _ => List.not_mem_nil) (fun r3 σ3 hσ3 => ?_)
      refine fr_ite (fun c3 => ?_) (fun c3 => ?_)
      · exact fr_some hσ3
      · refine fr_bd hσ3 (fr_f_X0_court _ _ _) (fun _ h => h) (fun _ σ5 hσ5 => ?_)
        refine fr_ite (fun c4 => ?_) (fun c4 => ?_)
        · refine fr_bd hσ5 (fr_f_X6_orNone _ _) (fun _ _ => List.not_mem_nil) (fun r6 σ6 hσ6 => ?_)
          exact fr_some hσ6
        · exact fr_none
theorem fr_f_X6_sum (x1 : Int32) (σ : k_Mem) : k_Fr [46, 47, 48, 49, 50, 51, 52, 53] σ (f_X6_sum x1 σ) := by
  unfold f_X6_sum
  refine fr_ite (fun c1 => ?_) (fun c1 => ?_)
  · exact fr_some sm_rf
  · refine fr_ite (fun c2 => ?_) (fun c2 => ?_)
    · refine fr_bd sm_rf (fr_f_X0_court _ _ _) (fun _ h => h) (fun _ σ3 hσ3 => ?_)
      refine fr_ite (fun c3 => ?_) (fun c3 => ?_)
      · refine fr_bd hσ3 (fr_f_X0_pairs _) (fun _ _ => List.not_mem_nil) (fun r5 σ5 hσ5 => ?_)
        exact fr_some hσ5
      · refine fr_bd hσ3 (fr_f_X0_allLikes _) (fun _ _ => List.not_mem_nil) (fun r6 σ6 hσ6 => ?_)
        exact fr_some hσ6
    · exact fr_some sm_rf
theorem fr_j_X6_hold_22 (x1 : Int32) (x2 : Int32) (σ : k_Mem) : k_Fr [46, 47, 48, 49, 50, 51, 52, 53] σ (j_X6_hold_22 x1 x2 σ) := by
  unfold j_X6_hold_22
  refine fr_bd sm_rf (fr_f_X0_court _ _ _) (fun _ h => h) (fun _ σ2 hσ2 => ?_)
  refine fr_ite (fun c1 => ?_) (fun c1 => ?_)
  · refine fr_bd hσ2 (fr_f_X0_countHolding _) (k_sub (by decide)) (fun r4 σ4 hσ4 => ?_)
    exact fr_some hσ4
  · refine fr_ite (fun c2 => ?_) (fun c2 => ?_)
    · refine fr_bd hσ2 (fr_f_X0_countHoldingWith _ _ _) (k_sub (by decide)) (fun r5 σ5 hσ5 => ?_)
      exact fr_some hσ5
    · exact fr_none
theorem fr_f_X6_hold (x1 : Int32) (σ : k_Mem) : k_Fr [46, 47, 48, 49, 50, 51, 52, 53] σ (f_X6_hold x1 σ) := by
  unfold f_X6_hold
  refine fr_ite (fun c1 => ?_) (fun c1 => ?_)
  · exact fr_to sm_rf (fr_j_X6_hold_22 _ _ _ ) (fun _ h => h)
  · refine fr_bd sm_rf (fr_f_X5_isHand _ _ _) (fun _ _ => List.not_mem_nil) (fun r6 σ6 hσ6 => ?_)
    refine fr_ite (fun c2 => ?_) (fun c2 => ?_)
    · exact fr_some hσ6
    · exact fr_to hσ6 (fr_j_X6_hold_22 _ _ _ ) (fun _ h => h)
theorem fr_j_X6_most_22 (x1 : Int32) (x2 : Int32) (σ : k_Mem) : k_Fr [46, 47, 48, 49, 50, 51, 52, 54] σ (j_X6_most_22 x1 x2 σ) := by
  unfold j_X6_most_22
  refine fr_bd sm_rf (fr_f_X0_weigh _ _) (k_sub (by decide)) (fun _ σ2 hσ2 => ?_)
  refine fr_bd hσ2 (fr_f_X0_findMost _) (k_sub (by decide)) (fun r3 σ3 hσ3 => ?_)
  refine fr_ite (fun c1 => ?_) (fun c1 => ?_)
  · exact fr_some hσ3
  · refine fr_ite (fun c2 => ?_) (fun c2 => ?_)
    · refine fr_bd hσ3 (fr_f_X6_orNone _ _) (fun _ _ => List.not_mem_nil) (fun r5 σ5 hσ5 => ?_)
      exact fr_some hσ5
    · exact fr_none
theorem fr_f_X6_most (x1 : Int32) (σ : k_Mem) : k_Fr [46, 47, 48, 49, 50, 51, 52, 54] σ (f_X6_most x1 σ) := by
  unfold f_X6_most
  refine fr_ite (fun c1 => ?_) (fun c1 => ?_)
  · exact fr_to sm_rf (fr_j_X6_most_22 _ _ _ ) (fun _ h => h)
  · refine fr_bd sm_rf (fr_f_X5_isLeft _ _ _) (fun _ _ => List.not_mem_nil) (fun r6 σ6 hσ6 => ?_)
    refine fr_ite (fun c2 => ?_) (fun c2 => ?_)
    · exact fr_some hσ6
    · exact fr_to hσ6 (fr_j_X6_most_22 _ _ _ ) (fun _ h => h)
theorem fr_f_X6_quarrel (x1 : Int32) (σ : k_Mem) : k_Fr [46, 47, 48, 49, 50, 51, 52] σ (f_X6_quarrel x1 σ) := by
  unfold f_X6_quarrel
  refine fr_ite (fun c1 => ?_) (fun c1 => ?_)
  · exact fr_some sm_rf
  · refine fr_ite (fun c2 => ?_) (fun c2 => ?_)
    · refine fr_bd sm_rf (fr_f_X0_weigh _ _) (k_sub (by decide)) (fun _ σ3 hσ3 => ?_)
      refine fr_bd hσ3 (fr_f_X0_setMates _ _ _) (k_sub (by decide)) (fun _ σ4 hσ4 => ?_)
      refine fr_bd hσ4 (fr_f_X0_firstQuarrel _) (fun _ _ => List.not_mem_nil) (fun r5 σ5 hσ5 => ?_)
      refine fr_ite (fun c3 => ?_) (fun c3 => ?_)
      · refine fr_bd hσ5 (fr_f_X6_orNone _ _) (fun _ _ => List.not_mem_nil) (fun r7 σ7 hσ7 => ?_)
        exact fr_some hσ7
      · refine fr_bd hσ5 (fr_f_X0_quarrels _) (fun _ _ => List.not_mem_nil) (fun r8 σ8 hσ8 => ?_)
        exact fr_some hσ8
    · exact fr_some sm_rf
theorem fr_f_X6_alone (σ : k_Mem) : k_Fr [46, 47, 48, 49, 50, 51, 52, 53] σ (f_X6_alone σ) := by
  unfold f_X6_alone
  refine fr_bd sm_rf (fr_f_X0_court _ _ _) (fun _ h => h) (fun _ σ1 hσ1 => ?_)
  refine fr_bd hσ1 (fr_f_X0_matedBits _) (fun _ _ => List.not_mem_nil) (fun r2 σ2 hσ2 => ?_)
  exact fr_some hσ2
theorem fr_l_X6_years_32  : ∀ (n : Nat) (x1 : Int32) (x2 : Int32) (σ : k_Mem), k_Fr [6, 8, 9] σ (l_X6_years_32  n x1 x2 σ) := by
  intro n
  induction n with
  | zero => intro x1 x2 σ; exact fr_none
  | succ n ih =>
    intro x1 x2 σ
    rw [l_X6_years_32]
    refine fr_ite (fun c1 => ?_) (fun c1 => ?_)
    · exact fr_some sm_rf
    · refine fr_bd sm_rf (fr_f_X5_passYear _ _) (k_sub (by decide)) (fun _ σ5 hσ5 => ?_)
      exact fr_to hσ5 (ih _ _ _) (fun _ h => h)
theorem fr_f_X6_years (x1 : Int32) (σ : k_Mem) : k_Fr [6, 8, 9] σ (f_X6_years x1 σ) := by
  unfold f_X6_years
  refine fr_ite (fun c1 => ?_) (fun c1 => ?_)
  · exact fr_some sm_rf
  · refine fr_ite (fun c2 => ?_) (fun c2 => ?_)
    · refine fr_ite (fun c3 => ?_) (fun c3 => ?_)
      · exact fr_to sm_rf (fr_l_X6_years_32   _ _ _ _) (fun _ h => h)
      · exact fr_some sm_rf
    · exact fr_some sm_rf
theorem fr_l_X6_alike_13  : ∀ (n : Nat) (x1 : Int32) (σ : k_Mem), k_Fr [14, 15, 16, 17, 18, 19, 20, 21] σ (l_X6_alike_13  n x1 σ) := by
  intro n
  induction n with
  | zero => intro x1 σ; exact fr_none
  | succ n ih =>
    intro x1 σ
    rw [l_X6_alike_13]
    refine fr_ite (fun c1 => ?_) (fun c1 => ?_)
    · exact fr_some sm_rf
    · refine fr_bd sm_rf (fr_f_X5_couplesAlike _ _) (fun _ _ => List.not_mem_nil) (fun r3 σ3 hσ3 => ?_)
      refine fr_ite (fun c2 => ?_) (fun c2 => ?_)
      · refine fr_bd hσ3 (fr_f_X5_passYear _ _) (k_sub (by decide)) (fun _ σ5 hσ5 => ?_)
        exact fr_to hσ5 (ih _ _) (fun _ h => h)
      · exact fr_some hσ3
theorem fr_f_X6_alike (σ : k_Mem) : k_Fr [14, 15, 16, 17, 18, 19, 20, 21] σ (f_X6_alike σ) := by
  unfold f_X6_alike
  refine fr_bd sm_rf (fr_f_X5_become _ _ _) (k_sub (by decide)) (fun _ σ1 hσ1 => ?_)
  exact fr_to hσ1 (fr_l_X6_alike_13   _ _ _) (fun _ h => h)
theorem fr_j_X6_near_104 (k20 : Int32 → Int32 → Int32 → Int32 → k_Mem → Option (Int32 × k_Mem)) (k33 : Int32 → Int32 → Int32 → Int32 → Int32 → k_Mem → Option (Int32 × k_Mem)) (x1 : Int32) (x2 : Int32) (x3 : Int32) (x4 : Int32) (x5 : Int32) (σ : k_Mem) (hk20 : ∀ (a0 : Int32) (a1 : Int32) (a2 : Int32) (a3 : Int32) (a4 : k_Mem), k_Fr [] a4 (k20 a0 a1 a2 a3 a4)) (hk33 : ∀ (a0 : Int32) (a1 : Int32) (a2 : Int32) (a3 : Int32) (a4 : Int32) (a5 : k_Mem), k_Fr [] a5 (k33 a0 a1 a2 a3 a4 a5)) : k_Fr [] σ (j_X6_near_104 k20 k33 x1 x2 x3 x4 x5 σ) := by
  unfold j_X6_near_104
  exact fr_to sm_rf (hk33 _ _ _ _ _ _) (fun _ h => h)
theorem fr_j_X6_near_92 (k20 : Int32 → Int32 → Int32 → Int32 → k_Mem → Option (Int32 × k_Mem)) (k33 : Int32 → Int32 → Int32 → Int32 → Int32 → k_Mem → Option (Int32 × k_Mem)) (x1 : Int32) (x4 : Int32) (x5 : Int32) (x6 : Int32) (σ : k_Mem) (hk20 : ∀ (a0 : Int32) (a1 : Int32) (a2 : Int32) (a3 : Int32) (a4 : k_Mem), k_Fr [] a4 (k20 a0 a1 a2 a3 a4)) (hk33 : ∀ (a0 : Int32) (a1 : Int32) (a2 : Int32) (a3 : Int32) (a4 : Int32) (a5 : k_Mem), k_Fr [] a5 (k33 a0 a1 a2 a3 a4 a5)) : k_Fr [] σ (j_X6_near_92 k20 k33 x1 x4 x5 x6 σ) := by
  unfold j_X6_near_92
  exact fr_to sm_rf (fr_j_X6_near_104 _ _ _ _ _ _ _ _ hk20 hk33) (fun _ h => h)
theorem fr_l_X6_near_33 (k20 : Int32 → Int32 → Int32 → Int32 → k_Mem → Option (Int32 × k_Mem)) (hk20 : ∀ (a0 : Int32) (a1 : Int32) (a2 : Int32) (a3 : Int32) (a4 : k_Mem), k_Fr [] a4 (k20 a0 a1 a2 a3 a4)) : ∀ (n : Nat) (x1 : Int32) (x2 : Int32) (x3 : Int32) (x4 : Int32) (x5 : Int32) (σ : k_Mem), k_Fr [] σ (l_X6_near_33 k20 n x1 x2 x3 x4 x5 σ) := by
  intro n
  induction n with
  | zero => intro x1 x2 x3 x4 x5 σ; exact fr_none
  | succ n ih =>
    intro x1 x2 x3 x4 x5 σ
    rw [l_X6_near_33]
    refine fr_ite (fun c1 => ?_) (fun c1 => ?_)
    · exact fr_to sm_rf (hk20 _ _ _ _ _) (fun _ h => h)
    · refine fr_bd sm_rf (fr_f_X5_isHand _ _ _) (fun _ _ => List.not_mem_nil) (fun r6 σ6 hσ6 => ?_)
      refine fr_ite (fun c2 => ?_) (fun c2 => ?_)
      · exact fr_to hσ6 (fr_j_X6_near_104 _ _ _ _ _ _ _ _ hk20 (fun x1 x2 x3 x4 x5 σ => ih x1 x2 x3 x4 x5 σ)) (fun _ h => h)
      · refine fr_bd hσ6 (fr_f_X5_isHand _ _ _) (fun _ _ => List.not_mem_nil) (fun r8 σ8 hσ8 => ?_)
        refine fr_ite (fun c3 => ?_) (fun c3 => ?_)
        · exact fr_to hσ8 (fr_j_X6_near_104 _ _ _ _ _ _ _ _ hk20 (fun x1 x2 x3 x4 x5 σ => ih x1 x2 x3 x4 x5 σ)) (fun _ h => h)
        · refine fr_bd hσ8 (fr_f_X5_unlike _ _ _ _) (fun _ _ => List.not_mem_nil) (fun r10 σ10 hσ10 => ?_)
          refine fr_ite (fun c4 => ?_) (fun c4 => ?_)
          · exact fr_to hσ10 (fr_j_X6_near_92 _ _ _ _ _ _ _ hk20 (fun x1 x2 x3 x4 x5 σ => ih x1 x2 x3 x4 x5 σ)) (fun _ h => h)
          · refine fr_ite (fun c5 => ?_) (fun c5 => ?_)
            · exact fr_to hσ10 (fr_j_X6_near_104 _ _ _ _ _ _ _ _ hk20 (fun x1 x2 x3 x4 x5 σ => ih x1 x2 x3 x4 x5 σ)) (fun _ h => h)
            · exact fr_to hσ10 (fr_j_X6_near_92 _ _ _ _ _ _ _ hk20 (fun x1 x2 x3 x4 x5 σ => ih x1 x2 x3 x4 x5 σ)) (fun _ h => h)
theorem fr_l_X6_near_20  : ∀ (n : Nat) (x1 : Int32) (x2 : Int32) (x3 : Int32) (x4 : Int32) (σ : k_Mem), k_Fr [] σ (l_X6_near_20  n x1 x2 x3 x4 σ) := by
  intro n
  induction n with
  | zero => intro x1 x2 x3 x4 σ; exact fr_none
  | succ n ih =>
    intro x1 x2 x3 x4 σ
    rw [l_X6_near_20]
    refine fr_ite (fun c1 => ?_) (fun c1 => ?_)
    · refine fr_ite (fun c2 => ?_) (fun c2 => ?_)
      · exact fr_some sm_rf
      · exact fr_some sm_rf
    · exact fr_to sm_rf (fr_l_X6_near_33 _ (fun x1 x2 x3 x4 σ => ih x1 x2 x3 x4 σ) _ _ _ _ _ _ _) (fun _ h => h)
theorem fr_f_X6_near (x1 : Int32) (σ : k_Mem) : k_Fr [] σ (f_X6_near x1 σ) := by
  unfold f_X6_near
  refine fr_ite (fun c1 => ?_) (fun c1 => ?_)
  · exact fr_some sm_rf
  · refine fr_ite (fun c2 => ?_) (fun c2 => ?_)
    · exact fr_to sm_rf (fr_l_X6_near_20   _ _ _ _ _ _) (fun _ h => h)
    · exact fr_some sm_rf
theorem fr_j_X6_forge_145 (k44 : Int32 → Int32 → Int32 → Int32 → Int32 → Int32 → k_Mem → Option (Int32 × k_Mem)) (x1 : Int32) (x2 : Int32) (x3 : Int32) (x4 : Int32) (x5 : Int32) (x6 : Int32) (σ : k_Mem) (hk44 : ∀ (a0 : Int32) (a1 : Int32) (a2 : Int32) (a3 : Int32) (a4 : Int32) (a5 : Int32) (a6 : k_Mem), k_Fr [14, 15, 16, 17, 18, 19, 20, 21, 46, 47, 48, 49, 50, 51, 52, 53] a6 (k44 a0 a1 a2 a3 a4 a5 a6)) : k_Fr [14, 15, 16, 17, 18, 19, 20, 21, 46, 47, 48, 49, 50, 51, 52, 53] σ (j_X6_forge_145 k44 x1 x2 x3 x4 x5 x6 σ) := by
  unfold j_X6_forge_145
  exact fr_to sm_rf (hk44 _ _ _ _ _ _ _) (fun _ h => h)
theorem fr_j_X6_forge_134 (k44 : Int32 → Int32 → Int32 → Int32 → Int32 → Int32 → k_Mem → Option (Int32 × k_Mem)) (x1 : Int32) (x2 : Int32) (x6 : Int32) (x7 : Int32) (x8 : Int32) (σ : k_Mem) (hk44 : ∀ (a0 : Int32) (a1 : Int32) (a2 : Int32) (a3 : Int32) (a4 : Int32) (a5 : Int32) (a6 : k_Mem), k_Fr [14, 15, 16, 17, 18, 19, 20, 21, 46, 47, 48, 49, 50, 51, 52, 53] a6 (k44 a0 a1 a2 a3 a4 a5 a6)) : k_Fr [14, 15, 16, 17, 18, 19, 20, 21, 46, 47, 48, 49, 50, 51, 52, 53] σ (j_X6_forge_134 k44 x1 x2 x6 x7 x8 σ) := by
  unfold j_X6_forge_134
  exact fr_to sm_rf (fr_j_X6_forge_145 _ _ _ _ _ _ _ _ hk44) (fun _ h => h)
theorem fr_j_X6_forge_120 (k44 : Int32 → Int32 → Int32 → Int32 → Int32 → Int32 → k_Mem → Option (Int32 × k_Mem)) (x1 : Int32) (x2 : Int32) (x3 : Int32) (x4 : Int32) (x5 : Int32) (x6 : Int32) (x7 : Int32) (xs0 : Int32) (σ : k_Mem) (hk44 : ∀ (a0 : Int32) (a1 : Int32) (a2 : Int32) (a3 : Int32) (a4 : Int32) (a5 : Int32) (a6 : k_Mem), k_Fr [14, 15, 16, 17, 18, 19, 20, 21, 46, 47, 48, 49, 50, 51, 52, 53] a6 (k44 a0 a1 a2 a3 a4 a5 a6)) : k_Fr [14, 15, 16, 17, 18, 19, 20, 21, 46, 47, 48, 49, 50, 51, 52, 53] σ (j_X6_forge_120 k44 x1 x2 x3 x4 x5 x6 x7 xs0 σ) := by
  unfold j_X6_forge_120
  refine fr_ite (fun c1 => ?_) (fun c1 => ?_)
  · exact fr_to sm_rf (fr_j_X6_forge_134 _ _ _ _ _ _ _ hk44) (fun _ h => h)
  · refine fr_ite (fun c2 => ?_) (fun c2 => ?_)
    · exact fr_to sm_rf (fr_j_X6_forge_145 _ _ _ _ _ _ _ _ hk44) (fun _ h => h)
    · exact fr_to sm_rf (fr_j_X6_forge_134 _ _ _ _ _ _ _ hk44) (fun _ h => h)
theorem fr_l_X6_forge_44  : ∀ (n : Nat) (x1 : Int32) (x2 : Int32) (x3 : Int32) (x4 : Int32) (x5 : Int32) (x6 : Int32) (σ : k_Mem), k_Fr [14, 15, 16, 17, 18, 19, 20, 21, 46, 47, 48, 49, 50, 51, 52, 53] σ (l_X6_forge_44  n x1 x2 x3 x4 x5 x6 σ) := by
  intro n
  induction n with
  | zero => intro x1 x2 x3 x4 x5 x6 σ; exact fr_none
  | succ n ih =>
    intro x1 x2 x3 x4 x5 x6 σ
    rw [l_X6_forge_44]
    refine fr_ite (fun c1 => ?_) (fun c1 => ?_)
    · refine fr_ite (fun c2 => ?_) (fun c2 => ?_)
      · refine fr_bd sm_rf (fr_f_X6_orNone _ _) (fun _ _ => List.not_mem_nil) (fun r8 σ8 hσ8 => ?_)
        exact fr_some hσ8
      · refine fr_bd sm_rf (fr_f_X6_orNone _ _) (fun _ _ => List.not_mem_nil) (fun r9 σ9 hσ9 => ?_)
        exact fr_some hσ9
    · refine fr_bd sm_rf (fr_f_X5_isHand _ _ _) (fun _ _ => List.not_mem_nil) (fun r10 σ10 hσ10 => ?_)
      refine fr_ite (fun c3 => ?_) (fun c3 => ?_)
      · exact fr_to hσ10 (fr_j_X6_forge_145 _ _ _ _ _ _ _ _ (fun x1 x2 x3 x4 x5 x6 σ => ih x1 x2 x3 x4 x5 x6 σ)) (fun _ h => h)
      · refine fr_ite (fun c4 => ?_) (fun c4 => ?_)
        · refine fr_bd (sm_set (by decide) hσ10) (fr_f_X0_court _ _ _) (k_sub (by decide)) (fun _ σ12 hσ12 => ?_)
          refine fr_ite (fun c5 => ?_) (fun c5 => ?_)
          · refine fr_ite (fun c6 => ?_) (fun c6 => ?_)
            · exact fr_to hσ12 (fr_j_X6_forge_120 _ _ _ _ _ _ _ _ _ _ (fun x1 x2 x3 x4 x5 x6 σ => ih x1 x2 x3 x4 x5 x6 σ)) (fun _ h => h)
            · refine fr_bd hσ12 (fr_f_X0_liking _ _ _) (fun _ _ => List.not_mem_nil) (fun r16 σ16 hσ16 => ?_)
              exact fr_to hσ16 (fr_j_X6_forge_120 _ _ _ _ _ _ _ _ _ _ (fun x1 x2 x3 x4 x5 x6 σ => ih x1 x2 x3 x4 x5 x6 σ)) (fun _ h => h)
          · exact fr_none
        · exact fr_none
theorem fr_f_X6_forge (x1 : Int32) (x2 : Int32) (σ : k_Mem) : k_Fr [14, 15, 16, 17, 18, 19, 20, 21, 46, 47, 48, 49, 50, 51, 52, 53] σ (f_X6_forge x1 x2 σ) := by
  unfold f_X6_forge
  refine fr_bd sm_rf (fr_f_X5_isHand _ _ _) (fun _ _ => List.not_mem_nil) (fun r1 σ1 hσ1 => ?_)
  refine fr_ite (fun c1 => ?_) (fun c1 => ?_)
  · exact fr_some hσ1
  · refine fr_ite (fun c2 => ?_) (fun c2 => ?_)
    · exact fr_some hσ1
    · refine fr_ite (fun c3 => ?_) (fun c3 => ?_)
      · refine fr_bd hσ1 (fr_f_X5_become _ _ _) (k_sub (by decide)) (fun _ σ5 hσ5 => ?_)
        exact fr_to hσ5 (fr_l_X6_forge_44   _ _ _ _ _ _ _ _) (fun _ h => h)
      · exact fr_some hσ1
theorem fr_f_X6_likesIfSwapped (x1 : Int32) (x2 : Int32) (σ : k_Mem) : k_Fr [19, 46, 47, 48, 49, 50, 51, 52, 53] σ (f_X6_likesIfSwapped x1 x2 σ) := by
  unfold f_X6_likesIfSwapped
  refine fr_bd sm_rf (fr_f_X5_swapPens _ _ _ _) (k_sub (by decide)) (fun _ σ1 hσ1 => ?_)
  refine fr_bd hσ1 (fr_f_X0_court _ _ _) (k_sub (by decide)) (fun _ σ2 hσ2 => ?_)
  refine fr_bd hσ2 (fr_f_X5_swapPens _ _ _ _) (k_sub (by decide)) (fun _ σ3 hσ3 => ?_)
  refine fr_bd hσ3 (fr_f_X0_allLikes _) (fun _ _ => List.not_mem_nil) (fun r4 σ4 hσ4 => ?_)
  exact fr_some hσ4
theorem fr_j_X6_swap_123 (k48 : Int32 → Int32 → Int32 → Int32 → k_Mem → Option (Int32 × k_Mem)) (k61 : Int32 → Int32 → Int32 → Int32 → Int32 → k_Mem → Option (Int32 × k_Mem)) (x1 : Int32) (x2 : Int32) (x3 : Int32) (x4 : Int32) (x5 : Int32) (σ : k_Mem) (hk48 : ∀ (a0 : Int32) (a1 : Int32) (a2 : Int32) (a3 : Int32) (a4 : k_Mem), k_Fr [14, 15, 16, 17, 18, 19, 20, 21, 46, 47, 48, 49, 50, 51, 52, 53] a4 (k48 a0 a1 a2 a3 a4)) (hk61 : ∀ (a0 : Int32) (a1 : Int32) (a2 : Int32) (a3 : Int32) (a4 : Int32) (a5 : k_Mem), k_Fr [14, 15, 16, 17, 18, 19, 20, 21, 46, 47, 48, 49, 50, 51, 52, 53] a5 (k61 a0 a1 a2 a3 a4 a5)) : k_Fr [14, 15, 16, 17, 18, 19, 20, 21, 46, 47, 48, 49, 50, 51, 52, 53] σ (j_X6_swap_123 k48 k61 x1 x2 x3 x4 x5 σ) := by
  unfold j_X6_swap_123
  exact fr_to sm_rf (hk61 _ _ _ _ _ _) (fun _ h => h)
theorem fr_l_X6_swap_61 (k48 : Int32 → Int32 → Int32 → Int32 → k_Mem → Option (Int32 × k_Mem)) (hk48 : ∀ (a0 : Int32) (a1 : Int32) (a2 : Int32) (a3 : Int32) (a4 : k_Mem), k_Fr [14, 15, 16, 17, 18, 19, 20, 21, 46, 47, 48, 49, 50, 51, 52, 53] a4 (k48 a0 a1 a2 a3 a4)) : ∀ (n : Nat) (x1 : Int32) (x2 : Int32) (x3 : Int32) (x4 : Int32) (x5 : Int32) (σ : k_Mem), k_Fr [14, 15, 16, 17, 18, 19, 20, 21, 46, 47, 48, 49, 50, 51, 52, 53] σ (l_X6_swap_61 k48 n x1 x2 x3 x4 x5 σ) := by
  intro n
  induction n with
  | zero => intro x1 x2 x3 x4 x5 σ; exact fr_none
  | succ n ih =>
    intro x1 x2 x3 x4 x5 σ
    rw [l_X6_swap_61]
    refine fr_ite (fun c1 => ?_) (fun c1 => ?_)
    · exact fr_to sm_rf (hk48 _ _ _ _ _) (fun _ h => h)
    · refine fr_bd sm_rf (fr_f_X5_isHand _ _ _) (fun _ _ => List.not_mem_nil) (fun r10 σ10 hσ10 => ?_)
      refine fr_ite (fun c2 => ?_) (fun c2 => ?_)
      · exact fr_to hσ10 (fr_j_X6_swap_123 _ _ _ _ _ _ _ _ hk48 (fun x1 x2 x3 x4 x5 σ => ih x1 x2 x3 x4 x5 σ)) (fun _ h => h)
      · refine fr_bd hσ10 (fr_f_X5_isHand _ _ _) (fun _ _ => List.not_mem_nil) (fun r12 σ12 hσ12 => ?_)
        refine fr_ite (fun c3 => ?_) (fun c3 => ?_)
        · exact fr_to hσ12 (fr_j_X6_swap_123 _ _ _ _ _ _ _ _ hk48 (fun x1 x2 x3 x4 x5 σ => ih x1 x2 x3 x4 x5 σ)) (fun _ h => h)
        · refine fr_bd hσ12 (fr_f_X6_likesIfSwapped _ _ _) (k_sub (by decide)) (fun r14 σ14 hσ14 => ?_)
          refine fr_ite (fun c4 => ?_) (fun c4 => ?_)
          · exact fr_to hσ14 (fr_j_X6_swap_123 _ _ _ _ _ _ _ _ hk48 (fun x1 x2 x3 x4 x5 σ => ih x1 x2 x3 x4 x5 σ)) (fun _ h => h)
          · exact fr_to hσ14 (fr_j_X6_swap_123 _ _ _ _ _ _ _ _ hk48 (fun x1 x2 x3 x4 x5 σ => ih x1 x2 x3 x4 x5 σ)) (fun _ h => h)
theorem fr_l_X6_swap_48  : ∀ (n : Nat) (x1 : Int32) (x2 : Int32) (x3 : Int32) (x4 : Int32) (σ : k_Mem), k_Fr [14, 15, 16, 17, 18, 19, 20, 21, 46, 47, 48, 49, 50, 51, 52, 53] σ (l_X6_swap_48  n x1 x2 x3 x4 σ) := by
  intro n
  induction n with
  | zero => intro x1 x2 x3 x4 σ; exact fr_none
  | succ n ih =>
    intro x1 x2 x3 x4 σ
    rw [l_X6_swap_48]
    refine fr_ite (fun c1 => ?_) (fun c1 => ?_)
    · refine fr_ite (fun c2 => ?_) (fun c2 => ?_)
      · exact fr_some sm_rf
      · refine fr_ite (fun c3 => ?_) (fun c3 => ?_)
        · exact fr_some sm_rf
        · exact fr_some sm_rf
    · exact fr_to sm_rf (fr_l_X6_swap_61 _ (fun x1 x2 x3 x4 σ => ih x1 x2 x3 x4 σ) _ _ _ _ _ _ _) (fun _ h => h)
theorem fr_f_X6_swap (x1 : Int32) (σ : k_Mem) : k_Fr [14, 15, 16, 17, 18, 19, 20, 21, 46, 47, 48, 49, 50, 51, 52, 53] σ (f_X6_swap x1 σ) := by
  unfold f_X6_swap
  refine fr_ite (fun c1 => ?_) (fun c1 => ?_)
  · exact fr_some sm_rf
  · refine fr_ite (fun c2 => ?_) (fun c2 => ?_)
    · refine fr_bd sm_rf (fr_f_X5_become _ _ _) (k_sub (by decide)) (fun _ σ3 hσ3 => ?_)
      refine fr_bd hσ3 (fr_f_X0_court _ _ _) (k_sub (by decide)) (fun _ σ4 hσ4 => ?_)
      refine fr_bd hσ4 (fr_f_X0_allLikes _) (fun _ _ => List.not_mem_nil) (fun r5 σ5 hσ5 => ?_)
      exact fr_to hσ5 (fr_l_X6_swap_48   _ _ _ _ _ _) (fun _ h => h)
    · exact fr_some sm_rf
theorem fr_l_X6_power_5  : ∀ (n : Nat) (x0 : Int32) (x1 : Int32) (x2 : Int64) (x4 : Int32) (σ : k_Mem), k_Fr [] σ (l_X6_power_5  n x0 x1 x2 x4 σ) := by
  intro n
  induction n with
  | zero => intro x0 x1 x2 x4 σ; exact fr_none
  | succ n ih =>
    intro x0 x1 x2 x4 σ
    rw [l_X6_power_5]
    refine fr_ite (fun c1 => ?_) (fun c1 => ?_)
    · exact fr_some sm_rf
    · exact fr_to sm_rf (ih _ _ _ _ _) (fun _ h => h)
theorem fr_f_X6_power (x0 : Int32) (x1 : Int32) (σ : k_Mem) : k_Fr [] σ (f_X6_power x0 x1 σ) := by
  unfold f_X6_power
  exact fr_to sm_rf (fr_l_X6_power_5   _ _ _ _ _ _) (fun _ h => h)
theorem fr_j_X6_stolenSum_146 (k25 : Int32 → Int32 → Int32 → Int64 → Int32 → k_Mem → Option (Int64 × k_Mem)) (x1 : Int32) (x2 : Int32) (x3 : Int32) (x4 : Int64) (x6 : Int32) (σ : k_Mem) (hk25 : ∀ (a0 : Int32) (a1 : Int32) (a2 : Int32) (a3 : Int64) (a4 : Int32) (a5 : k_Mem), k_Fr [46, 47, 48, 49, 50, 51, 52, 53] a5 (k25 a0 a1 a2 a3 a4 a5)) : k_Fr [46, 47, 48, 49, 50, 51, 52, 53] σ (j_X6_stolenSum_146 k25 x1 x2 x3 x4 x6 σ) := by
  unfold j_X6_stolenSum_146
  exact fr_to sm_rf (hk25 _ _ _ _ _ _) (fun _ h => h)
theorem fr_j_X6_stolenSum_141 (k25 : Int32 → Int32 → Int32 → Int64 → Int32 → k_Mem → Option (Int64 × k_Mem)) (x1 : Int32) (x2 : Int32) (x3 : Int32) (x6 : Int32) (xs0 : Int64) (xs1 : Int64) (xs2 : Int32) (σ : k_Mem) (hk25 : ∀ (a0 : Int32) (a1 : Int32) (a2 : Int32) (a3 : Int64) (a4 : Int32) (a5 : k_Mem), k_Fr [46, 47, 48, 49, 50, 51, 52, 53] a5 (k25 a0 a1 a2 a3 a4 a5)) : k_Fr [46, 47, 48, 49, 50, 51, 52, 53] σ (j_X6_stolenSum_141 k25 x1 x2 x3 x6 xs0 xs1 xs2 σ) := by
  unfold j_X6_stolenSum_141
  exact fr_to sm_rf (fr_j_X6_stolenSum_146 _ _ _ _ _ _ _ hk25) (fun _ h => h)
theorem fr_l_X6_stolenSum_25  : ∀ (n : Nat) (x1 : Int32) (x2 : Int32) (x3 : Int32) (x4 : Int64) (x6 : Int32) (σ : k_Mem), k_Fr [46, 47, 48, 49, 50, 51, 52, 53] σ (l_X6_stolenSum_25  n x1 x2 x3 x4 x6 σ) := by
  intro n
  induction n with
  | zero => intro x1 x2 x3 x4 x6 σ; exact fr_none
  | succ n ih =>
    intro x1 x2 x3 x4 x6 σ
    rw [l_X6_stolenSum_25]
    refine fr_ite (fun c1 => ?_) (fun c1 => ?_)
    · exact fr_some sm_rf
    · refine fr_ite (fun c2 => ?_) (fun c2 => ?_)
      · refine fr_bd sm_rf (fr_f_J6_bitCount_0f7a4 _ _) (fun _ _ => List.not_mem_nil) (fun r4 σ4 hσ4 => ?_)
        refine fr_bd hσ4 (fr_f_X6_power _ _ _) (fun _ _ => List.not_mem_nil) (fun r5 σ5 hσ5 => ?_)
        refine fr_bd hσ5 (fr_f_X5_size _ _) (fun _ _ => List.not_mem_nil) (fun r6 σ6 hσ6 => ?_)
        refine fr_bd hσ6 (fr_f_X6_power _ _ _) (fun _ _ => List.not_mem_nil) (fun r7 σ7 hσ7 => ?_)
        refine fr_ite (fun c3 => ?_) (fun c3 => ?_)
        · exact fr_to hσ7 (fr_j_X6_stolenSum_146 _ _ _ _ _ _ _ (fun x1 x2 x3 x4 x6 σ => ih x1 x2 x3 x4 x6 σ)) (fun _ h => h)
        · refine fr_bd hσ7 (fr_f_X0_ask _ _ _) (k_sub (by decide)) (fun _ σ9 hσ9 => ?_)
          refine fr_ite (fun c4 => ?_) (fun c4 => ?_)
          · refine fr_bd hσ9 (fr_f_X0_pairs _) (fun _ _ => List.not_mem_nil) (fun r11 σ11 hσ11 => ?_)
            exact fr_to hσ11 (fr_j_X6_stolenSum_141 _ _ _ _ _ _ _ _ _ (fun x1 x2 x3 x4 x6 σ => ih x1 x2 x3 x4 x6 σ)) (fun _ h => h)
          · refine fr_bd hσ9 (fr_f_X0_matedBits _) (fun _ _ => List.not_mem_nil) (fun r12 σ12 hσ12 => ?_)
            exact fr_to hσ12 (fr_j_X6_stolenSum_141 _ _ _ _ _ _ _ _ _ (fun x1 x2 x3 x4 x6 σ => ih x1 x2 x3 x4 x6 σ)) (fun _ h => h)
      · exact fr_to sm_rf (fr_j_X6_stolenSum_146 _ _ _ _ _ _ _ (fun x1 x2 x3 x4 x6 σ => ih x1 x2 x3 x4 x6 σ)) (fun _ h => h)
theorem fr_f_X6_stolenSum (x1 : Int32) (x2 : Int32) (σ : k_Mem) : k_Fr [46, 47, 48, 49, 50, 51, 52, 53] σ (f_X6_stolenSum x1 x2 σ) := by
  unfold f_X6_stolenSum
  refine fr_bd sm_rf (fr_f_X0_weigh _ _) (k_sub (by decide)) (fun _ σ1 hσ1 => ?_)
  exact fr_to hσ1 (fr_l_X6_stolenSum_25   _ _ _ _ _ _ _) (fun _ h => h)
theorem fr_l_X6_commonDivisor_9  : ∀ (n : Nat) (x4 : Int64) (x6 : Int64) (x8 : Int32) (σ : k_Mem), k_Fr [] σ (l_X6_commonDivisor_9  n x4 x6 x8 σ) := by
  intro n
  induction n with
  | zero => intro x4 x6 x8 σ; exact fr_none
  | succ n ih =>
    intro x4 x6 x8 σ
    rw [l_X6_commonDivisor_9]
    refine fr_ite (fun c1 => ?_) (fun c1 => ?_)
    · exact fr_some sm_rf
    · refine fr_ite (fun c2 => ?_) (fun c2 => ?_)
      · exact fr_some sm_rf
      · refine fr_ite (fun c3 => ?_) (fun c3 => ?_)
        · exact fr_none
        · exact fr_to sm_rf (ih _ _ _ _) (fun _ h => h)
theorem fr_f_X6_commonDivisor (x0 : Int64) (x2 : Int64) (σ : k_Mem) : k_Fr [] σ (f_X6_commonDivisor x0 x2 σ) := by
  unfold f_X6_commonDivisor
  exact fr_to sm_rf (fr_l_X6_commonDivisor_9   _ _ _ _ _) (fun _ h => h)
theorem fr_f_X6_lowestTerms (x0 : Int64) (x2 : Int64) (x4 : Int32) (σ : k_Mem) : k_Fr [] σ (f_X6_lowestTerms x0 x2 x4 σ) := by
  unfold f_X6_lowestTerms
  refine fr_bd sm_rf (fr_f_X6_commonDivisor _ _ _) (fun _ _ => List.not_mem_nil) (fun r1 σ1 hσ1 => ?_)
  refine fr_ite (fun c1 => ?_) (fun c1 => ?_)
  · refine fr_ite (fun c2 => ?_) (fun c2 => ?_)
    · refine fr_ite (fun c3 => ?_) (fun c3 => ?_)
      · exact fr_none
      · exact fr_some hσ1
    · refine fr_ite (fun c4 => ?_) (fun c4 => ?_)
      · exact fr_none
      · exact fr_some hσ1
  · exact fr_some hσ1
theorem fr_f_X6_mean (x1 : Int32) (x2 : Int32) (σ : k_Mem) : k_Fr [46, 47, 48, 49, 50, 51, 52, 53] σ (f_X6_mean x1 x2 σ) := by
  unfold f_X6_mean
  refine fr_ite (fun c1 => ?_) (fun c1 => ?_)
  · exact fr_some sm_rf
  · refine fr_ite (fun c2 => ?_) (fun c2 => ?_)
    · exact fr_some sm_rf
    · refine fr_ite (fun c3 => ?_) (fun c3 => ?_)
      · exact fr_some sm_rf
      · refine fr_ite (fun c4 => ?_) (fun c4 => ?_)
        · refine fr_bd sm_rf (fr_f_X6_stolenSum _ _ _) (fun _ h => h) (fun r5 σ5 hσ5 => ?_)
          refine fr_bd hσ5 (fr_f_X5_size _ _) (fun _ _ => List.not_mem_nil) (fun r6 σ6 hσ6 => ?_)
          refine fr_bd hσ6 (fr_f_X6_power _ _ _) (fun _ _ => List.not_mem_nil) (fun r7 σ7 hσ7 => ?_)
          refine fr_bd hσ7 (fr_f_X6_lowestTerms _ _ _ _) (fun _ _ => List.not_mem_nil) (fun r8 σ8 hσ8 => ?_)
          exact fr_some hσ8
        · exact fr_some sm_rf
theorem fr_f_X6_luck (x1 : Int32) (x2 : Int32) (x3 : Int32) (σ : k_Mem) : k_Fr [46, 47, 48, 49, 50, 51, 52, 53] σ (f_X6_luck x1 x2 x3 σ) := by
  unfold f_X6_luck
  refine fr_ite (fun c1 => ?_) (fun c1 => ?_)
  · exact fr_some sm_rf
  · refine fr_ite (fun c2 => ?_) (fun c2 => ?_)
    · exact fr_some sm_rf
    · refine fr_bd sm_rf (fr_f_X5_isHand _ _ _) (fun _ _ => List.not_mem_nil) (fun r3 σ3 hσ3 => ?_)
      refine fr_ite (fun c3 => ?_) (fun c3 => ?_)
      · exact fr_some hσ3
      · refine fr_ite (fun c4 => ?_) (fun c4 => ?_)
        · exact fr_some hσ3
        · refine fr_ite (fun c5 => ?_) (fun c5 => ?_)
          · refine fr_bd hσ3 (fr_f_X6_stolenSum _ _ _) (fun _ h => h) (fun r7 σ7 hσ7 => ?_)
            refine fr_bd hσ7 (fr_f_X5_size _ _) (fun _ _ => List.not_mem_nil) (fun r8 σ8 hσ8 => ?_)
            refine fr_bd hσ8 (fr_f_X6_power _ _ _) (fun _ _ => List.not_mem_nil) (fun r9 σ9 hσ9 => ?_)
            refine fr_bd hσ9 (fr_f_X6_lowestTerms _ _ _ _) (fun _ _ => List.not_mem_nil) (fun r10 σ10 hσ10 => ?_)
            exact fr_some hσ10
          · exact fr_some hσ3
theorem fr_f_X6_see (x1 : Int32) (x2 : Int32) (x3 : Int32) (σ : k_Mem) : k_Fr [55, 56, 57, 58] σ (f_X6_see x1 x2 x3 σ) := by
  unfold f_X6_see
  refine fr_bd sm_rf (fr_f_X5_isHand _ _ _) (fun _ _ => List.not_mem_nil) (fun r1 σ1 hσ1 => ?_)
  refine fr_ite (fun c1 => ?_) (fun c1 => ?_)
  · exact fr_some hσ1
  · refine fr_bd hσ1 (fr_f_X6_isTrait _ _) (fun _ _ => List.not_mem_nil) (fun r3 σ3 hσ3 => ?_)
    refine fr_ite (fun c2 => ?_) (fun c2 => ?_)
    · exact fr_some hσ3
    · refine fr_bd hσ3 (fr_f_X6_isStrokes _ _) (fun _ _ => List.not_mem_nil) (fun r5 σ5 hσ5 => ?_)
      refine fr_ite (fun c3 => ?_) (fun c3 => ?_)
      · exact fr_some hσ5
      · refine fr_bd hσ5 (fr_f_X3_add _ _ _ _) (fun _ h => h) (fun r7 σ7 hσ7 => ?_)
        refine fr_ite (fun c4 => ?_) (fun c4 => ?_)
        · exact fr_some hσ7
        · exact fr_some hσ7
theorem fr_f_X6_forget (x1 : Int32) (σ : k_Mem) : k_Fr [55] σ (f_X6_forget x1 σ) := by
  unfold f_X6_forget
  refine fr_ite (fun c1 => ?_) (fun c1 => ?_)
  · exact fr_some sm_rf
  · refine fr_ite (fun c2 => ?_) (fun c2 => ?_)
    · exact fr_some (sm_set (by decide) sm_rf)
    · exact fr_some sm_rf
theorem fr_j_X6_fittingPens_66 (k15 : Int32 → Int32 → Int32 → k_Mem → Option (Int32 × k_Mem)) (x1 : Int32) (x2 : Int32) (x3 : Int32) (σ : k_Mem) (hk15 : ∀ (a0 : Int32) (a1 : Int32) (a2 : Int32) (a3 : k_Mem), k_Fr [14, 15, 16, 17, 18, 19, 20, 21] a3 (k15 a0 a1 a2 a3)) : k_Fr [14, 15, 16, 17, 18, 19, 20, 21] σ (j_X6_fittingPens_66 k15 x1 x2 x3 σ) := by
  unfold j_X6_fittingPens_66
  exact fr_to sm_rf (hk15 _ _ _ _) (fun _ h => h)
theorem fr_l_X6_fittingPens_15  : ∀ (n : Nat) (x1 : Int32) (x2 : Int32) (x3 : Int32) (σ : k_Mem), k_Fr [14, 15, 16, 17, 18, 19, 20, 21] σ (l_X6_fittingPens_15  n x1 x2 x3 σ) := by
  intro n
  induction n with
  | zero => intro x1 x2 x3 σ; exact fr_none
  | succ n ih =>
    intro x1 x2 x3 σ
    rw [l_X6_fittingPens_15]
    refine fr_ite (fun c1 => ?_) (fun c1 => ?_)
    · exact fr_some sm_rf
    · refine fr_bd sm_rf (fr_f_X5_isHand _ _ _) (fun _ _ => List.not_mem_nil) (fun r3 σ3 hσ3 => ?_)
      refine fr_ite (fun c2 => ?_) (fun c2 => ?_)
      · exact fr_to hσ3 (fr_j_X6_fittingPens_66 _ _ _ _ _ (fun x1 x2 x3 σ => ih x1 x2 x3 σ)) (fun _ h => h)
      · refine fr_ite (fun c3 => ?_) (fun c3 => ?_)
        · refine fr_bd (sm_set (by decide) hσ3) (fr_f_X3_agreeWith _ _ _) (fun _ _ => List.not_mem_nil) (fun r5 σ5 hσ5 => ?_)
          refine fr_ite (fun c4 => ?_) (fun c4 => ?_)
          · exact fr_to hσ5 (fr_j_X6_fittingPens_66 _ _ _ _ _ (fun x1 x2 x3 σ => ih x1 x2 x3 σ)) (fun _ h => h)
          · exact fr_to hσ5 (fr_j_X6_fittingPens_66 _ _ _ _ _ (fun x1 x2 x3 σ => ih x1 x2 x3 σ)) (fun _ h => h)
        · exact fr_none
theorem fr_f_X6_fittingPens (x1 : Int32) (σ : k_Mem) : k_Fr [14, 15, 16, 17, 18, 19, 20, 21] σ (f_X6_fittingPens x1 σ) := by
  unfold f_X6_fittingPens
  refine fr_bd sm_rf (fr_f_X5_become _ _ _) (k_sub (by decide)) (fun _ σ1 hσ1 => ?_)
  exact fr_to hσ1 (fr_l_X6_fittingPens_15   _ _ _ _ _) (fun _ h => h)
theorem fr_f_X6_fits (x1 : Int32) (σ : k_Mem) : k_Fr [14, 15, 16, 17, 18, 19, 20, 21] σ (f_X6_fits x1 σ) := by
  unfold f_X6_fits
  refine fr_bd sm_rf (fr_f_X5_isHand _ _ _) (fun _ _ => List.not_mem_nil) (fun r1 σ1 hσ1 => ?_)
  refine fr_ite (fun c1 => ?_) (fun c1 => ?_)
  · exact fr_some hσ1
  · refine fr_bd hσ1 (fr_f_X6_fittingPens _ _) (fun _ h => h) (fun r3 σ3 hσ3 => ?_)
    exact fr_some hσ3
theorem fr_j_X6_leftAtWorst_99 (k25 : Int32 → Int32 → Int32 → Int32 → Int32 → k_Mem → Option (Int32 × k_Mem)) (x1 : Int32) (x2 : Int32) (x3 : Int32) (x4 : Int32) (x5 : Int32) (σ : k_Mem) (hk25 : ∀ (a0 : Int32) (a1 : Int32) (a2 : Int32) (a3 : Int32) (a4 : Int32) (a5 : k_Mem), k_Fr [4, 14, 15, 16, 17, 18, 19, 20, 21] a5 (k25 a0 a1 a2 a3 a4 a5)) : k_Fr [4, 14, 15, 16, 17, 18, 19, 20, 21] σ (j_X6_leftAtWorst_99 k25 x1 x2 x3 x4 x5 σ) := by
  unfold j_X6_leftAtWorst_99
  exact fr_to sm_rf (hk25 _ _ _ _ _ _) (fun _ h => h)
theorem fr_l_X6_leftAtWorst_25  : ∀ (n : Nat) (x1 : Int32) (x2 : Int32) (x3 : Int32) (x4 : Int32) (x5 : Int32) (σ : k_Mem), k_Fr [4, 14, 15, 16, 17, 18, 19, 20, 21] σ (l_X6_leftAtWorst_25  n x1 x2 x3 x4 x5 σ) := by
  intro n
  induction n with
  | zero => intro x1 x2 x3 x4 x5 σ; exact fr_none
  | succ n ih =>
    intro x1 x2 x3 x4 x5 σ
    rw [l_X6_leftAtWorst_25]
    refine fr_ite (fun c1 => ?_) (fun c1 => ?_)
    · exact fr_some sm_rf
    · refine fr_ite (fun c2 => ?_) (fun c2 => ?_)
      · exact fr_to sm_rf (fr_j_X6_leftAtWorst_99 _ _ _ _ _ _ _ (fun x1 x2 x3 x4 x5 σ => ih x1 x2 x3 x4 x5 σ)) (fun _ h => h)
      · refine fr_ite (fun c3 => ?_) (fun c3 => ?_)
        · refine fr_bd (sm_set (by decide) sm_rf) (fr_f_X5_shows _ _ _ _) (fun _ _ => List.not_mem_nil) (fun r5 σ5 hσ5 => ?_)
          refine fr_bd hσ5 (fr_f_X6_isStrokes _ _) (fun _ _ => List.not_mem_nil) (fun r6 σ6 hσ6 => ?_)
          refine fr_ite (fun c4 => ?_) (fun c4 => ?_)
          · exact fr_to hσ6 (fr_j_X6_leftAtWorst_99 _ _ _ _ _ _ _ (fun x1 x2 x3 x4 x5 σ => ih x1 x2 x3 x4 x5 σ)) (fun _ h => h)
          · refine fr_ite (fun c5 => ?_) (fun c5 => ?_)
            · refine fr_ite (fun c6 => ?_) (fun c6 => ?_)
              · refine fr_ite (fun c7 => ?_) (fun c7 => ?_)
                · exact fr_to (sm_set (by decide) hσ6) (fr_j_X6_leftAtWorst_99 _ _ _ _ _ _ _ (fun x1 x2 x3 x4 x5 σ => ih x1 x2 x3 x4 x5 σ)) (fun _ h => h)
                · exact fr_none
              · exact fr_none
            · exact fr_none
        · exact fr_none
theorem fr_f_X6_leftAtWorst (x1 : Int32) (x2 : Int32) (x3 : Int32) (σ : k_Mem) : k_Fr [4, 14, 15, 16, 17, 18, 19, 20, 21] σ (f_X6_leftAtWorst x1 x2 x3 σ) := by
  unfold f_X6_leftAtWorst
  refine fr_bd sm_rf (fr_f_X5_become _ _ _) (k_sub (by decide)) (fun _ σ1 hσ1 => ?_)
  refine fr_bd hσ1 (fr_f_J7_fill_53178 _ _ _ _) (k_sub (by decide)) (fun _ σ2 hσ2 => ?_)
  exact fr_to hσ2 (fr_l_X6_leftAtWorst_25   _ _ _ _ _ _ _) (fun _ h => h)
theorem fr_j_X6_look_72 (k41 : Int32 → Int32 → Int32 → Int32 → Int32 → Int32 → k_Mem → Option (Int32 × k_Mem)) (x1 : Int32) (x2 : Int32) (x3 : Int32) (x4 : Int32) (x5 : Int32) (x6 : Int32) (σ : k_Mem) (hk41 : ∀ (a0 : Int32) (a1 : Int32) (a2 : Int32) (a3 : Int32) (a4 : Int32) (a5 : Int32) (a6 : k_Mem), k_Fr [4, 14, 15, 16, 17, 18, 19, 20, 21] a6 (k41 a0 a1 a2 a3 a4 a5 a6)) : k_Fr [4, 14, 15, 16, 17, 18, 19, 20, 21] σ (j_X6_look_72 k41 x1 x2 x3 x4 x5 x6 σ) := by
  unfold j_X6_look_72
  exact fr_to sm_rf (hk41 _ _ _ _ _ _ _) (fun _ h => h)
theorem fr_l_X6_look_41  : ∀ (n : Nat) (x1 : Int32) (x2 : Int32) (x3 : Int32) (x4 : Int32) (x5 : Int32) (x6 : Int32) (σ : k_Mem), k_Fr [4, 14, 15, 16, 17, 18, 19, 20, 21] σ (l_X6_look_41  n x1 x2 x3 x4 x5 x6 σ) := by
  intro n
  induction n with
  | zero => intro x1 x2 x3 x4 x5 x6 σ; exact fr_none
  | succ n ih =>
    intro x1 x2 x3 x4 x5 x6 σ
    rw [l_X6_look_41]
    refine fr_ite (fun c1 => ?_) (fun c1 => ?_)
    · refine fr_ite (fun c2 => ?_) (fun c2 => ?_)
      · exact fr_some sm_rf
      · refine fr_ite (fun c3 => ?_) (fun c3 => ?_)
        · exact fr_some sm_rf
        · exact fr_some sm_rf
    · refine fr_bd sm_rf (fr_f_X6_leftAtWorst _ _ _ _) (fun _ h => h) (fun r10 σ10 hσ10 => ?_)
      refine fr_ite (fun c4 => ?_) (fun c4 => ?_)
      · exact fr_to hσ10 (fr_j_X6_look_72 _ _ _ _ _ _ _ _ (fun x1 x2 x3 x4 x5 x6 σ => ih x1 x2 x3 x4 x5 x6 σ)) (fun _ h => h)
      · exact fr_to hσ10 (fr_j_X6_look_72 _ _ _ _ _ _ _ _ (fun x1 x2 x3 x4 x5 x6 σ => ih x1 x2 x3 x4 x5 x6 σ)) (fun _ h => h)
theorem fr_f_X6_look (x1 : Int32) (x2 : Int32) (σ : k_Mem) : k_Fr [4, 14, 15, 16, 17, 18, 19, 20, 21] σ (f_X6_look x1 x2 σ) := by
  unfold f_X6_look
  refine fr_bd sm_rf (fr_f_X5_isHand _ _ _) (fun _ _ => List.not_mem_nil) (fun r1 σ1 hσ1 => ?_)
  refine fr_ite (fun c1 => ?_) (fun c1 => ?_)
  · exact fr_some hσ1
  · refine fr_ite (fun c2 => ?_) (fun c2 => ?_)
    · exact fr_some hσ1
    · refine fr_ite (fun c3 => ?_) (fun c3 => ?_)
      · refine fr_bd hσ1 (fr_f_X6_fittingPens _ _) (k_sub (by decide)) (fun r5 σ5 hσ5 => ?_)
        refine fr_bd hσ5 (fr_f_J6_bitCount_0f7a4 _ _) (fun _ _ => List.not_mem_nil) (fun r6 σ6 hσ6 => ?_)
        exact fr_to hσ6 (fr_l_X6_look_41   _ _ _ _ _ _ _ _) (fun _ h => h)
      · exact fr_some hσ1
theorem fr_f_X6_nextSeed (x0 : Int32) (σ : k_Mem) : k_Fr [] σ (f_X6_nextSeed x0 σ) := by
  unfold f_X6_nextSeed
  exact fr_some sm_rf
theorem fr_f_X6_drawn (x0 : Int32) (σ : k_Mem) : k_Fr [] σ (f_X6_drawn x0 σ) := by
  unfold f_X6_drawn
  exact fr_some sm_rf
theorem fr_j_X6_drift_151 (k60 : Int32 → Int32 → Int32 → Int32 → Int32 → Int32 → k_Mem → Option (Int32 × k_Mem)) (x2 : Int32) (x3 : Int32) (x4 : Int32) (x5 : Int32) (x6 : Int32) (x7 : Int32) (σ : k_Mem) (hk60 : ∀ (a0 : Int32) (a1 : Int32) (a2 : Int32) (a3 : Int32) (a4 : Int32) (a5 : Int32) (a6 : k_Mem), k_Fr [14, 15, 16, 17, 18, 19, 20, 21, 46, 47, 48, 49, 50, 51, 52, 53] a6 (k60 a0 a1 a2 a3 a4 a5 a6)) : k_Fr [14, 15, 16, 17, 18, 19, 20, 21, 46, 47, 48, 49, 50, 51, 52, 53] σ (j_X6_drift_151 k60 x2 x3 x4 x5 x6 x7 σ) := by
  unfold j_X6_drift_151
  exact fr_to sm_rf (hk60 _ _ _ _ _ _ _) (fun _ h => h)
theorem fr_l_X6_drift_60  : ∀ (n : Nat) (x2 : Int32) (x3 : Int32) (x4 : Int32) (x5 : Int32) (x6 : Int32) (x7 : Int32) (σ : k_Mem), k_Fr [14, 15, 16, 17, 18, 19, 20, 21, 46, 47, 48, 49, 50, 51, 52, 53] σ (l_X6_drift_60  n x2 x3 x4 x5 x6 x7 σ) := by
  intro n
  induction n with
  | zero => intro x2 x3 x4 x5 x6 x7 σ; exact fr_none
  | succ n ih =>
    intro x2 x3 x4 x5 x6 x7 σ
    rw [l_X6_drift_60]
    refine fr_ite (fun c1 => ?_) (fun c1 => ?_)
    · refine fr_ite (fun c2 => ?_) (fun c2 => ?_)
      · exact fr_some sm_rf
      · refine fr_bd sm_rf (fr_f_X0_court _ _ _) (k_sub (by decide)) (fun _ σ10 hσ10 => ?_)
        refine fr_bd hσ10 (fr_f_X0_pairs _) (fun _ _ => List.not_mem_nil) (fun r11 σ11 hσ11 => ?_)
        exact fr_some hσ11
    · refine fr_bd sm_rf (fr_f_X6_nextSeed _ _) (fun _ _ => List.not_mem_nil) (fun r12 σ12 hσ12 => ?_)
      refine fr_bd hσ12 (fr_f_X6_drawn _ _) (fun _ _ => List.not_mem_nil) (fun r13 σ13 hσ13 => ?_)
      refine fr_ite (fun c3 => ?_) (fun c3 => ?_)
      · exact fr_none
      · refine fr_bd hσ13 (fr_f_X5_byOrder _ _ _) (fun _ _ => List.not_mem_nil) (fun r15 σ15 hσ15 => ?_)
        refine fr_bd hσ15 (fr_f_X6_nextSeed _ _) (fun _ _ => List.not_mem_nil) (fun r16 σ16 hσ16 => ?_)
        refine fr_bd hσ16 (fr_f_X6_drawn _ _) (fun _ _ => List.not_mem_nil) (fun r17 σ17 hσ17 => ?_)
        refine fr_ite (fun c4 => ?_) (fun c4 => ?_)
        · exact fr_none
        · refine fr_bd hσ17 (fr_f_X5_byOrder _ _ _) (fun _ _ => List.not_mem_nil) (fun r19 σ19 hσ19 => ?_)
          refine fr_ite (fun c5 => ?_) (fun c5 => ?_)
          · refine fr_ite (fun c6 => ?_) (fun c6 => ?_)
            · refine fr_bd (sm_set (by decide) hσ19) (fr_f_X0_court _ _ _) (k_sub (by decide)) (fun _ σ21 hσ21 => ?_)
              refine fr_bd hσ21 (fr_f_X0_allLikes _) (fun _ _ => List.not_mem_nil) (fun r22 σ22 hσ22 => ?_)
              exact fr_to hσ22 (fr_j_X6_drift_151 _ _ _ _ _ _ _ _ (fun x2 x3 x4 x5 x6 x7 σ => ih x2 x3 x4 x5 x6 x7 σ)) (fun _ h => h)
            · exact fr_to (sm_set (by decide) hσ19) (fr_j_X6_drift_151 _ _ _ _ _ _ _ _ (fun x2 x3 x4 x5 x6 x7 σ => ih x2 x3 x4 x5 x6 x7 σ)) (fun _ h => h)
          · exact fr_none
theorem fr_f_X6_drift (x1 : Int32) (x2 : Int32) (x3 : Int32) (σ : k_Mem) : k_Fr [14, 15, 16, 17, 18, 19, 20, 21, 46, 47, 48, 49, 50, 51, 52, 53] σ (f_X6_drift x1 x2 x3 σ) := by
  unfold f_X6_drift
  refine fr_ite (fun c1 => ?_) (fun c1 => ?_)
  · exact fr_some sm_rf
  · refine fr_ite (fun c2 => ?_) (fun c2 => ?_)
    · exact fr_some sm_rf
    · refine fr_ite (fun c3 => ?_) (fun c3 => ?_)
      · exact fr_some sm_rf
      · refine fr_ite (fun c4 => ?_) (fun c4 => ?_)
        · refine fr_bd sm_rf (fr_f_X5_size _ _) (fun _ _ => List.not_mem_nil) (fun r5 σ5 hσ5 => ?_)
          refine fr_ite (fun c5 => ?_) (fun c5 => ?_)
          · refine fr_bd hσ5 (fr_f_X5_become _ _ _) (k_sub (by decide)) (fun _ σ7 hσ7 => ?_)
            exact fr_to hσ7 (fr_l_X6_drift_60   _ _ _ _ _ _ _ _) (fun _ h => h)
          · exact fr_some hσ5
        · exact fr_some sm_rf
theorem fr_f_X6_hasImage (x1 : Int32) (σ : k_Mem) : k_Fr [] σ (f_X6_hasImage x1 σ) := by
  unfold f_X6_hasImage
  refine fr_ite (fun c1 => ?_) (fun c1 => ?_)
  · exact fr_some sm_rf
  · exact fr_some sm_rf
theorem fr_f_X6_imageOf (x1 : Int32) (σ : k_Mem) : k_Fr [] σ (f_X6_imageOf x1 σ) := by
  unfold f_X6_imageOf
  refine fr_ite (fun c1 => ?_) (fun c1 => ?_)
  · exact fr_some sm_rf
  · exact fr_some sm_rf
theorem fr_j_X6_keep_24 (x1 : Int32) (xs0 : Int32) (σ : k_Mem) : k_Fr [0, 6, 7, 8, 9, 10, 11, 12, 13, 14, 15, 16, 17, 18, 19, 20, 21, 22, 23, 24, 25, 26, 27, 28, 29, 30, 31, 32, 33, 34, 35, 36, 37, 38, 39, 40, 41, 42, 43, 44, 45] σ (j_X6_keep_24 x1 xs0 σ) := by
  unfold j_X6_keep_24
  refine fr_bd sm_rf (fr_f_X6_imageOf _ _) (fun _ _ => List.not_mem_nil) (fun r5 σ5 hσ5 => ?_)
  refine fr_ite (fun c1 => ?_) (fun c1 => ?_)
  · refine fr_bd hσ5 (fr_f_X5_become _ _ _) (k_tout c1 (by decide)) (fun _ σ7 hσ7 => ?_)
    exact fr_some (sm_set (by decide) hσ7)
  · exact fr_none
theorem fr_f_X6_keep (x1 : Int32) (σ : k_Mem) : k_Fr [0, 6, 7, 8, 9, 10, 11, 12, 13, 14, 15, 16, 17, 18, 19, 20, 21, 22, 23, 24, 25, 26, 27, 28, 29, 30, 31, 32, 33, 34, 35, 36, 37, 38, 39, 40, 41, 42, 43, 44, 45] σ (f_X6_keep x1 σ) := by
  unfold f_X6_keep
  refine fr_ite (fun c1 => ?_) (fun c1 => ?_)
  · exact fr_some sm_rf
  · refine fr_ite (fun c2 => ?_) (fun c2 => ?_)
    · refine fr_bd sm_rf (fr_f_X6_hasImage _ _) (fun _ _ => List.not_mem_nil) (fun r3 σ3 hσ3 => ?_)
      refine fr_ite (fun c3 => ?_) (fun c3 => ?_)
      · exact fr_to hσ3 (fr_j_X6_keep_24 _ _ _ ) (fun _ h => h)
      · exact fr_to hσ3 (fr_j_X6_keep_24 _ _ _ ) (fun _ h => h)
    · exact fr_some sm_rf
theorem fr_f_X6_back (x1 : Int32) (σ : k_Mem) : k_Fr [6, 7, 8, 9, 10, 11, 12, 13] σ (f_X6_back x1 σ) := by
  unfold f_X6_back
  refine fr_ite (fun c1 => ?_) (fun c1 => ?_)
  · exact fr_some sm_rf
  · refine fr_ite (fun c2 => ?_) (fun c2 => ?_)
    · refine fr_bd sm_rf (fr_f_X6_hasImage _ _) (fun _ _ => List.not_mem_nil) (fun r3 σ3 hσ3 => ?_)
      refine fr_ite (fun c3 => ?_) (fun c3 => ?_)
      · exact fr_some hσ3
      · refine fr_bd hσ3 (fr_f_X6_imageOf _ _) (fun _ _ => List.not_mem_nil) (fun r5 σ5 hσ5 => ?_)
        refine fr_ite (fun c4 => ?_) (fun c4 => ?_)
        · refine fr_bd hσ5 (fr_f_X5_become _ _ _) (k_sub (by decide)) (fun _ σ7 hσ7 => ?_)
          exact fr_some hσ7
        · exact fr_none
    · exact fr_some sm_rf
theorem fr_f_X6_isSheet (x0 : Int32) (σ : k_Mem) : k_Fr [] σ (f_X6_isSheet x0 σ) := by
  unfold f_X6_isSheet
  refine fr_ite (fun c1 => ?_) (fun c1 => ?_)
  · exact fr_some sm_rf
  · refine fr_ite (fun c2 => ?_) (fun c2 => ?_)
    · exact fr_some sm_rf
    · exact fr_some sm_rf
theorem fr_f_X6_isLane (x0 : Int32) (σ : k_Mem) : k_Fr [] σ (f_X6_isLane x0 σ) := by
  unfold f_X6_isLane
  refine fr_ite (fun c1 => ?_) (fun c1 => ?_)
  · exact fr_some sm_rf
  · refine fr_ite (fun c2 => ?_) (fun c2 => ?_)
    · exact fr_some sm_rf
    · exact fr_some sm_rf
theorem fr_f_X6_sheet (x1 : Int32) (x2 : Int32) (x3 : Int32) (σ : k_Mem) : k_Fr [59, 60, 61, 62, 63, 64, 65, 66] σ (f_X6_sheet x1 x2 x3 σ) := by
  unfold f_X6_sheet
  refine fr_bd sm_rf (fr_f_X6_isSheet _ _) (fun _ _ => List.not_mem_nil) (fun r1 σ1 hσ1 => ?_)
  refine fr_ite (fun c1 => ?_) (fun c1 => ?_)
  · exact fr_some hσ1
  · refine fr_bd hσ1 (fr_f_X6_isLane _ _) (fun _ _ => List.not_mem_nil) (fun r3 σ3 hσ3 => ?_)
    refine fr_ite (fun c2 => ?_) (fun c2 => ?_)
    · exact fr_some hσ3
    · refine fr_ite (fun c3 => ?_) (fun c3 => ?_)
      · refine fr_ite (fun c4 => ?_) (fun c4 => ?_)
        · refine fr_ite (fun c5 => ?_) (fun c5 => ?_)
          · refine fr_ite (fun c6 => ?_) (fun c6 => ?_)
            · refine fr_bd hσ3 (fr_f_X2_renew _ _ _ _) (k_sout c6 (by decide)) (fun _ σ8 hσ8 => ?_)
              exact fr_some hσ8
            · exact fr_none
          · exact fr_none
        · exact fr_some hσ3
      · exact fr_some hσ3
theorem fr_f_X6_lay (x1 : Int32) (x2 : Int32) (x3 : Int32) (σ : k_Mem) : k_Fr [59, 60, 61, 62, 63, 64, 65, 66] σ (f_X6_lay x1 x2 x3 σ) := by
  unfold f_X6_lay
  refine fr_bd sm_rf (fr_f_X6_isSheet _ _) (fun _ _ => List.not_mem_nil) (fun r1 σ1 hσ1 => ?_)
  refine fr_ite (fun c1 => ?_) (fun c1 => ?_)
  · exact fr_some hσ1
  · refine fr_ite (fun c2 => ?_) (fun c2 => ?_)
    · refine fr_ite (fun c3 => ?_) (fun c3 => ?_)
      · refine fr_bd hσ1 (fr_f_X2_faultAt _ _ _ _) (fun _ _ => List.not_mem_nil) (fun r4 σ4 hσ4 => ?_)
        refine fr_ite (fun c4 => ?_) (fun c4 => ?_)
        · refine fr_bd hσ4 (fr_f_X2_put _ _ _ _) (k_sout1 c3 (by decide)) (fun _ σ6 hσ6 => ?_)
          exact fr_some hσ6
        · exact fr_some hσ4
      · exact fr_none
    · exact fr_none
theorem fr_j_X6_read_162 (x6 : Int32) (x7 : Int32) (σ : k_Mem) : k_Fr [0, 6, 7, 8, 9, 10, 11, 12, 13, 14, 15, 16, 17, 18, 19, 20, 21] σ (j_X6_read_162 x6 x7 σ) := by
  unfold j_X6_read_162
  refine fr_bd sm_rf (fr_f_X5_become _ _ _) (k_sub (by decide)) (fun _ σ10 hσ10 => ?_)
  exact fr_some (sm_set (by decide) hσ10)
theorem fr_l_X6_read_56  : ∀ (n : Nat) (x2 : Int32) (x3 : Int32) (x4 : Int32) (o5_ : Nat) (x6 : Int32) (x7 : Int32) (x8 : Int32) (σ : k_Mem), k_Fr [0, 6, 7, 8, 9, 10, 11, 12, 13, 14, 15, 16, 17, 18, 19, 20, 21] σ (l_X6_read_56  n x2 x3 x4 o5_ x6 x7 x8 σ) := by
  intro n
  induction n with
  | zero => intro x2 x3 x4 o5_ x6 x7 x8 σ; exact fr_none
  | succ n ih =>
    intro x2 x3 x4 o5_ x6 x7 x8 σ
    rw [l_X6_read_56]
    refine fr_ite (fun c1 => ?_) (fun c1 => ?_)
    · exact fr_to sm_rf (fr_j_X6_read_162 _ _ _ ) (fun _ h => h)
    · refine fr_bd sm_rf (fr_f_X2_faultAtTwo _ _ _ _) (fun _ _ => List.not_mem_nil) (fun r11 σ11 hσ11 => ?_)
      refine fr_ite (fun c2 => ?_) (fun c2 => ?_)
      · refine fr_ite (fun c3 => ?_) (fun c3 => ?_)
        · refine fr_ite (fun c4 => ?_) (fun c4 => ?_)
          · refine fr_bd hσ11 (fr_f_X5_isHand _ _ _) (fun _ _ => List.not_mem_nil) (fun r13 σ13 hσ13 => ?_)
            refine fr_ite (fun c5 => ?_) (fun c5 => ?_)
            · exact fr_some hσ13
            · refine fr_bd hσ13 (fr_f_X5_isHand _ _ _) (fun _ _ => List.not_mem_nil) (fun r15 σ15 hσ15 => ?_)
              refine fr_ite (fun c6 => ?_) (fun c6 => ?_)
              · exact fr_some hσ15
              · refine fr_ite (fun c7 => ?_) (fun c7 => ?_)
                · exact fr_to (sm_set (by decide) hσ15) (ih _ _ _ _ _ _ _ _) (fun _ h => h)
                · exact fr_none
          · exact fr_none
        · exact fr_none
      · exact fr_to hσ11 (fr_j_X6_read_162 _ _ _ ) (fun _ h => h)
theorem fr_f_X6_read (x1 : Int32) (x2 : Int32) (x3 : Int32) (x4 : Int32) (σ : k_Mem) : k_Fr [0, 6, 7, 8, 9, 10, 11, 12, 13, 14, 15, 16, 17, 18, 19, 20, 21] σ (f_X6_read x1 x2 x3 x4 σ) := by
  unfold f_X6_read
  refine fr_bd sm_rf (fr_f_X6_isSheet _ _) (fun _ _ => List.not_mem_nil) (fun r1 σ1 hσ1 => ?_)
  refine fr_ite (fun c1 => ?_) (fun c1 => ?_)
  · exact fr_some hσ1
  · refine fr_bd hσ1 (fr_f_X6_isLane _ _) (fun _ _ => List.not_mem_nil) (fun r3 σ3 hσ3 => ?_)
    refine fr_ite (fun c2 => ?_) (fun c2 => ?_)
    · exact fr_some hσ3
    · refine fr_ite (fun c3 => ?_) (fun c3 => ?_)
      · exact fr_some hσ3
      · refine fr_ite (fun c4 => ?_) (fun c4 => ?_)
        · refine fr_ite (fun c5 => ?_) (fun c5 => ?_)
          · refine fr_ite (fun c6 => ?_) (fun c6 => ?_)
            · refine fr_bd hσ3 (fr_f_X5_become _ _ _) (k_sub (by decide)) (fun _ σ8 hσ8 => ?_)
              exact fr_to hσ8 (fr_l_X6_read_56   _ _ _ _ _ _ _ _ _) (fun _ h => h)
            · exact fr_none
          · exact fr_none
        · exact fr_some hσ3
theorem fr_f_X6_torn (σ : k_Mem) : k_Fr [] σ (f_X6_torn σ) := by
  unfold f_X6_torn
  exact fr_some sm_rf
theorem fr_f_X6_count (x1 : Int32) (σ : k_Mem) : k_Fr [] σ (f_X6_count x1 σ) := by
  unfold f_X6_count
  refine fr_ite (fun c1 => ?_) (fun c1 => ?_)
  · exact fr_some sm_rf
  · refine fr_ite (fun c2 => ?_) (fun c2 => ?_)
    · refine fr_bd sm_rf (fr_f_J6_bitCount_0f7a4 _ _) (fun _ _ => List.not_mem_nil) (fun r3 σ3 hσ3 => ?_)
      exact fr_some hσ3
    · refine fr_ite (fun c3 => ?_) (fun c3 => ?_)
      · exact fr_some sm_rf
      · refine fr_ite (fun c4 => ?_) (fun c4 => ?_)
        · refine fr_ite (fun c5 => ?_) (fun c5 => ?_)
          · refine fr_ite (fun c6 => ?_) (fun c6 => ?_)
            · refine fr_bd sm_rf (fr_f_X2_isNothing _ _) (fun _ _ => List.not_mem_nil) (fun r7 σ7 hσ7 => ?_)
              refine fr_ite (fun c7 => ?_) (fun c7 => ?_)
              · refine fr_ite (fun c8 => ?_) (fun c8 => ?_)
                · refine fr_ite (fun c9 => ?_) (fun c9 => ?_)
                  · exact fr_some hσ7
                  · exact fr_none
                · exact fr_none
              · exact fr_some hσ7
            · exact fr_none
          · exact fr_none
        · refine fr_ite (fun c10 => ?_) (fun c10 => ?_)
          · refine fr_bd sm_rf (fr_f_X5_couples _ _) (fun _ _ => List.not_mem_nil) (fun r11 σ11 hσ11 => ?_)
            exact fr_some hσ11
          · refine fr_ite (fun c11 => ?_) (fun c11 => ?_)
            · refine fr_bd sm_rf (fr_f_X5_foldings _ _) (fun _ _ => List.not_mem_nil) (fun r13 σ13 hσ13 => ?_)
              exact fr_some hσ13
            · exact fr_some sm_rf
theorem fr_f_X7_in (x0 : Int64) (x2 : Int64) (x4 : Int64) (σ : k_Mem) : k_Fr [] σ (f_X7_in x0 x2 x4 σ) := by
  unfold f_X7_in
  refine fr_ite (fun c1 => ?_) (fun c1 => ?_)
  · exact fr_some sm_rf
  · refine fr_ite (fun c2 => ?_) (fun c2 => ?_)
    · exact fr_some sm_rf
    · exact fr_some sm_rf
theorem fr_f_X7_feed (x1 : Int32) (σ : k_Mem) : k_Fr [67, 70] σ (f_X7_feed x1 σ) := by
  unfold f_X7_feed
  refine fr_bd sm_rf (fr_f_X7_in _ _ _ _) (fun _ _ => List.not_mem_nil) (fun r1 σ1 hσ1 => ?_)
  refine fr_ite (fun c1 => ?_) (fun c1 => ?_)
  · exact fr_some hσ1
  · refine fr_ite (fun c2 => ?_) (fun c2 => ?_)
    · exact fr_some hσ1
    · refine fr_ite (fun c3 => ?_) (fun c3 => ?_)
      · exact fr_some (sm_set (by decide) (sm_set (by decide) hσ1))
      · exact fr_none
theorem fr_f_X7_end (x1 : Int32) (σ : k_Mem) : k_Fr [67] σ (f_X7_end x1 σ) := by
  unfold f_X7_end
  refine fr_bd sm_rf (fr_f_X7_in _ _ _ _) (fun _ _ => List.not_mem_nil) (fun r1 σ1 hσ1 => ?_)
  refine fr_ite (fun c1 => ?_) (fun c1 => ?_)
  · exact fr_some hσ1
  · exact fr_some (sm_set (by decide) hσ1)
theorem fr_f_X7_byteAt (x1 : Int32) (σ : k_Mem) : k_Fr [] σ (f_X7_byteAt x1 σ) := by
  unfold f_X7_byteAt
  refine fr_ite (fun c1 => ?_) (fun c1 => ?_)
  · exact fr_some sm_rf
  · refine fr_ite (fun c2 => ?_) (fun c2 => ?_)
    · exact fr_some sm_rf
    · exact fr_none
theorem fr_f_X7_fails (x1 : Int32) (σ : k_Mem) : k_Fr [67] σ (f_X7_fails x1 σ) := by
  unfold f_X7_fails
  refine fr_ite (fun c1 => ?_) (fun c1 => ?_)
  · exact fr_some (sm_set (by decide) (sm_set (by decide) sm_rf))
  · exact fr_some sm_rf
theorem fr_j_X7_step_201 (k140 : k_Mem → Option (Unit × k_Mem)) (xs1 : Int32) (σ : k_Mem) (hk140 : ∀ (a0 : k_Mem), k_Fr [67] a0 (k140 a0)) : k_Fr [67] σ (j_X7_step_201 k140 xs1 σ) := by
  unfold j_X7_step_201
  exact fr_to (sm_set (by decide) (sm_set (by decide) sm_rf)) (hk140 _) (fun _ h => h)
theorem fr_l_X7_step_140  : ∀ (n : Nat) (σ : k_Mem), k_Fr [67] σ (l_X7_step_140  n σ) := by
  intro n
  induction n with
  | zero => intro σ; exact fr_none
  | succ n ih =>
    intro σ
    rw [l_X7_step_140]
    refine fr_bd sm_rf (fr_f_X7_byteAt _ _) (fun _ _ => List.not_mem_nil) (fun r12 σ12 hσ12 => ?_)
    refine fr_bd hσ12 (fr_f_X7_in _ _ _ _) (fun _ _ => List.not_mem_nil) (fun r13 σ13 hσ13 => ?_)
    refine fr_ite (fun c1 => ?_) (fun c1 => ?_)
    · refine fr_ite (fun c2 => ?_) (fun c2 => ?_)
      · exact fr_some (sm_set (by decide) hσ13)
      · refine fr_bd (sm_set (by decide) hσ13) (fr_f_X7_fails _ _) (fun _ h => h) (fun _ σ16 hσ16 => ?_)
        exact fr_some hσ16
    · refine fr_ite (fun c3 => ?_) (fun c3 => ?_)
      · exact fr_to hσ13 (fr_j_X7_step_201 _ _ _ (fun σ => ih σ)) (fun _ h => h)
      · refine fr_bd hσ13 (fr_f_X7_byteAt _ _) (fun _ _ => List.not_mem_nil) (fun r18 σ18 hσ18 => ?_)
        exact fr_to hσ18 (fr_j_X7_step_201 _ _ _ (fun σ => ih σ)) (fun _ h => h)
theorem fr_l_X7_step_84  : ∀ (n : Nat) (σ : k_Mem), k_Fr [67] σ (l_X7_step_84  n σ) := by
  intro n
  induction n with
  | zero => intro σ; exact fr_none
  | succ n ih =>
    intro σ
    rw [l_X7_step_84]
    refine fr_bd sm_rf (fr_f_X7_byteAt _ _) (fun _ _ => List.not_mem_nil) (fun r19 σ19 hσ19 => ?_)
    refine fr_bd hσ19 (fr_f_X7_in _ _ _ _) (fun _ _ => List.not_mem_nil) (fun r20 σ20 hσ20 => ?_)
    refine fr_ite (fun c1 => ?_) (fun c1 => ?_)
    · exact fr_some (sm_set (by decide) hσ20)
    · exact fr_to (sm_set (by decide) hσ20) (ih _) (fun _ h => h)
theorem fr_l_X7_step_8  : ∀ (n : Nat) (σ : k_Mem), k_Fr [67] σ (l_X7_step_8  n σ) := by
  intro n
  induction n with
  | zero => intro σ; exact fr_none
  | succ n ih =>
    intro σ
    rw [l_X7_step_8]
    refine fr_bd sm_rf (fr_f_X7_byteAt _ _) (fun _ _ => List.not_mem_nil) (fun r2 σ2 hσ2 => ?_)
    refine fr_ite (fun c1 => ?_) (fun c1 => ?_)
    · exact fr_to (sm_set (by decide) hσ2) (ih _) (fun _ h => h)
    · refine fr_bd (sm_set (by decide) hσ2) (fr_f_X7_byteAt _ _) (fun _ _ => List.not_mem_nil) (fun r4 σ4 hσ4 => ?_)
      refine fr_ite (fun c2 => ?_) (fun c2 => ?_)
      · exact fr_some (sm_set (by decide) (sm_set (by decide) hσ4))
      · refine fr_bd (sm_set (by decide) hσ4) (fr_f_X7_in _ _ _ _) (fun _ _ => List.not_mem_nil) (fun r6 σ6 hσ6 => ?_)
        refine fr_ite (fun c3 => ?_) (fun c3 => ?_)
        · refine fr_bd hσ6 (fr_f_X7_in _ _ _ _) (fun _ _ => List.not_mem_nil) (fun r8 σ8 hσ8 => ?_)
          refine fr_ite (fun c4 => ?_) (fun c4 => ?_)
          · refine fr_ite (fun c5 => ?_) (fun c5 => ?_)
            · exact fr_some (sm_set (by decide) (sm_set (by decide) hσ8))
            · refine fr_bd (sm_set (by decide) (sm_set (by decide) hσ8)) (fr_f_X7_fails _ _) (fun _ h => h) (fun _ σ11 hσ11 => ?_)
              exact fr_some hσ11
          · exact fr_to hσ8 (fr_l_X7_step_140   _ _) (fun _ h => h)
        · exact fr_to hσ6 (fr_l_X7_step_84   _ _) (fun _ h => h)
theorem fr_f_X7_step (σ : k_Mem) : k_Fr [67] σ (f_X7_step σ) := by
  unfold f_X7_step
  refine fr_ite (fun c1 => ?_) (fun c1 => ?_)
  · exact fr_to sm_rf (fr_l_X7_step_8   _ _) (fun _ h => h)
  · exact fr_some sm_rf
theorem fr_j_X7_nameHere_106 (k2 : Int32 → k_Mem → Option (Int32 × k_Mem)) (x1 : Int32) (x2 : Int32) (σ : k_Mem) (hk2 : ∀ (a0 : Int32) (a1 : k_Mem), k_Fr [] a1 (k2 a0 a1)) : k_Fr [] σ (j_X7_nameHere_106 k2 x1 x2 σ) := by
  unfold j_X7_nameHere_106
  refine fr_ite (fun c1 => ?_) (fun c1 => ?_)
  · exact fr_to sm_rf (hk2 _ _) (fun _ h => h)
  · exact fr_some sm_rf
theorem fr_j_X7_nameHere_99 (k2 : Int32 → k_Mem → Option (Int32 × k_Mem)) (k51 : Int32 → Int32 → Int32 → k_Mem → Option (Int32 × k_Mem)) (x1 : Int32) (x3 : Int32) (xs0 : Int32) (σ : k_Mem) (hk2 : ∀ (a0 : Int32) (a1 : k_Mem), k_Fr [] a1 (k2 a0 a1)) (hk51 : ∀ (a0 : Int32) (a1 : Int32) (a2 : Int32) (a3 : k_Mem), k_Fr [] a3 (k51 a0 a1 a2 a3)) : k_Fr [] σ (j_X7_nameHere_99 k2 k51 x1 x3 xs0 σ) := by
  unfold j_X7_nameHere_99
  exact fr_to sm_rf (hk51 _ _ _ _) (fun _ h => h)
theorem fr_l_X7_nameHere_51 (k2 : Int32 → k_Mem → Option (Int32 × k_Mem)) (hk2 : ∀ (a0 : Int32) (a1 : k_Mem), k_Fr [] a1 (k2 a0 a1)) : ∀ (n : Nat) (x1 : Int32) (x2 : Int32) (x3 : Int32) (σ : k_Mem), k_Fr [] σ (l_X7_nameHere_51 k2 n x1 x2 x3 σ) := by
  intro n
  induction n with
  | zero => intro x1 x2 x3 σ; exact fr_none
  | succ n ih =>
    intro x1 x2 x3 σ
    rw [l_X7_nameHere_51]
    refine fr_ite (fun c1 => ?_) (fun c1 => ?_)
    · exact fr_to sm_rf (fr_j_X7_nameHere_106 _ _ _ _ hk2) (fun _ h => h)
    · refine fr_ite (fun c2 => ?_) (fun c2 => ?_)
      · exact fr_to sm_rf (fr_j_X7_nameHere_106 _ _ _ _ hk2) (fun _ h => h)
      · refine fr_bd sm_rf (fr_f_X7_byteAt _ _) (fun _ _ => List.not_mem_nil) (fun r7 σ7 hσ7 => ?_)
        refine fr_ite (fun c3 => ?_) (fun c3 => ?_)
        · refine fr_ite (fun c4 => ?_) (fun c4 => ?_)
          · refine fr_ite (fun c5 => ?_) (fun c5 => ?_)
            · exact fr_to hσ7 (fr_j_X7_nameHere_99 _ _ _ _ _ _ hk2 (fun x1 x2 x3 σ => ih x1 x2 x3 σ)) (fun _ h => h)
            · exact fr_to hσ7 (fr_j_X7_nameHere_99 _ _ _ _ _ _ hk2 (fun x1 x2 x3 σ => ih x1 x2 x3 σ)) (fun _ h => h)
          · exact fr_none
        · exact fr_none
theorem fr_j_X7_nameHere_48 (k2 : Int32 → k_Mem → Option (Int32 × k_Mem)) (x1 : Int32) (xs0 : Int32) (σ : k_Mem) (hk2 : ∀ (a0 : Int32) (a1 : k_Mem), k_Fr [] a1 (k2 a0 a1)) : k_Fr [] σ (j_X7_nameHere_48 k2 x1 xs0 σ) := by
  unfold j_X7_nameHere_48
  exact fr_to sm_rf (fr_l_X7_nameHere_51 _ hk2 _ _ _ _ _) (fun _ h => h)
theorem fr_l_X7_nameHere_2  : ∀ (n : Nat) (x1 : Int32) (σ : k_Mem), k_Fr [] σ (l_X7_nameHere_2  n x1 σ) := by
  intro n
  induction n with
  | zero => intro x1 σ; exact fr_none
  | succ n ih =>
    intro x1 σ
    rw [l_X7_nameHere_2]
    refine fr_ite (fun c1 => ?_) (fun c1 => ?_)
    · exact fr_some sm_rf
    · refine fr_ite (fun c2 => ?_) (fun c2 => ?_)
      · refine fr_ite (fun c3 => ?_) (fun c3 => ?_)
        · refine fr_ite (fun c4 => ?_) (fun c4 => ?_)
          · refine fr_ite (fun c5 => ?_) (fun c5 => ?_)
            · exact fr_to sm_rf (fr_j_X7_nameHere_48 _ _ _ _ (fun x1 σ => ih x1 σ)) (fun _ h => h)
            · exact fr_to sm_rf (fr_j_X7_nameHere_48 _ _ _ _ (fun x1 σ => ih x1 σ)) (fun _ h => h)
          · exact fr_none
        · exact fr_none
      · exact fr_some sm_rf
theorem fr_f_X7_nameHere (σ : k_Mem) : k_Fr [] σ (f_X7_nameHere σ) := by
  unfold f_X7_nameHere
  exact fr_to sm_rf (fr_l_X7_nameHere_2   _ _ _) (fun _ h => h)
theorem fr_j_X7_other_86 (xs0 : Int32) (σ : k_Mem) : k_Fr [67] σ (j_X7_other_86 xs0 σ) := by
  unfold j_X7_other_86
  refine fr_bd sm_rf (fr_f_X7_step _) (fun _ h => h) (fun _ σ11 hσ11 => ?_)
  exact fr_some hσ11
theorem fr_j_X7_other_71 (x1 : Int32) (σ : k_Mem) : k_Fr [67] σ (j_X7_other_71 x1 σ) := by
  unfold j_X7_other_71
  refine fr_ite (fun c1 => ?_) (fun c1 => ?_)
  · exact fr_to sm_rf (fr_j_X7_other_86 _ _ ) (fun _ h => h)
  · exact fr_to sm_rf (fr_j_X7_other_86 _ _ ) (fun _ h => h)
theorem fr_j_X7_other_47 (x1 : Int32) (x3 : Int32) (σ : k_Mem) : k_Fr [67] σ (j_X7_other_47 x1 x3 σ) := by
  unfold j_X7_other_47
  refine fr_ite (fun c1 => ?_) (fun c1 => ?_)
  · refine fr_ite (fun c2 => ?_) (fun c2 => ?_)
    · refine fr_bd sm_rf (fr_f_X7_fails _ _) (fun _ h => h) (fun _ σ9 hσ9 => ?_)
      exact fr_to hσ9 (fr_j_X7_other_71 _ _ ) (fun _ h => h)
    · exact fr_to sm_rf (fr_j_X7_other_71 _ _ ) (fun _ h => h)
  · exact fr_to sm_rf (fr_j_X7_other_71 _ _ ) (fun _ h => h)
theorem fr_j_X7_other_20 (x1 : Int32) (x2 : Int32) (x3 : Int32) (σ : k_Mem) : k_Fr [67] σ (j_X7_other_20 x1 x2 x3 σ) := by
  unfold j_X7_other_20
  refine fr_ite (fun c1 => ?_) (fun c1 => ?_)
  · refine fr_bd sm_rf (fr_f_X7_in _ _ _ _) (fun _ _ => List.not_mem_nil) (fun r4 σ4 hσ4 => ?_)
    refine fr_ite (fun c2 => ?_) (fun c2 => ?_)
    · refine fr_bd hσ4 (fr_f_X7_fails _ _) (fun _ h => h) (fun _ σ6 hσ6 => ?_)
      exact fr_to hσ6 (fr_j_X7_other_47 _ _ _ ) (fun _ h => h)
    · exact fr_to hσ4 (fr_j_X7_other_47 _ _ _ ) (fun _ h => h)
  · exact fr_to sm_rf (fr_j_X7_other_47 _ _ _ ) (fun _ h => h)
theorem fr_f_X7_other (x1 : Int32) (x2 : Int32) (x3 : Int32) (σ : k_Mem) : k_Fr [67] σ (f_X7_other x1 x2 x3 σ) := by
  unfold f_X7_other
  refine fr_ite (fun c1 => ?_) (fun c1 => ?_)
  · refine fr_ite (fun c2 => ?_) (fun c2 => ?_)
    · exact fr_to sm_rf (fr_j_X7_other_20 _ _ _ _ ) (fun _ h => h)
    · refine fr_bd sm_rf (fr_f_X7_fails _ _) (fun _ h => h) (fun _ σ12 hσ12 => ?_)
      exact fr_to hσ12 (fr_j_X7_other_20 _ _ _ _ ) (fun _ h => h)
  · exact fr_to sm_rf (fr_j_X7_other_20 _ _ _ _ ) (fun _ h => h)
theorem fr_j_X7_readHand_162 (x2 : Int32) (xs1 : Int32) (xs2 : Int32) (σ : k_Mem) : k_Fr [67, 69] σ (j_X7_readHand_162 x2 xs1 xs2 σ) := by
  unfold j_X7_readHand_162
  exact fr_some (sm_set (by decide) (sm_set (by decide) sm_rf))
theorem fr_j_X7_readHand_90 (x1 : Int32) (x2 : Int32) (xs0 : Int32) (σ : k_Mem) : k_Fr [67, 69] σ (j_X7_readHand_90 x1 x2 xs0 σ) := by
  unfold j_X7_readHand_90
  refine fr_ite (fun c1 => ?_) (fun c1 => ?_)
  · refine fr_bd (sm_set (by decide) sm_rf) (fr_f_X7_other _ _ _ _) (k_sub (by decide)) (fun r13 σ13 hσ13 => ?_)
    refine fr_ite (fun c2 => ?_) (fun c2 => ?_)
    · refine fr_bd (sm_set (by decide) hσ13) (fr_f_X7_other _ _ _ _) (k_sub (by decide)) (fun r14 σ14 hσ14 => ?_)
      refine fr_ite (fun c3 => ?_) (fun c3 => ?_)
      · refine fr_bd (sm_set (by decide) hσ14) (fr_f_X7_other _ _ _ _) (k_sub (by decide)) (fun r15 σ15 hσ15 => ?_)
        refine fr_ite (fun c4 => ?_) (fun c4 => ?_)
        · refine fr_ite (fun c5 => ?_) (fun c5 => ?_)
          · exact fr_to (sm_set (by decide) hσ15) (fr_j_X7_readHand_162 _ _ _ _ ) (fun _ h => h)
          · exact fr_to (sm_set (by decide) hσ15) (fr_j_X7_readHand_162 _ _ _ _ ) (fun _ h => h)
        · exact fr_none
      · exact fr_none
    · exact fr_none
  · exact fr_none
theorem fr_j_X7_readHand_61 (x1 : Int32) (x2 : Int32) (σ : k_Mem) : k_Fr [67, 69] σ (j_X7_readHand_61 x1 x2 σ) := by
  unfold j_X7_readHand_61
  refine fr_ite (fun c1 => ?_) (fun c1 => ?_)
  · refine fr_bd sm_rf (fr_f_X7_step _) (k_sub (by decide)) (fun _ σ11 hσ11 => ?_)
    refine fr_ite (fun c2 => ?_) (fun c2 => ?_)
    · exact fr_to hσ11 (fr_j_X7_readHand_90 _ _ _ _ ) (fun _ h => h)
    · exact fr_to hσ11 (fr_j_X7_readHand_90 _ _ _ _ ) (fun _ h => h)
  · exact fr_some sm_rf
theorem fr_j_X7_readHand_52 (x1 : Int32) (x2 : Int32) (xs0 : Int32) (σ : k_Mem) : k_Fr [67, 69] σ (j_X7_readHand_52 x1 x2 xs0 σ) := by
  unfold j_X7_readHand_52
  refine fr_ite (fun c1 => ?_) (fun c1 => ?_)
  · refine fr_bd sm_rf (fr_f_X7_fails _ _) (k_sub (by decide)) (fun _ σ9 hσ9 => ?_)
    exact fr_to hσ9 (fr_j_X7_readHand_61 _ _ _ ) (fun _ h => h)
  · exact fr_to sm_rf (fr_j_X7_readHand_61 _ _ _ ) (fun _ h => h)
theorem fr_j_X7_readHand_30 (x1 : Int32) (x2 : Int32) (σ : k_Mem) : k_Fr [67, 69] σ (j_X7_readHand_30 x1 x2 σ) := by
  unfold j_X7_readHand_30
  refine fr_ite (fun c1 => ?_) (fun c1 => ?_)
  · refine fr_ite (fun c2 => ?_) (fun c2 => ?_)
    · exact fr_to sm_rf (fr_j_X7_readHand_52 _ _ _ _ ) (fun _ h => h)
    · exact fr_to sm_rf (fr_j_X7_readHand_52 _ _ _ _ ) (fun _ h => h)
  · exact fr_to sm_rf (fr_j_X7_readHand_61 _ _ _ ) (fun _ h => h)
theorem fr_f_X7_readHand (x1 : Int32) (σ : k_Mem) : k_Fr [67, 69] σ (f_X7_readHand x1 σ) := by
  unfold f_X7_readHand
  refine fr_bd sm_rf (fr_f_X7_nameHere _) (fun _ _ => List.not_mem_nil) (fun r1 σ1 hσ1 => ?_)
  refine fr_ite (fun c1 => ?_) (fun c1 => ?_)
  · refine fr_bd hσ1 (fr_f_X7_in _ _ _ _) (fun _ _ => List.not_mem_nil) (fun r3 σ3 hσ3 => ?_)
    refine fr_ite (fun c2 => ?_) (fun c2 => ?_)
    · refine fr_bd hσ3 (fr_f_X7_fails _ _) (k_sub (by decide)) (fun _ σ5 hσ5 => ?_)
      exact fr_to hσ5 (fr_j_X7_readHand_30 _ _ _ ) (fun _ h => h)
    · exact fr_to hσ3 (fr_j_X7_readHand_30 _ _ _ ) (fun _ h => h)
  · exact fr_to hσ1 (fr_j_X7_readHand_30 _ _ _ ) (fun _ h => h)
theorem fr_f_X7_handHere (x1 : Int32) (x2 : Int32) (x3 : Int32) (σ : k_Mem) : k_Fr [67] σ (f_X7_handHere x1 x2 x3 σ) := by
  unfold f_X7_handHere
  refine fr_bd sm_rf (fr_f_X7_other _ _ _ _) (fun _ h => h) (fun r1 σ1 hσ1 => ?_)
  exact fr_some (sm_set (by decide) hσ1)
theorem fr_f_X7_readMore (x1 : Int32) (σ : k_Mem) : k_Fr [67, 69] σ (f_X7_readMore x1 σ) := by
  unfold f_X7_readMore
  refine fr_ite (fun c1 => ?_) (fun c1 => ?_)
  · refine fr_ite (fun c2 => ?_) (fun c2 => ?_)
    · refine fr_bd sm_rf (fr_f_X7_handHere _ _ _ _) (k_sub (by decide)) (fun r3 σ3 hσ3 => ?_)
      refine fr_bd (sm_set (by decide) hσ3) (fr_f_X7_handHere _ _ _ _) (k_sub (by decide)) (fun r4 σ4 hσ4 => ?_)
      refine fr_ite (fun c3 => ?_) (fun c3 => ?_)
      · exact fr_some (sm_set (by decide) hσ4)
      · exact fr_none
    · refine fr_ite (fun c4 => ?_) (fun c4 => ?_)
      · refine fr_ite (fun c5 => ?_) (fun c5 => ?_)
        · refine fr_ite (fun c6 => ?_) (fun c6 => ?_)
          · refine fr_bd sm_rf (fr_f_X7_handHere _ _ _ _) (k_sub (by decide)) (fun r6 σ6 hσ6 => ?_)
            refine fr_ite (fun c7 => ?_) (fun c7 => ?_)
            · exact fr_some (sm_set (by decide) hσ6)
            · exact fr_none
          · exact fr_none
        · exact fr_none
      · refine fr_ite (fun c8 => ?_) (fun c8 => ?_)
        · refine fr_bd sm_rf (fr_f_X7_handHere _ _ _ _) (k_sub (by decide)) (fun r8 σ8 hσ8 => ?_)
          refine fr_ite (fun c9 => ?_) (fun c9 => ?_)
          · refine fr_ite (fun c10 => ?_) (fun c10 => ?_)
            · refine fr_bd hσ8 (fr_f_X7_handHere _ _ _ _) (k_sub (by decide)) (fun r9 σ9 hσ9 => ?_)
              refine fr_ite (fun c11 => ?_) (fun c11 => ?_)
              · exact fr_some (sm_set (by decide) hσ9)
              · exact fr_none
            · exact fr_none
          · exact fr_none
        · refine fr_bd sm_rf (fr_f_X7_handHere _ _ _ _) (k_sub (by decide)) (fun r10 σ10 hσ10 => ?_)
          refine fr_bd hσ10 (fr_f_X7_handHere _ _ _ _) (k_sub (by decide)) (fun r11 σ11 hσ11 => ?_)
          refine fr_ite (fun c12 => ?_) (fun c12 => ?_)
          · exact fr_some (sm_set (by decide) (sm_set (by decide) hσ11))
          · exact fr_none
  · refine fr_bd sm_rf (fr_f_X7_readHand _ _) (fun _ h => h) (fun _ σ12 hσ12 => ?_)
    exact fr_some hσ12
theorem fr_j_X7_readLine_60 (σ : k_Mem) : k_Fr [67, 69] σ (j_X7_readLine_60 σ) := by
  unfold j_X7_readLine_60
  refine fr_bd sm_rf (fr_f_X7_step _) (k_sub (by decide)) (fun _ σ10 hσ10 => ?_)
  exact fr_some hσ10
theorem fr_f_X7_readLine (σ : k_Mem) : k_Fr [67, 69] σ (f_X7_readLine σ) := by
  unfold f_X7_readLine
  refine fr_bd sm_rf (fr_f_X7_nameHere _) (fun _ _ => List.not_mem_nil) (fun r1 σ1 hσ1 => ?_)
  refine fr_bd hσ1 (fr_f_X7_in _ _ _ _) (fun _ _ => List.not_mem_nil) (fun r2 σ2 hσ2 => ?_)
  refine fr_ite (fun c1 => ?_) (fun c1 => ?_)
  · refine fr_bd hσ2 (fr_f_X7_fails _ _) (k_sub (by decide)) (fun _ σ4 hσ4 => ?_)
    exact fr_some hσ4
  · refine fr_bd hσ2 (fr_f_X7_step _) (k_sub (by decide)) (fun _ σ5 hσ5 => ?_)
    refine fr_ite (fun c2 => ?_) (fun c2 => ?_)
    · refine fr_bd hσ5 (fr_f_X7_readMore _ _) (fun _ h => h) (fun _ σ7 hσ7 => ?_)
      refine fr_ite (fun c3 => ?_) (fun c3 => ?_)
      · refine fr_ite (fun c4 => ?_) (fun c4 => ?_)
        · exact fr_to hσ7 (fr_j_X7_readLine_60 _ ) (fun _ h => h)
        · refine fr_bd hσ7 (fr_f_X7_fails _ _) (k_sub (by decide)) (fun _ σ11 hσ11 => ?_)
          exact fr_to hσ11 (fr_j_X7_readLine_60 _ ) (fun _ h => h)
      · exact fr_to hσ7 (fr_j_X7_readLine_60 _ ) (fun _ h => h)
    · exact fr_some hσ5
theorem fr_f_X7_handsOf (x0 : Int32) (x1 : Int32) (σ : k_Mem) : k_Fr [] σ (f_X7_handsOf x0 x1 σ) := by
  unfold f_X7_handsOf
  exact fr_some sm_rf
theorem fr_l_X7_text_150  : ∀ (n : Nat) (x1 : Int32) (x2 : Int32) (σ : k_Mem), k_Fr [67, 68, 69, 79] σ (l_X7_text_150  n x1 x2 σ) := by
  intro n
  induction n with
  | zero => intro x1 x2 σ; exact fr_none
  | succ n ih =>
    intro x1 x2 σ
    rw [l_X7_text_150]
    refine fr_ite (fun c1 => ?_) (fun c1 => ?_)
    · refine fr_ite (fun c2 => ?_) (fun c2 => ?_)
      · refine fr_ite (fun c3 => ?_) (fun c3 => ?_)
        · refine fr_ct ?_
          exact fr_some (sm_set (by decide) (sm_set (by decide) (sm_set (by decide) (sm_set (by decide) (sm_set (by decide) sm_rf)))))
        · exact fr_none
      · exact fr_none
    · refine fr_ite (fun c4 => ?_) (fun c4 => ?_)
      · refine fr_ite (fun c5 => ?_) (fun c5 => ?_)
        · exact fr_to (sm_set (by decide) sm_rf) (ih _ _ _) (fun _ h => h)
        · exact fr_none
      · exact fr_none
theorem fr_j_X7_text_120 (x1 : Int32) (σ : k_Mem) : k_Fr [67, 68, 69, 79] σ (j_X7_text_120 x1 σ) := by
  unfold j_X7_text_120
  refine fr_ite (fun c1 => ?_) (fun c1 => ?_)
  · exact fr_to (sm_set (by decide) (sm_set (by decide) sm_rf)) (fr_l_X7_text_150   _ _ _ _) (fun _ h => h)
  · exact fr_some (sm_set (by decide) (sm_set (by decide) sm_rf))
theorem fr_j_X7_text_86 (x1 : Int32) (σ : k_Mem) : k_Fr [67, 68, 69, 79] σ (j_X7_text_86 x1 σ) := by
  unfold j_X7_text_86
  refine fr_ite (fun c1 => ?_) (fun c1 => ?_)
  · refine fr_bd sm_rf (fr_f_X7_handsOf _ _ _) (fun _ _ => List.not_mem_nil) (fun r6 σ6 hσ6 => ?_)
    refine fr_ite (fun c2 => ?_) (fun c2 => ?_)
    · exact fr_to hσ6 (fr_j_X7_text_120 _ _ ) (fun _ h => h)
    · refine fr_bd hσ6 (fr_f_X7_fails _ _) (k_sub (by decide)) (fun _ σ11 hσ11 => ?_)
      exact fr_to hσ11 (fr_j_X7_text_120 _ _ ) (fun _ h => h)
  · exact fr_to sm_rf (fr_j_X7_text_120 _ _ ) (fun _ h => h)
theorem fr_l_X7_text_62  : ∀ (n : Nat) (x1 : Int32) (σ : k_Mem), k_Fr [67, 68, 69, 79] σ (l_X7_text_62  n x1 σ) := by
  intro n
  induction n with
  | zero => intro x1 σ; exact fr_none
  | succ n ih =>
    intro x1 σ
    rw [l_X7_text_62]
    refine fr_ite (fun c1 => ?_) (fun c1 => ?_)
    · refine fr_ite (fun c2 => ?_) (fun c2 => ?_)
      · exact fr_to sm_rf (fr_j_X7_text_86 _ _ ) (fun _ h => h)
      · refine fr_bd sm_rf (fr_f_X7_readLine _) (k_sub (by decide)) (fun _ σ12 hσ12 => ?_)
        exact fr_to hσ12 (ih _ _) (fun _ h => h)
    · exact fr_to sm_rf (fr_j_X7_text_86 _ _ ) (fun _ h => h)
theorem fr_l_X7_text_39  : ∀ (n : Nat) (x1 : Int32) (x2 : Int32) (σ : k_Mem), k_Fr [67, 68, 69, 79] σ (l_X7_text_39  n x1 x2 σ) := by
  intro n
  induction n with
  | zero => intro x1 x2 σ; exact fr_none
  | succ n ih =>
    intro x1 x2 σ
    rw [l_X7_text_39]
    refine fr_ite (fun c1 => ?_) (fun c1 => ?_)
    · refine fr_bd sm_rf (fr_f_X7_step _) (k_sub (by decide)) (fun _ σ2 hσ2 => ?_)
      exact fr_to hσ2 (fr_l_X7_text_62   _ _ _) (fun _ h => h)
    · refine fr_ite (fun c2 => ?_) (fun c2 => ?_)
      · exact fr_to (sm_set (by decide) sm_rf) (ih _ _ _) (fun _ h => h)
      · exact fr_none
theorem fr_f_X7_text (σ : k_Mem) : k_Fr [67, 68, 69, 79] σ (f_X7_text σ) := by
  unfold f_X7_text
  exact fr_to (sm_set (by decide) (sm_set (by decide) (sm_set (by decide) (sm_set (by decide) (sm_set (by decide) (sm_set (by decide) (sm_set (by decide) sm_rf))))))) (fr_l_X7_text_39   _ _ _ _) (fun _ h => h)
theorem fr_f_X7_fault (σ : k_Mem) : k_Fr [] σ (f_X7_fault σ) := by
  unfold f_X7_fault
  exact fr_some sm_rf
theorem fr_l_X7_wedTo_34  : ∀ (n : Nat) (x1 : Int32) (x2 : Int32) (σ : k_Mem), k_Fr [] σ (l_X7_wedTo_34  n x1 x2 σ) := by
  intro n
  induction n with
  | zero => intro x1 x2 σ; exact fr_none
  | succ n ih =>
    intro x1 x2 σ
    rw [l_X7_wedTo_34]
    refine fr_ite (fun c1 => ?_) (fun c1 => ?_)
    · exact fr_some sm_rf
    · refine fr_ite (fun c2 => ?_) (fun c2 => ?_)
      · refine fr_ite (fun c3 => ?_) (fun c3 => ?_)
        · exact fr_some sm_rf
        · exact fr_to sm_rf (ih _ _ _) (fun _ h => h)
      · exact fr_none
theorem fr_f_X7_wedTo (x1 : Int32) (σ : k_Mem) : k_Fr [] σ (f_X7_wedTo x1 σ) := by
  unfold f_X7_wedTo
  refine fr_ite (fun c1 => ?_) (fun c1 => ?_)
  · exact fr_to sm_rf (fr_l_X7_wedTo_34   _ _ _ _) (fun _ h => h)
  · refine fr_ite (fun c2 => ?_) (fun c2 => ?_)
    · refine fr_ite (fun c3 => ?_) (fun c3 => ?_)
      · exact fr_some sm_rf
      · refine fr_ite (fun c4 => ?_) (fun c4 => ?_)
        · exact fr_some sm_rf
        · exact fr_none
    · exact fr_none
theorem fr_j_X7_wedOnes_28 (k4 : Int32 → Int32 → k_Mem → Option (Int32 × k_Mem)) (x2 : Int32) (xs0 : Int32) (xs1 : Int32) (σ : k_Mem) (hk4 : ∀ (a0 : Int32) (a1 : Int32) (a2 : k_Mem), k_Fr [] a2 (k4 a0 a1 a2)) : k_Fr [] σ (j_X7_wedOnes_28 k4 x2 xs0 xs1 σ) := by
  unfold j_X7_wedOnes_28
  exact fr_to sm_rf (hk4 _ _ _) (fun _ h => h)
theorem fr_l_X7_wedOnes_4  : ∀ (n : Nat) (x1 : Int32) (x2 : Int32) (σ : k_Mem), k_Fr [] σ (l_X7_wedOnes_4  n x1 x2 σ) := by
  intro n
  induction n with
  | zero => intro x1 x2 σ; exact fr_none
  | succ n ih =>
    intro x1 x2 σ
    rw [l_X7_wedOnes_4]
    refine fr_ite (fun c1 => ?_) (fun c1 => ?_)
    · exact fr_some sm_rf
    · refine fr_bd sm_rf (fr_f_X7_wedTo _ _) (fun _ _ => List.not_mem_nil) (fun r2 σ2 hσ2 => ?_)
      refine fr_ite (fun c2 => ?_) (fun c2 => ?_)
      · exact fr_to hσ2 (fr_j_X7_wedOnes_28 _ _ _ _ _ (fun x1 x2 σ => ih x1 x2 σ)) (fun _ h => h)
      · exact fr_to hσ2 (fr_j_X7_wedOnes_28 _ _ _ _ _ (fun x1 x2 σ => ih x1 x2 σ)) (fun _ h => h)
theorem fr_f_X7_wedOnes (σ : k_Mem) : k_Fr [] σ (f_X7_wedOnes σ) := by
  unfold f_X7_wedOnes
  exact fr_to sm_rf (fr_l_X7_wedOnes_4   _ _ _ _) (fun _ h => h)
theorem fr_f_X7_rule (x1 : Int32) (σ : k_Mem) : k_Fr [] σ (f_X7_rule x1 σ) := by
  unfold f_X7_rule
  refine fr_ite (fun c1 => ?_) (fun c1 => ?_)
  · exact fr_some sm_rf
  · refine fr_ite (fun c2 => ?_) (fun c2 => ?_)
    · exact fr_some sm_rf
    · refine fr_ite (fun c3 => ?_) (fun c3 => ?_)
      · refine fr_ite (fun c4 => ?_) (fun c4 => ?_)
        · exact fr_some sm_rf
        · exact fr_none
      · refine fr_ite (fun c5 => ?_) (fun c5 => ?_)
        · refine fr_bd sm_rf (fr_f_X7_wedOnes _) (fun _ _ => List.not_mem_nil) (fun r5 σ5 hσ5 => ?_)
          exact fr_some hσ5
        · refine fr_ite (fun c6 => ?_) (fun c6 => ?_)
          · refine fr_ite (fun c7 => ?_) (fun c7 => ?_)
            · exact fr_some sm_rf
            · exact fr_none
          · exact fr_some sm_rf
theorem fr_f_X7_isHand (x1 : Int32) (σ : k_Mem) : k_Fr [] σ (f_X7_isHand x1 σ) := by
  unfold f_X7_isHand
  refine fr_bd sm_rf (fr_f_X7_in _ _ _ _) (fun _ _ => List.not_mem_nil) (fun r1 σ1 hσ1 => ?_)
  refine fr_ite (fun c1 => ?_) (fun c1 => ?_)
  · refine fr_bd hσ1 (fr_f_X7_in _ _ _ _) (fun _ _ => List.not_mem_nil) (fun r3 σ3 hσ3 => ?_)
    refine fr_ite (fun c2 => ?_) (fun c2 => ?_)
    · exact fr_some hσ3
    · exact fr_some hσ3
  · exact fr_some hσ1
theorem fr_f_X7_penOf (x1 : Int32) (σ : k_Mem) : k_Fr [] σ (f_X7_penOf x1 σ) := by
  unfold f_X7_penOf
  refine fr_ite (fun c1 => ?_) (fun c1 => ?_)
  · exact fr_some sm_rf
  · exact fr_none
theorem fr_j_X7_areFolded_21 (x3 : Int32) (xs0 : Int32) (σ : k_Mem) : k_Fr [] σ (j_X7_areFolded_21 x3 xs0 σ) := by
  unfold j_X7_areFolded_21
  refine fr_ite (fun c1 => ?_) (fun c1 => ?_)
  · refine fr_ite (fun c2 => ?_) (fun c2 => ?_)
    · exact fr_some sm_rf
    · exact fr_some sm_rf
  · exact fr_none
theorem fr_j_X7_areFolded_10 (x1 : Int32) (x2 : Int32) (xs0 : Int32) (σ : k_Mem) : k_Fr [] σ (j_X7_areFolded_10 x1 x2 xs0 σ) := by
  unfold j_X7_areFolded_10
  refine fr_ite (fun c1 => ?_) (fun c1 => ?_)
  · exact fr_to sm_rf (fr_j_X7_areFolded_21 _ _ _ ) (fun _ h => h)
  · exact fr_to sm_rf (fr_j_X7_areFolded_21 _ _ _ ) (fun _ h => h)
theorem fr_f_X7_areFolded (x1 : Int32) (x2 : Int32) (σ : k_Mem) : k_Fr [] σ (f_X7_areFolded x1 x2 σ) := by
  unfold f_X7_areFolded
  refine fr_ite (fun c1 => ?_) (fun c1 => ?_)
  · exact fr_to sm_rf (fr_j_X7_areFolded_10 _ _ _ _ ) (fun _ h => h)
  · exact fr_to sm_rf (fr_j_X7_areFolded_10 _ _ _ _ ) (fun _ h => h)
theorem fr_j_X7_foldedWith_36 (k4 : Int32 → Int32 → Int32 → k_Mem → Option (Int32 × k_Mem)) (x1 : Int32) (x3 : Int32) (xs0 : Int32) (xs1 : Int32) (σ : k_Mem) (hk4 : ∀ (a0 : Int32) (a1 : Int32) (a2 : Int32) (a3 : k_Mem), k_Fr [] a3 (k4 a0 a1 a2 a3)) : k_Fr [] σ (j_X7_foldedWith_36 k4 x1 x3 xs0 xs1 σ) := by
  unfold j_X7_foldedWith_36
  exact fr_to sm_rf (hk4 _ _ _ _) (fun _ h => h)
theorem fr_j_X7_foldedWith_35 (k4 : Int32 → Int32 → Int32 → k_Mem → Option (Int32 × k_Mem)) (x1 : Int32) (x3 : Int32) (xs0 : Int32) (σ : k_Mem) (hk4 : ∀ (a0 : Int32) (a1 : Int32) (a2 : Int32) (a3 : k_Mem), k_Fr [] a3 (k4 a0 a1 a2 a3)) : k_Fr [] σ (j_X7_foldedWith_35 k4 x1 x3 xs0 σ) := by
  unfold j_X7_foldedWith_35
  exact fr_to sm_rf (fr_j_X7_foldedWith_36 _ _ _ _ _ _ hk4) (fun _ h => h)
theorem fr_l_X7_foldedWith_4  : ∀ (n : Nat) (x1 : Int32) (x2 : Int32) (x3 : Int32) (σ : k_Mem), k_Fr [] σ (l_X7_foldedWith_4  n x1 x2 x3 σ) := by
  intro n
  induction n with
  | zero => intro x1 x2 x3 σ; exact fr_none
  | succ n ih =>
    intro x1 x2 x3 σ
    rw [l_X7_foldedWith_4]
    refine fr_ite (fun c1 => ?_) (fun c1 => ?_)
    · exact fr_some sm_rf
    · refine fr_ite (fun c2 => ?_) (fun c2 => ?_)
      · exact fr_to sm_rf (fr_j_X7_foldedWith_35 _ _ _ _ _ (fun x1 x2 x3 σ => ih x1 x2 x3 σ)) (fun _ h => h)
      · refine fr_bd sm_rf (fr_f_X7_areFolded _ _ _) (fun _ _ => List.not_mem_nil) (fun r3 σ3 hσ3 => ?_)
        refine fr_ite (fun c3 => ?_) (fun c3 => ?_)
        · exact fr_to hσ3 (fr_j_X7_foldedWith_35 _ _ _ _ _ (fun x1 x2 x3 σ => ih x1 x2 x3 σ)) (fun _ h => h)
        · exact fr_to hσ3 (fr_j_X7_foldedWith_36 _ _ _ _ _ _ (fun x1 x2 x3 σ => ih x1 x2 x3 σ)) (fun _ h => h)
theorem fr_f_X7_foldedWith (x1 : Int32) (σ : k_Mem) : k_Fr [] σ (f_X7_foldedWith x1 σ) := by
  unfold f_X7_foldedWith
  exact fr_to sm_rf (fr_l_X7_foldedWith_4   _ _ _ _ _) (fun _ h => h)
theorem fr_j_X7_hand_52 (x1 : Int32) (x2 : Int32) (σ : k_Mem) : k_Fr [] σ (j_X7_hand_52 x1 x2 σ) := by
  unfold j_X7_hand_52
  refine fr_ite (fun c1 => ?_) (fun c1 => ?_)
  · exact fr_some sm_rf
  · exact fr_none
theorem fr_f_X7_hand (x1 : Int32) (x2 : Int32) (σ : k_Mem) : k_Fr [] σ (f_X7_hand x1 x2 σ) := by
  unfold f_X7_hand
  refine fr_bd sm_rf (fr_f_X7_isHand _ _) (fun _ _ => List.not_mem_nil) (fun r1 σ1 hσ1 => ?_)
  refine fr_ite (fun c1 => ?_) (fun c1 => ?_)
  · exact fr_some hσ1
  · refine fr_ite (fun c2 => ?_) (fun c2 => ?_)
    · exact fr_to hσ1 (fr_j_X7_hand_52 _ _ _ ) (fun _ h => h)
    · refine fr_ite (fun c3 => ?_) (fun c3 => ?_)
      · exact fr_to hσ1 (fr_j_X7_hand_52 _ _ _ ) (fun _ h => h)
      · refine fr_ite (fun c4 => ?_) (fun c4 => ?_)
        · exact fr_to hσ1 (fr_j_X7_hand_52 _ _ _ ) (fun _ h => h)
        · refine fr_ite (fun c5 => ?_) (fun c5 => ?_)
          · exact fr_to hσ1 (fr_j_X7_hand_52 _ _ _ ) (fun _ h => h)
          · refine fr_ite (fun c6 => ?_) (fun c6 => ?_)
            · refine fr_bd hσ1 (fr_f_X7_penOf _ _) (fun _ _ => List.not_mem_nil) (fun r8 σ8 hσ8 => ?_)
              exact fr_some hσ8
            · refine fr_ite (fun c7 => ?_) (fun c7 => ?_)
              · refine fr_bd hσ1 (fr_f_X7_wedTo _ _) (fun _ _ => List.not_mem_nil) (fun r10 σ10 hσ10 => ?_)
                exact fr_some hσ10
              · refine fr_ite (fun c8 => ?_) (fun c8 => ?_)
                · refine fr_bd hσ1 (fr_f_X7_foldedWith _ _) (fun _ _ => List.not_mem_nil) (fun r12 σ12 hσ12 => ?_)
                  exact fr_some hσ12
                · exact fr_some hσ1
theorem fr_f_X7_isRun (x1 : Int32) (σ : k_Mem) : k_Fr [] σ (f_X7_isRun x1 σ) := by
  unfold f_X7_isRun
  refine fr_ite (fun c1 => ?_) (fun c1 => ?_)
  · refine fr_ite (fun c2 => ?_) (fun c2 => ?_)
    · exact fr_some sm_rf
    · exact fr_some sm_rf
  · exact fr_none
theorem fr_j_X7_runsWith_20 (x1 : Int32) (σ : k_Mem) : k_Fr [] σ (j_X7_runsWith_20 x1 σ) := by
  unfold j_X7_runsWith_20
  refine fr_bd sm_rf (fr_f_X7_isRun _ _) (fun _ _ => List.not_mem_nil) (fun r2 σ2 hσ2 => ?_)
  refine fr_ite (fun c1 => ?_) (fun c1 => ?_)
  · exact fr_some hσ2
  · refine fr_ite (fun c2 => ?_) (fun c2 => ?_)
    · exact fr_some hσ2
    · refine fr_bd hσ2 (fr_f_X7_isHand _ _) (fun _ _ => List.not_mem_nil) (fun r5 σ5 hσ5 => ?_)
      refine fr_ite (fun c3 => ?_) (fun c3 => ?_)
      · exact fr_some hσ5
      · exact fr_some hσ5
theorem fr_f_X7_runsWith (x1 : Int32) (σ : k_Mem) : k_Fr [] σ (f_X7_runsWith x1 σ) := by
  unfold f_X7_runsWith
  refine fr_ite (fun c1 => ?_) (fun c1 => ?_)
  · exact fr_to sm_rf (fr_j_X7_runsWith_20 _ _ ) (fun _ h => h)
  · refine fr_bd sm_rf (fr_f_X7_isRun _ _) (fun _ _ => List.not_mem_nil) (fun r7 σ7 hσ7 => ?_)
    refine fr_ite (fun c2 => ?_) (fun c2 => ?_)
    · exact fr_to hσ7 (fr_j_X7_runsWith_20 _ _ ) (fun _ h => h)
    · exact fr_some hσ7
theorem fr_f_X7_shows (x1 : Int32) (x2 : Int32) (σ : k_Mem) : k_Fr [] σ (f_X7_shows x1 x2 σ) := by
  unfold f_X7_shows
  refine fr_bd sm_rf (fr_f_X7_penOf _ _) (fun _ _ => List.not_mem_nil) (fun r1 σ1 hσ1 => ?_)
  refine fr_ite (fun c1 => ?_) (fun c1 => ?_)
  · refine fr_bd hσ1 (fr_f_X7_runsWith _ _) (fun _ _ => List.not_mem_nil) (fun r2 σ2 hσ2 => ?_)
    refine fr_ite (fun c2 => ?_) (fun c2 => ?_)
    · exact fr_some hσ2
    · refine fr_ite (fun c3 => ?_) (fun c3 => ?_)
      · exact fr_some hσ2
      · refine fr_bd hσ2 (fr_f_X7_penOf _ _) (fun _ _ => List.not_mem_nil) (fun r5 σ5 hσ5 => ?_)
        refine fr_ite (fun c4 => ?_) (fun c4 => ?_)
        · exact fr_some hσ5
        · exact fr_none
  · exact fr_none
theorem fr_f_X7_page (x1 : Int32) (x2 : Int32) (σ : k_Mem) : k_Fr [] σ (f_X7_page x1 x2 σ) := by
  unfold f_X7_page
  refine fr_bd sm_rf (fr_f_X7_isHand _ _) (fun _ _ => List.not_mem_nil) (fun r1 σ1 hσ1 => ?_)
  refine fr_ite (fun c1 => ?_) (fun c1 => ?_)
  · exact fr_some hσ1
  · refine fr_bd hσ1 (fr_f_X7_in _ _ _ _) (fun _ _ => List.not_mem_nil) (fun r3 σ3 hσ3 => ?_)
    refine fr_ite (fun c2 => ?_) (fun c2 => ?_)
    · exact fr_some hσ3
    · refine fr_bd hσ3 (fr_f_X7_shows _ _ _) (fun _ _ => List.not_mem_nil) (fun r5 σ5 hσ5 => ?_)
      exact fr_some hσ5
theorem fr_f_X7_far (x0 : Int32) (x1 : Int32) (σ : k_Mem) : k_Fr [] σ (f_X7_far x0 x1 σ) := by
  unfold f_X7_far
  refine fr_ite (fun c1 => ?_) (fun c1 => ?_)
  · exact fr_some sm_rf
  · exact fr_some sm_rf
theorem fr_f_X7_likesOf (x1 : Int32) (x2 : Int32) (σ : k_Mem) : k_Fr [] σ (f_X7_likesOf x1 x2 σ) := by
  unfold f_X7_likesOf
  refine fr_bd sm_rf (fr_f_X7_shows _ _ _) (fun _ _ => List.not_mem_nil) (fun r1 σ1 hσ1 => ?_)
  refine fr_bd hσ1 (fr_f_X7_shows _ _ _) (fun _ _ => List.not_mem_nil) (fun r2 σ2 hσ2 => ?_)
  refine fr_ite (fun c1 => ?_) (fun c1 => ?_)
  · refine fr_bd hσ2 (fr_f_X7_far _ _ _) (fun _ _ => List.not_mem_nil) (fun r3 σ3 hσ3 => ?_)
    refine fr_ite (fun c2 => ?_) (fun c2 => ?_)
    · refine fr_bd hσ3 (fr_f_X7_far _ _ _) (fun _ _ => List.not_mem_nil) (fun r4 σ4 hσ4 => ?_)
      refine fr_ite (fun c3 => ?_) (fun c3 => ?_)
      · refine fr_ite (fun c4 => ?_) (fun c4 => ?_)
        · exact fr_some hσ4
        · refine fr_ite (fun c5 => ?_) (fun c5 => ?_)
          · refine fr_bd hσ4 (fr_f_X7_shows _ _ _) (fun _ _ => List.not_mem_nil) (fun r7 σ7 hσ7 => ?_)
            refine fr_ite (fun c6 => ?_) (fun c6 => ?_)
            · refine fr_ite (fun c7 => ?_) (fun c7 => ?_)
              · exact fr_some hσ7
              · exact fr_some hσ7
            · exact fr_none
          · refine fr_ite (fun c8 => ?_) (fun c8 => ?_)
            · exact fr_some hσ4
            · exact fr_some hσ4
      · exact fr_none
    · exact fr_none
  · exact fr_none
theorem fr_f_X7_likes (x1 : Int32) (x2 : Int32) (σ : k_Mem) : k_Fr [] σ (f_X7_likes x1 x2 σ) := by
  unfold f_X7_likes
  refine fr_bd sm_rf (fr_f_X7_isHand _ _) (fun _ _ => List.not_mem_nil) (fun r1 σ1 hσ1 => ?_)
  refine fr_ite (fun c1 => ?_) (fun c1 => ?_)
  · exact fr_some hσ1
  · refine fr_bd hσ1 (fr_f_X7_isHand _ _) (fun _ _ => List.not_mem_nil) (fun r3 σ3 hσ3 => ?_)
    refine fr_ite (fun c2 => ?_) (fun c2 => ?_)
    · exact fr_some hσ3
    · refine fr_ite (fun c3 => ?_) (fun c3 => ?_)
      · exact fr_some hσ3
      · refine fr_bd hσ3 (fr_f_X7_likesOf _ _ _) (fun _ _ => List.not_mem_nil) (fun r6 σ6 hσ6 => ?_)
        exact fr_some hσ6
theorem fr_j_X7_laysTable_98 (k2 : Int32 → Int32 → k_Mem → Option (Unit × k_Mem)) (k10 : Int32 → Int32 → Int32 → k_Mem → Option (Unit × k_Mem)) (x1 : Int32) (x2 : Int32) (x3 : Int32) (xs1 : Int32) (xs2 : Int32) (σ : k_Mem) (hk2 : ∀ (a0 : Int32) (a1 : Int32) (a2 : k_Mem), k_Fr [73] a2 (k2 a0 a1 a2)) (hk10 : ∀ (a0 : Int32) (a1 : Int32) (a2 : Int32) (a3 : k_Mem), k_Fr [73] a3 (k10 a0 a1 a2 a3)) : k_Fr [73] σ (j_X7_laysTable_98 k2 k10 x1 x2 x3 xs1 xs2 σ) := by
  unfold j_X7_laysTable_98
  refine fr_ite (fun c1 => ?_) (fun c1 => ?_)
  · exact fr_to (sm_set (by decide) sm_rf) (hk10 _ _ _ _) (fun _ h => h)
  · exact fr_none
theorem fr_j_X7_laysTable_71 (k2 : Int32 → Int32 → k_Mem → Option (Unit × k_Mem)) (k10 : Int32 → Int32 → Int32 → k_Mem → Option (Unit × k_Mem)) (x1 : Int32) (x2 : Int32) (x3 : Int32) (xs0 : Int32) (σ : k_Mem) (hk2 : ∀ (a0 : Int32) (a1 : Int32) (a2 : k_Mem), k_Fr [73] a2 (k2 a0 a1 a2)) (hk10 : ∀ (a0 : Int32) (a1 : Int32) (a2 : Int32) (a3 : k_Mem), k_Fr [73] a3 (k10 a0 a1 a2 a3)) : k_Fr [73] σ (j_X7_laysTable_71 k2 k10 x1 x2 x3 xs0 σ) := by
  unfold j_X7_laysTable_71
  refine fr_ite (fun c1 => ?_) (fun c1 => ?_)
  · exact fr_to sm_rf (fr_j_X7_laysTable_98 _ _ _ _ _ _ _ _ hk2 hk10) (fun _ h => h)
  · refine fr_bd sm_rf (fr_f_X7_likesOf _ _ _) (fun _ _ => List.not_mem_nil) (fun r6 σ6 hσ6 => ?_)
    exact fr_to hσ6 (fr_j_X7_laysTable_98 _ _ _ _ _ _ _ _ hk2 hk10) (fun _ h => h)
theorem fr_j_X7_laysTable_70 (k2 : Int32 → Int32 → k_Mem → Option (Unit × k_Mem)) (k10 : Int32 → Int32 → Int32 → k_Mem → Option (Unit × k_Mem)) (x1 : Int32) (x2 : Int32) (x3 : Int32) (σ : k_Mem) (hk2 : ∀ (a0 : Int32) (a1 : Int32) (a2 : k_Mem), k_Fr [73] a2 (k2 a0 a1 a2)) (hk10 : ∀ (a0 : Int32) (a1 : Int32) (a2 : Int32) (a3 : k_Mem), k_Fr [73] a3 (k10 a0 a1 a2 a3)) : k_Fr [73] σ (j_X7_laysTable_70 k2 k10 x1 x2 x3 σ) := by
  unfold j_X7_laysTable_70
  exact fr_to sm_rf (fr_j_X7_laysTable_71 _ _ _ _ _ _ _ hk2 hk10) (fun _ h => h)
theorem fr_l_X7_laysTable_10 (k2 : Int32 → Int32 → k_Mem → Option (Unit × k_Mem)) (hk2 : ∀ (a0 : Int32) (a1 : Int32) (a2 : k_Mem), k_Fr [73] a2 (k2 a0 a1 a2)) : ∀ (n : Nat) (x1 : Int32) (x2 : Int32) (x3 : Int32) (σ : k_Mem), k_Fr [73] σ (l_X7_laysTable_10 k2 n x1 x2 x3 σ) := by
  intro n
  induction n with
  | zero => intro x1 x2 x3 σ; exact fr_none
  | succ n ih =>
    intro x1 x2 x3 σ
    rw [l_X7_laysTable_10]
    refine fr_ite (fun c1 => ?_) (fun c1 => ?_)
    · exact fr_to sm_rf (hk2 _ _ _) (fun _ h => h)
    · refine fr_bd sm_rf (fr_f_X7_isHand _ _) (fun _ _ => List.not_mem_nil) (fun r3 σ3 hσ3 => ?_)
      refine fr_ite (fun c2 => ?_) (fun c2 => ?_)
      · exact fr_to hσ3 (fr_j_X7_laysTable_70 _ _ _ _ _ _ hk2 (fun x1 x2 x3 σ => ih x1 x2 x3 σ)) (fun _ h => h)
      · refine fr_bd hσ3 (fr_f_X7_isHand _ _) (fun _ _ => List.not_mem_nil) (fun r7 σ7 hσ7 => ?_)
        refine fr_ite (fun c3 => ?_) (fun c3 => ?_)
        · exact fr_to hσ7 (fr_j_X7_laysTable_70 _ _ _ _ _ _ hk2 (fun x1 x2 x3 σ => ih x1 x2 x3 σ)) (fun _ h => h)
        · refine fr_ite (fun c4 => ?_) (fun c4 => ?_)
          · exact fr_to hσ7 (fr_j_X7_laysTable_70 _ _ _ _ _ _ hk2 (fun x1 x2 x3 σ => ih x1 x2 x3 σ)) (fun _ h => h)
          · refine fr_ite (fun c5 => ?_) (fun c5 => ?_)
            · refine fr_ite (fun c6 => ?_) (fun c6 => ?_)
              · refine fr_bd hσ7 (fr_f_X7_areFolded _ _ _) (fun _ _ => List.not_mem_nil) (fun r12 σ12 hσ12 => ?_)
                refine fr_ite (fun c7 => ?_) (fun c7 => ?_)
                · exact fr_to hσ12 (fr_j_X7_laysTable_71 _ _ _ _ _ _ _ hk2 (fun x1 x2 x3 σ => ih x1 x2 x3 σ)) (fun _ h => h)
                · exact fr_to hσ12 (fr_j_X7_laysTable_70 _ _ _ _ _ _ hk2 (fun x1 x2 x3 σ => ih x1 x2 x3 σ)) (fun _ h => h)
              · exact fr_to hσ7 (fr_j_X7_laysTable_70 _ _ _ _ _ _ hk2 (fun x1 x2 x3 σ => ih x1 x2 x3 σ)) (fun _ h => h)
            · exact fr_to hσ7 (fr_j_X7_laysTable_70 _ _ _ _ _ _ hk2 (fun x1 x2 x3 σ => ih x1 x2 x3 σ)) (fun _ h => h)
theorem fr_l_X7_laysTable_2  : ∀ (n : Nat) (x1 : Int32) (x2 : Int32) (σ : k_Mem), k_Fr [73] σ (l_X7_laysTable_2  n x1 x2 σ) := by
  intro n
  induction n with
  | zero => intro x1 x2 σ; exact fr_none
  | succ n ih =>
    intro x1 x2 σ
    rw [l_X7_laysTable_2]
    refine fr_ite (fun c1 => ?_) (fun c1 => ?_)
    · exact fr_some sm_rf
    · exact fr_to sm_rf (fr_l_X7_laysTable_10 _ (fun x1 x2 σ => ih x1 x2 σ) _ _ _ _ _) (fun _ h => h)
theorem fr_f_X7_laysTable (x1 : Int32) (σ : k_Mem) : k_Fr [73] σ (f_X7_laysTable x1 σ) := by
  unfold f_X7_laysTable
  exact fr_to sm_rf (fr_l_X7_laysTable_2   _ _ _ _) (fun _ h => h)
theorem fr_j_X7_isRather_41 (x2 : Int32) (x3 : Int32) (x4 : Int32) (xs0 : Int32) (σ : k_Mem) : k_Fr [] σ (j_X7_isRather_41 x2 x3 x4 xs0 σ) := by
  unfold j_X7_isRather_41
  refine fr_ite (fun c1 => ?_) (fun c1 => ?_)
  · exact fr_some sm_rf
  · refine fr_ite (fun c2 => ?_) (fun c2 => ?_)
    · refine fr_ite (fun c3 => ?_) (fun c3 => ?_)
      · exact fr_some sm_rf
      · exact fr_some sm_rf
    · exact fr_some sm_rf
theorem fr_f_X7_isRather (x1 : Int32) (x2 : Int32) (x3 : Int32) (σ : k_Mem) : k_Fr [] σ (f_X7_isRather x1 x2 x3 σ) := by
  unfold f_X7_isRather
  refine fr_ite (fun c1 => ?_) (fun c1 => ?_)
  · refine fr_ite (fun c2 => ?_) (fun c2 => ?_)
    · refine fr_ite (fun c3 => ?_) (fun c3 => ?_)
      · exact fr_to sm_rf (fr_j_X7_isRather_41 _ _ _ _ _ ) (fun _ h => h)
      · refine fr_ite (fun c4 => ?_) (fun c4 => ?_)
        · exact fr_to sm_rf (fr_j_X7_isRather_41 _ _ _ _ _ ) (fun _ h => h)
        · exact fr_none
    · exact fr_some sm_rf
  · exact fr_none
theorem fr_j_X7_rather_95 (k21 : Int32 → Int32 → Int32 → k_Mem → Option (Int32 × k_Mem)) (x1 : Int32) (x2 : Int32) (x3 : Int32) (σ : k_Mem) (hk21 : ∀ (a0 : Int32) (a1 : Int32) (a2 : Int32) (a3 : k_Mem), k_Fr [73] a3 (k21 a0 a1 a2 a3)) : k_Fr [73] σ (j_X7_rather_95 k21 x1 x2 x3 σ) := by
  unfold j_X7_rather_95
  exact fr_to sm_rf (hk21 _ _ _ _) (fun _ h => h)
theorem fr_j_X7_rather_64 (k21 : Int32 → Int32 → Int32 → k_Mem → Option (Int32 × k_Mem)) (k33 : Int32 → Int32 → Int32 → Int32 → Int32 → k_Mem → Option (Int32 × k_Mem)) (x1 : Int32) (x2 : Int32) (x3 : Int32) (x5 : Int32) (xs0 : Int32) (xs1 : Int32) (σ : k_Mem) (hk21 : ∀ (a0 : Int32) (a1 : Int32) (a2 : Int32) (a3 : k_Mem), k_Fr [73] a3 (k21 a0 a1 a2 a3)) (hk33 : ∀ (a0 : Int32) (a1 : Int32) (a2 : Int32) (a3 : Int32) (a4 : Int32) (a5 : k_Mem), k_Fr [73] a5 (k33 a0 a1 a2 a3 a4 a5)) : k_Fr [73] σ (j_X7_rather_64 k21 k33 x1 x2 x3 x5 xs0 xs1 σ) := by
  unfold j_X7_rather_64
  exact fr_to sm_rf (hk33 _ _ _ _ _ _) (fun _ h => h)
theorem fr_j_X7_rather_63 (k21 : Int32 → Int32 → Int32 → k_Mem → Option (Int32 × k_Mem)) (k33 : Int32 → Int32 → Int32 → Int32 → Int32 → k_Mem → Option (Int32 × k_Mem)) (x1 : Int32) (x2 : Int32) (x3 : Int32) (x5 : Int32) (xs0 : Int32) (σ : k_Mem) (hk21 : ∀ (a0 : Int32) (a1 : Int32) (a2 : Int32) (a3 : k_Mem), k_Fr [73] a3 (k21 a0 a1 a2 a3)) (hk33 : ∀ (a0 : Int32) (a1 : Int32) (a2 : Int32) (a3 : Int32) (a4 : Int32) (a5 : k_Mem), k_Fr [73] a5 (k33 a0 a1 a2 a3 a4 a5)) : k_Fr [73] σ (j_X7_rather_63 k21 k33 x1 x2 x3 x5 xs0 σ) := by
  unfold j_X7_rather_63
  exact fr_to sm_rf (fr_j_X7_rather_64 _ _ _ _ _ _ _ _ _ hk21 hk33) (fun _ h => h)
theorem fr_l_X7_rather_33 (k21 : Int32 → Int32 → Int32 → k_Mem → Option (Int32 × k_Mem)) (hk21 : ∀ (a0 : Int32) (a1 : Int32) (a2 : Int32) (a3 : k_Mem), k_Fr [73] a3 (k21 a0 a1 a2 a3)) : ∀ (n : Nat) (x1 : Int32) (x2 : Int32) (x3 : Int32) (x4 : Int32) (x5 : Int32) (σ : k_Mem), k_Fr [73] σ (l_X7_rather_33 k21 n x1 x2 x3 x4 x5 σ) := by
  intro n
  induction n with
  | zero => intro x1 x2 x3 x4 x5 σ; exact fr_none
  | succ n ih =>
    intro x1 x2 x3 x4 x5 σ
    rw [l_X7_rather_33]
    refine fr_ite (fun c1 => ?_) (fun c1 => ?_)
    · refine fr_ite (fun c2 => ?_) (fun c2 => ?_)
      · refine fr_ite (fun c3 => ?_) (fun c3 => ?_)
        · exact fr_to sm_rf (fr_j_X7_rather_95 _ _ _ _ _ hk21) (fun _ h => h)
        · refine fr_ite (fun c4 => ?_) (fun c4 => ?_)
          · exact fr_some sm_rf
          · exact fr_to sm_rf (fr_j_X7_rather_95 _ _ _ _ _ hk21) (fun _ h => h)
      · exact fr_none
    · refine fr_ite (fun c5 => ?_) (fun c5 => ?_)
      · exact fr_to sm_rf (fr_j_X7_rather_63 _ _ _ _ _ _ _ _ hk21 (fun x1 x2 x3 x4 x5 σ => ih x1 x2 x3 x4 x5 σ)) (fun _ h => h)
      · refine fr_bd sm_rf (fr_f_X7_isRather _ _ _ _) (fun _ _ => List.not_mem_nil) (fun r10 σ10 hσ10 => ?_)
        refine fr_ite (fun c6 => ?_) (fun c6 => ?_)
        · exact fr_to hσ10 (fr_j_X7_rather_63 _ _ _ _ _ _ _ _ hk21 (fun x1 x2 x3 x4 x5 σ => ih x1 x2 x3 x4 x5 σ)) (fun _ h => h)
        · exact fr_to hσ10 (fr_j_X7_rather_64 _ _ _ _ _ _ _ _ _ hk21 (fun x1 x2 x3 x4 x5 σ => ih x1 x2 x3 x4 x5 σ)) (fun _ h => h)
theorem fr_l_X7_rather_21  : ∀ (n : Nat) (x1 : Int32) (x2 : Int32) (x3 : Int32) (σ : k_Mem), k_Fr [73] σ (l_X7_rather_21  n x1 x2 x3 σ) := by
  intro n
  induction n with
  | zero => intro x1 x2 x3 σ; exact fr_none
  | succ n ih =>
    intro x1 x2 x3 σ
    rw [l_X7_rather_21]
    refine fr_ite (fun c1 => ?_) (fun c1 => ?_)
    · exact fr_some sm_rf
    · exact fr_to sm_rf (fr_l_X7_rather_33 _ (fun x1 x2 x3 σ => ih x1 x2 x3 σ) _ _ _ _ _ _ _) (fun _ h => h)
theorem fr_f_X7_rather (x1 : Int32) (x2 : Int32) (σ : k_Mem) : k_Fr [73] σ (f_X7_rather x1 x2 σ) := by
  unfold f_X7_rather
  refine fr_bd sm_rf (fr_f_X7_isHand _ _) (fun _ _ => List.not_mem_nil) (fun r1 σ1 hσ1 => ?_)
  refine fr_ite (fun c1 => ?_) (fun c1 => ?_)
  · exact fr_some hσ1
  · refine fr_ite (fun c2 => ?_) (fun c2 => ?_)
    · refine fr_bd hσ1 (fr_f_X7_laysTable _ _) (fun _ h => h) (fun _ σ4 hσ4 => ?_)
      exact fr_to hσ4 (fr_l_X7_rather_21   _ _ _ _ _) (fun _ h => h)
    · exact fr_some hσ1
theorem fr_f_X7_puts (x1 : Int32) (x2 : Int32) (x3 : Int32) (x4 : Int32) (σ : k_Mem) : k_Fr [68] σ (f_X7_puts x1 x2 x3 x4 σ) := by
  unfold f_X7_puts
  refine fr_ite (fun c1 => ?_) (fun c1 => ?_)
  · exact fr_some sm_rf
  · refine fr_ite (fun c2 => ?_) (fun c2 => ?_)
    · refine fr_ite (fun c3 => ?_) (fun c3 => ?_)
      · exact fr_some (sm_set (by decide) sm_rf)
      · exact fr_none
    · exact fr_none
theorem fr_j_X7_pens_22 (x1 : Int32) (x2 : Int32) (xs1 : Int32) (σ : k_Mem) : k_Fr [68] σ (j_X7_pens_22 x1 x2 xs1 σ) := by
  unfold j_X7_pens_22
  refine fr_bd sm_rf (fr_f_X7_puts _ _ _ _ _) (fun _ h => h) (fun r3 σ3 hσ3 => ?_)
  exact fr_some hσ3
theorem fr_j_X7_pens_21 (x1 : Int32) (x2 : Int32) (σ : k_Mem) : k_Fr [68] σ (j_X7_pens_21 x1 x2 σ) := by
  unfold j_X7_pens_21
  exact fr_to sm_rf (fr_j_X7_pens_22 _ _ _ _ ) (fun _ h => h)
theorem fr_f_X7_pens (x1 : Int32) (x2 : Int32) (σ : k_Mem) : k_Fr [68] σ (f_X7_pens x1 x2 σ) := by
  unfold f_X7_pens
  refine fr_bd sm_rf (fr_f_X7_isHand _ _) (fun _ _ => List.not_mem_nil) (fun r1 σ1 hσ1 => ?_)
  refine fr_ite (fun c1 => ?_) (fun c1 => ?_)
  · exact fr_to hσ1 (fr_j_X7_pens_21 _ _ _ ) (fun _ h => h)
  · refine fr_bd hσ1 (fr_f_X7_isHand _ _) (fun _ _ => List.not_mem_nil) (fun r4 σ4 hσ4 => ?_)
    refine fr_ite (fun c2 => ?_) (fun c2 => ?_)
    · exact fr_to hσ4 (fr_j_X7_pens_21 _ _ _ ) (fun _ h => h)
    · exact fr_to hσ4 (fr_j_X7_pens_22 _ _ _ _ ) (fun _ h => h)
theorem fr_j_X7_alter_62 (x1 : Int32) (x2 : Int32) (x3 : Int32) (xs1 : Int64) (xs2 : Int64) (xs3 : Int64) (σ : k_Mem) : k_Fr [68] σ (j_X7_alter_62 x1 x2 x3 xs1 xs2 xs3 σ) := by
  unfold j_X7_alter_62
  refine fr_bd sm_rf (fr_f_X7_in _ _ _ _) (fun _ _ => List.not_mem_nil) (fun r8 σ8 hσ8 => ?_)
  refine fr_bd hσ8 (fr_f_X7_puts _ _ _ _ _) (fun _ h => h) (fun r9 σ9 hσ9 => ?_)
  exact fr_some hσ9
theorem fr_f_X7_alter (x1 : Int32) (x2 : Int32) (x3 : Int32) (σ : k_Mem) : k_Fr [68] σ (f_X7_alter x1 x2 x3 σ) := by
  unfold f_X7_alter
  refine fr_bd sm_rf (fr_f_X7_isHand _ _) (fun _ _ => List.not_mem_nil) (fun r1 σ1 hσ1 => ?_)
  refine fr_ite (fun c1 => ?_) (fun c1 => ?_)
  · exact fr_some hσ1
  · refine fr_bd hσ1 (fr_f_X7_in _ _ _ _) (fun _ _ => List.not_mem_nil) (fun r3 σ3 hσ3 => ?_)
    refine fr_ite (fun c2 => ?_) (fun c2 => ?_)
    · exact fr_some hσ3
    · refine fr_ite (fun c3 => ?_) (fun c3 => ?_)
      · refine fr_bd hσ3 (fr_f_X7_pens _ _ _) (fun _ h => h) (fun r6 σ6 hσ6 => ?_)
        exact fr_some hσ6
      · refine fr_ite (fun c4 => ?_) (fun c4 => ?_)
        · exact fr_to hσ3 (fr_j_X7_alter_62 _ _ _ _ _ _ _ ) (fun _ h => h)
        · refine fr_ite (fun c5 => ?_) (fun c5 => ?_)
          · exact fr_to hσ3 (fr_j_X7_alter_62 _ _ _ _ _ _ _ ) (fun _ h => h)
          · exact fr_to hσ3 (fr_j_X7_alter_62 _ _ _ _ _ _ _ ) (fun _ h => h)
theorem fr_j_X7_run_52 (x3 : Int32) (xs1 : Int32) (xs2 : Int32) (xs3 : Int32) (σ : k_Mem) : k_Fr [68] σ (j_X7_run_52 x3 xs1 xs2 xs3 σ) := by
  unfold j_X7_run_52
  refine fr_ite (fun c1 => ?_) (fun c1 => ?_)
  · exact fr_some (sm_set (by decide) sm_rf)
  · exact fr_none
theorem fr_f_X7_run (x1 : Int32) (x2 : Int32) (σ : k_Mem) : k_Fr [68] σ (f_X7_run x1 x2 σ) := by
  unfold f_X7_run
  refine fr_bd sm_rf (fr_f_X7_isHand _ _) (fun _ _ => List.not_mem_nil) (fun r1 σ1 hσ1 => ?_)
  refine fr_ite (fun c1 => ?_) (fun c1 => ?_)
  · exact fr_some hσ1
  · refine fr_ite (fun c2 => ?_) (fun c2 => ?_)
    · refine fr_ite (fun c3 => ?_) (fun c3 => ?_)
      · refine fr_ite (fun c4 => ?_) (fun c4 => ?_)
        · exact fr_to hσ1 (fr_j_X7_run_52 _ _ _ _ _ ) (fun _ h => h)
        · exact fr_to hσ1 (fr_j_X7_run_52 _ _ _ _ _ ) (fun _ h => h)
      · exact fr_none
    · exact fr_none
theorem fr_f_X7_areTwo (x1 : Int32) (x2 : Int32) (σ : k_Mem) : k_Fr [] σ (f_X7_areTwo x1 x2 σ) := by
  unfold f_X7_areTwo
  refine fr_bd sm_rf (fr_f_X7_isHand _ _) (fun _ _ => List.not_mem_nil) (fun r1 σ1 hσ1 => ?_)
  refine fr_ite (fun c1 => ?_) (fun c1 => ?_)
  · exact fr_some hσ1
  · refine fr_bd hσ1 (fr_f_X7_isHand _ _) (fun _ _ => List.not_mem_nil) (fun r3 σ3 hσ3 => ?_)
    refine fr_ite (fun c2 => ?_) (fun c2 => ?_)
    · exact fr_some hσ3
    · refine fr_ite (fun c3 => ?_) (fun c3 => ?_)
      · exact fr_some hσ3
      · refine fr_ite (fun c4 => ?_) (fun c4 => ?_)
        · exact fr_some hσ3
        · exact fr_some hσ3
theorem fr_j_X7_fold_60 (x4 : Int32) (xs1 : Int32) (xs2 : Int32) (xs3 : Int32) (σ : k_Mem) : k_Fr [68] σ (j_X7_fold_60 x4 xs1 xs2 xs3 σ) := by
  unfold j_X7_fold_60
  refine fr_ite (fun c1 => ?_) (fun c1 => ?_)
  · exact fr_some (sm_set (by decide) sm_rf)
  · exact fr_none
theorem fr_f_X7_fold (x1 : Int32) (x2 : Int32) (x3 : Int32) (σ : k_Mem) : k_Fr [68] σ (f_X7_fold x1 x2 x3 σ) := by
  unfold f_X7_fold
  refine fr_bd sm_rf (fr_f_X7_areTwo _ _ _) (fun _ _ => List.not_mem_nil) (fun r1 σ1 hσ1 => ?_)
  refine fr_ite (fun c1 => ?_) (fun c1 => ?_)
  · exact fr_some hσ1
  · refine fr_ite (fun c2 => ?_) (fun c2 => ?_)
    · refine fr_ite (fun c3 => ?_) (fun c3 => ?_)
      · refine fr_ite (fun c4 => ?_) (fun c4 => ?_)
        · exact fr_to hσ1 (fr_j_X7_fold_60 _ _ _ _ _ ) (fun _ h => h)
        · exact fr_to hσ1 (fr_j_X7_fold_60 _ _ _ _ _ ) (fun _ h => h)
      · exact fr_none
    · exact fr_none
theorem fr_l_X7_bitsOf_4  : ∀ (n : Nat) (x0 : Int32) (x1 : Int32) (x2 : Int32) (σ : k_Mem), k_Fr [] σ (l_X7_bitsOf_4  n x0 x1 x2 σ) := by
  intro n
  induction n with
  | zero => intro x0 x1 x2 σ; exact fr_none
  | succ n ih =>
    intro x0 x1 x2 σ
    rw [l_X7_bitsOf_4]
    refine fr_ite (fun c1 => ?_) (fun c1 => ?_)
    · exact fr_some sm_rf
    · exact fr_to sm_rf (ih _ _ _ _) (fun _ h => h)
theorem fr_f_X7_bitsOf (x0 : Int32) (σ : k_Mem) : k_Fr [] σ (f_X7_bitsOf x0 σ) := by
  unfold f_X7_bitsOf
  exact fr_to sm_rf (fr_l_X7_bitsOf_4   _ _ _ _ _) (fun _ h => h)
theorem fr_f_X7_wed (x1 : Int32) (x2 : Int32) (σ : k_Mem) : k_Fr [68] σ (f_X7_wed x1 x2 σ) := by
  unfold f_X7_wed
  refine fr_bd sm_rf (fr_f_X7_areTwo _ _ _) (fun _ _ => List.not_mem_nil) (fun r1 σ1 hσ1 => ?_)
  refine fr_ite (fun c1 => ?_) (fun c1 => ?_)
  · exact fr_some hσ1
  · refine fr_bd hσ1 (fr_f_X7_wedTo _ _) (fun _ _ => List.not_mem_nil) (fun r3 σ3 hσ3 => ?_)
    refine fr_ite (fun c2 => ?_) (fun c2 => ?_)
    · refine fr_bd hσ3 (fr_f_X7_wedTo _ _) (fun _ _ => List.not_mem_nil) (fun r5 σ5 hσ5 => ?_)
      refine fr_ite (fun c3 => ?_) (fun c3 => ?_)
      · refine fr_bd hσ5 (fr_f_X7_areFolded _ _ _) (fun _ _ => List.not_mem_nil) (fun r7 σ7 hσ7 => ?_)
        refine fr_ite (fun c4 => ?_) (fun c4 => ?_)
        · refine fr_ite (fun c5 => ?_) (fun c5 => ?_)
          · refine fr_bd (sm_set (by decide) hσ7) (fr_f_X7_wedOnes _) (fun _ _ => List.not_mem_nil) (fun r9 σ9 hσ9 => ?_)
            refine fr_bd hσ9 (fr_f_X7_bitsOf _ _) (fun _ _ => List.not_mem_nil) (fun r10 σ10 hσ10 => ?_)
            exact fr_some hσ10
          · exact fr_none
        · exact fr_some hσ7
      · exact fr_some hσ5
    · exact fr_some hσ3
theorem fr_j_X7_part_41 (x2 : Int32) (xs1 : Int32) (xs2 : Int32) (σ : k_Mem) : k_Fr [68] σ (j_X7_part_41 x2 xs1 xs2 σ) := by
  unfold j_X7_part_41
  refine fr_ite (fun c1 => ?_) (fun c1 => ?_)
  · exact fr_some (sm_set (by decide) sm_rf)
  · exact fr_none
theorem fr_f_X7_part (x1 : Int32) (σ : k_Mem) : k_Fr [68] σ (f_X7_part x1 σ) := by
  unfold f_X7_part
  refine fr_bd sm_rf (fr_f_X7_isHand _ _) (fun _ _ => List.not_mem_nil) (fun r1 σ1 hσ1 => ?_)
  refine fr_ite (fun c1 => ?_) (fun c1 => ?_)
  · exact fr_some hσ1
  · refine fr_bd hσ1 (fr_f_X7_wedTo _ _) (fun _ _ => List.not_mem_nil) (fun r3 σ3 hσ3 => ?_)
    refine fr_ite (fun c2 => ?_) (fun c2 => ?_)
    · exact fr_some hσ3
    · refine fr_ite (fun c3 => ?_) (fun c3 => ?_)
      · exact fr_to hσ3 (fr_j_X7_part_41 _ _ _ _ ) (fun _ h => h)
      · exact fr_to hσ3 (fr_j_X7_part_41 _ _ _ _ ) (fun _ h => h)
theorem fr_j_X7_nextAsked_39 (k5 : Int32 → Int32 → Int32 → k_Mem → Option (Int32 × k_Mem)) (x1 : Int32) (x3 : Int32) (xs0 : Int32) (σ : k_Mem) (hk5 : ∀ (a0 : Int32) (a1 : Int32) (a2 : Int32) (a3 : k_Mem), k_Fr [] a3 (k5 a0 a1 a2 a3)) : k_Fr [] σ (j_X7_nextAsked_39 k5 x1 x3 xs0 σ) := by
  unfold j_X7_nextAsked_39
  exact fr_to sm_rf (hk5 _ _ _ _) (fun _ h => h)
theorem fr_j_X7_nextAsked_38 (k5 : Int32 → Int32 → Int32 → k_Mem → Option (Int32 × k_Mem)) (x1 : Int32) (x2 : Int32) (x3 : Int32) (σ : k_Mem) (hk5 : ∀ (a0 : Int32) (a1 : Int32) (a2 : Int32) (a3 : k_Mem), k_Fr [] a3 (k5 a0 a1 a2 a3)) : k_Fr [] σ (j_X7_nextAsked_38 k5 x1 x2 x3 σ) := by
  unfold j_X7_nextAsked_38
  exact fr_to sm_rf (fr_j_X7_nextAsked_39 _ _ _ _ _ hk5) (fun _ h => h)
theorem fr_l_X7_nextAsked_5  : ∀ (n : Nat) (x1 : Int32) (x2 : Int32) (x3 : Int32) (σ : k_Mem), k_Fr [] σ (l_X7_nextAsked_5  n x1 x2 x3 σ) := by
  intro n
  induction n with
  | zero => intro x1 x2 x3 σ; exact fr_none
  | succ n ih =>
    intro x1 x2 x3 σ
    rw [l_X7_nextAsked_5]
    refine fr_ite (fun c1 => ?_) (fun c1 => ?_)
    · exact fr_some sm_rf
    · refine fr_ite (fun c2 => ?_) (fun c2 => ?_)
      · refine fr_ite (fun c3 => ?_) (fun c3 => ?_)
        · refine fr_bd sm_rf (fr_f_X7_isRather _ _ _ _) (fun _ _ => List.not_mem_nil) (fun r3 σ3 hσ3 => ?_)
          refine fr_ite (fun c4 => ?_) (fun c4 => ?_)
          · exact fr_to hσ3 (fr_j_X7_nextAsked_38 _ _ _ _ _ (fun x1 x2 x3 σ => ih x1 x2 x3 σ)) (fun _ h => h)
          · exact fr_to hσ3 (fr_j_X7_nextAsked_39 _ _ _ _ _ (fun x1 x2 x3 σ => ih x1 x2 x3 σ)) (fun _ h => h)
        · exact fr_to sm_rf (fr_j_X7_nextAsked_38 _ _ _ _ _ (fun x1 x2 x3 σ => ih x1 x2 x3 σ)) (fun _ h => h)
      · exact fr_none
theorem fr_f_X7_nextAsked (x1 : Int32) (σ : k_Mem) : k_Fr [] σ (f_X7_nextAsked x1 σ) := by
  unfold f_X7_nextAsked
  exact fr_to sm_rf (fr_l_X7_nextAsked_5   _ _ _ _ _) (fun _ h => h)
theorem fr_j_X7_asking_145 (k33 : Int32 → Int32 → k_Mem → Option (Unit × k_Mem)) (x1 : Int32) (x2 : Int32) (σ : k_Mem) (hk33 : ∀ (a0 : Int32) (a1 : Int32) (a2 : k_Mem), k_Fr [74, 75] a2 (k33 a0 a1 a2)) : k_Fr [74, 75] σ (j_X7_asking_145 k33 x1 x2 σ) := by
  unfold j_X7_asking_145
  exact fr_to sm_rf (hk33 _ _ _) (fun _ h => h)
theorem fr_j_X7_asking_141 (k33 : Int32 → Int32 → k_Mem → Option (Unit × k_Mem)) (x1 : Int32) (σ : k_Mem) (hk33 : ∀ (a0 : Int32) (a1 : Int32) (a2 : k_Mem), k_Fr [74, 75] a2 (k33 a0 a1 a2)) : k_Fr [74, 75] σ (j_X7_asking_141 k33 x1 σ) := by
  unfold j_X7_asking_141
  exact fr_to sm_rf (fr_j_X7_asking_145 _ _ _ _ hk33) (fun _ h => h)
theorem fr_j_X7_asking_127 (k33 : Int32 → Int32 → k_Mem → Option (Unit × k_Mem)) (x1 : Int32) (x2 : Int32) (x3 : Int32) (σ : k_Mem) (hk33 : ∀ (a0 : Int32) (a1 : Int32) (a2 : k_Mem), k_Fr [74, 75] a2 (k33 a0 a1 a2)) : k_Fr [74, 75] σ (j_X7_asking_127 k33 x1 x2 x3 σ) := by
  unfold j_X7_asking_127
  refine fr_ite (fun c1 => ?_) (fun c1 => ?_)
  · refine fr_ite (fun c2 => ?_) (fun c2 => ?_)
    · exact fr_to (sm_set (by decide) (sm_set (by decide) sm_rf)) (fr_j_X7_asking_141 _ _ _ hk33) (fun _ h => h)
    · exact fr_none
  · exact fr_none
theorem fr_j_X7_asking_63 (k33 : Int32 → Int32 → k_Mem → Option (Unit × k_Mem)) (x1 : Int32) (x2 : Int32) (xs0 : Int32) (σ : k_Mem) (hk33 : ∀ (a0 : Int32) (a1 : Int32) (a2 : k_Mem), k_Fr [74, 75] a2 (k33 a0 a1 a2)) : k_Fr [74, 75] σ (j_X7_asking_63 k33 x1 x2 xs0 σ) := by
  unfold j_X7_asking_63
  refine fr_ite (fun c1 => ?_) (fun c1 => ?_)
  · exact fr_to sm_rf (fr_j_X7_asking_145 _ _ _ _ hk33) (fun _ h => h)
  · refine fr_ite (fun c2 => ?_) (fun c2 => ?_)
    · refine fr_ite (fun c3 => ?_) (fun c3 => ?_)
      · refine fr_ite (fun c4 => ?_) (fun c4 => ?_)
        · refine fr_bd (sm_set (by decide) sm_rf) (fr_f_X7_isRather _ _ _ _) (fun _ _ => List.not_mem_nil) (fun r6 σ6 hσ6 => ?_)
          refine fr_ite (fun c5 => ?_) (fun c5 => ?_)
          · exact fr_to hσ6 (fr_j_X7_asking_141 _ _ _ hk33) (fun _ h => h)
          · refine fr_ite (fun c6 => ?_) (fun c6 => ?_)
            · refine fr_ite (fun c7 => ?_) (fun c7 => ?_)
              · exact fr_to hσ6 (fr_j_X7_asking_127 _ _ _ _ _ hk33) (fun _ h => h)
              · refine fr_ite (fun c8 => ?_) (fun c8 => ?_)
                · refine fr_ite (fun c9 => ?_) (fun c9 => ?_)
                  · exact fr_to (sm_set (by decide) hσ6) (fr_j_X7_asking_127 _ _ _ _ _ hk33) (fun _ h => h)
                  · exact fr_none
                · exact fr_none
            · exact fr_none
        · exact fr_none
      · exact fr_none
    · exact fr_none
theorem fr_l_X7_asking_33  : ∀ (n : Nat) (x1 : Int32) (x2 : Int32) (σ : k_Mem), k_Fr [74, 75] σ (l_X7_asking_33  n x1 x2 σ) := by
  intro n
  induction n with
  | zero => intro x1 x2 σ; exact fr_none
  | succ n ih =>
    intro x1 x2 σ
    rw [l_X7_asking_33]
    refine fr_ite (fun c1 => ?_) (fun c1 => ?_)
    · exact fr_some sm_rf
    · refine fr_ite (fun c2 => ?_) (fun c2 => ?_)
      · refine fr_ite (fun c3 => ?_) (fun c3 => ?_)
        · refine fr_bd sm_rf (fr_f_X7_nextAsked _ _) (fun _ _ => List.not_mem_nil) (fun r4 σ4 hσ4 => ?_)
          exact fr_to hσ4 (fr_j_X7_asking_63 _ _ _ _ _ (fun x1 x2 σ => ih x1 x2 σ)) (fun _ h => h)
        · exact fr_to sm_rf (fr_j_X7_asking_63 _ _ _ _ _ (fun x1 x2 σ => ih x1 x2 σ)) (fun _ h => h)
      · exact fr_none
theorem fr_l_X7_asking_2  : ∀ (n : Nat) (x1 : Int32) (x2 : Int32) (σ : k_Mem), k_Fr [74, 75] σ (l_X7_asking_2  n x1 x2 σ) := by
  intro n
  induction n with
  | zero => intro x1 x2 σ; exact fr_none
  | succ n ih =>
    intro x1 x2 σ
    rw [l_X7_asking_2]
    refine fr_ite (fun c1 => ?_) (fun c1 => ?_)
    · exact fr_to sm_rf (fr_l_X7_asking_33   _ _ _ _) (fun _ h => h)
    · refine fr_ite (fun c2 => ?_) (fun c2 => ?_)
      · refine fr_ite (fun c3 => ?_) (fun c3 => ?_)
        · exact fr_to (sm_set (by decide) (sm_set (by decide) sm_rf)) (ih _ _ _) (fun _ h => h)
        · exact fr_none
      · exact fr_none
theorem fr_f_X7_asking (x1 : Int32) (σ : k_Mem) : k_Fr [74, 75] σ (f_X7_asking x1 σ) := by
  unfold f_X7_asking
  exact fr_to sm_rf (fr_l_X7_asking_2   _ _ _ _) (fun _ h => h)
theorem fr_f_X7_askingNow (x1 : Int32) (σ : k_Mem) : k_Fr [73, 74, 75] σ (f_X7_askingNow x1 σ) := by
  unfold f_X7_askingNow
  refine fr_bd sm_rf (fr_f_X7_laysTable _ _) (k_sub (by decide)) (fun _ σ1 hσ1 => ?_)
  refine fr_bd hσ1 (fr_f_X7_asking _ _) (k_sub (by decide)) (fun _ σ2 hσ2 => ?_)
  exact fr_some hσ2
theorem fr_f_X7_asked (x1 : Int32) (x2 : Int32) (σ : k_Mem) : k_Fr [73, 74, 75] σ (f_X7_asked x1 x2 σ) := by
  unfold f_X7_asked
  refine fr_bd sm_rf (fr_f_X7_in _ _ _ _) (fun _ _ => List.not_mem_nil) (fun r1 σ1 hσ1 => ?_)
  refine fr_ite (fun c1 => ?_) (fun c1 => ?_)
  · exact fr_some hσ1
  · refine fr_bd hσ1 (fr_f_X7_isHand _ _) (fun _ _ => List.not_mem_nil) (fun r3 σ3 hσ3 => ?_)
    refine fr_ite (fun c2 => ?_) (fun c2 => ?_)
    · exact fr_some hσ3
    · refine fr_bd hσ3 (fr_f_X7_askingNow _ _) (fun _ h => h) (fun _ σ5 hσ5 => ?_)
      refine fr_ite (fun c3 => ?_) (fun c3 => ?_)
      · exact fr_some hσ5
      · exact fr_none
theorem fr_j_X7_pairMany_26 (k4 : Int32 → Int32 → k_Mem → Option (Int32 × k_Mem)) (x2 : Int32) (xs0 : Int32) (xs1 : Int32) (σ : k_Mem) (hk4 : ∀ (a0 : Int32) (a1 : Int32) (a2 : k_Mem), k_Fr [] a2 (k4 a0 a1 a2)) : k_Fr [] σ (j_X7_pairMany_26 k4 x2 xs0 xs1 σ) := by
  unfold j_X7_pairMany_26
  exact fr_to sm_rf (hk4 _ _ _) (fun _ h => h)
theorem fr_l_X7_pairMany_4  : ∀ (n : Nat) (x1 : Int32) (x2 : Int32) (σ : k_Mem), k_Fr [] σ (l_X7_pairMany_4  n x1 x2 σ) := by
  intro n
  induction n with
  | zero => intro x1 x2 σ; exact fr_none
  | succ n ih =>
    intro x1 x2 σ
    rw [l_X7_pairMany_4]
    refine fr_ite (fun c1 => ?_) (fun c1 => ?_)
    · exact fr_some sm_rf
    · refine fr_ite (fun c2 => ?_) (fun c2 => ?_)
      · refine fr_ite (fun c3 => ?_) (fun c3 => ?_)
        · exact fr_to sm_rf (fr_j_X7_pairMany_26 _ _ _ _ _ (fun x1 x2 σ => ih x1 x2 σ)) (fun _ h => h)
        · exact fr_to sm_rf (fr_j_X7_pairMany_26 _ _ _ _ _ (fun x1 x2 σ => ih x1 x2 σ)) (fun _ h => h)
      · exact fr_none
theorem fr_f_X7_pairMany (σ : k_Mem) : k_Fr [] σ (f_X7_pairMany σ) := by
  unfold f_X7_pairMany
  exact fr_to sm_rf (fr_l_X7_pairMany_4   _ _ _ _) (fun _ h => h)
theorem fr_j_X7_likesInAll_42 (k4 : Int32 → Int32 → k_Mem → Option (Int32 × k_Mem)) (x2 : Int32) (xs0 : Int32) (xs1 : Int32) (σ : k_Mem) (hk4 : ∀ (a0 : Int32) (a1 : Int32) (a2 : k_Mem), k_Fr [] a2 (k4 a0 a1 a2)) : k_Fr [] σ (j_X7_likesInAll_42 k4 x2 xs0 xs1 σ) := by
  unfold j_X7_likesInAll_42
  exact fr_to sm_rf (hk4 _ _ _) (fun _ h => h)
theorem fr_l_X7_likesInAll_4  : ∀ (n : Nat) (x1 : Int32) (x2 : Int32) (σ : k_Mem), k_Fr [] σ (l_X7_likesInAll_4  n x1 x2 σ) := by
  intro n
  induction n with
  | zero => intro x1 x2 σ; exact fr_none
  | succ n ih =>
    intro x1 x2 σ
    rw [l_X7_likesInAll_4]
    refine fr_ite (fun c1 => ?_) (fun c1 => ?_)
    · exact fr_some sm_rf
    · refine fr_ite (fun c2 => ?_) (fun c2 => ?_)
      · refine fr_ite (fun c3 => ?_) (fun c3 => ?_)
        · exact fr_to sm_rf (fr_j_X7_likesInAll_42 _ _ _ _ _ (fun x1 x2 σ => ih x1 x2 σ)) (fun _ h => h)
        · refine fr_ite (fun c4 => ?_) (fun c4 => ?_)
          · refine fr_ite (fun c5 => ?_) (fun c5 => ?_)
            · exact fr_to sm_rf (fr_j_X7_likesInAll_42 _ _ _ _ _ (fun x1 x2 σ => ih x1 x2 σ)) (fun _ h => h)
            · exact fr_none
          · exact fr_none
      · exact fr_none
theorem fr_f_X7_likesInAll (σ : k_Mem) : k_Fr [] σ (f_X7_likesInAll σ) := by
  unfold f_X7_likesInAll
  exact fr_to sm_rf (fr_l_X7_likesInAll_4   _ _ _ _) (fun _ h => h)
theorem fr_f_X7_sum (x1 : Int32) (σ : k_Mem) : k_Fr [73, 74, 75] σ (f_X7_sum x1 σ) := by
  unfold f_X7_sum
  refine fr_bd sm_rf (fr_f_X7_in _ _ _ _) (fun _ _ => List.not_mem_nil) (fun r1 σ1 hσ1 => ?_)
  refine fr_ite (fun c1 => ?_) (fun c1 => ?_)
  · exact fr_some hσ1
  · refine fr_bd hσ1 (fr_f_X7_askingNow _ _) (fun _ h => h) (fun _ σ3 hσ3 => ?_)
    refine fr_ite (fun c2 => ?_) (fun c2 => ?_)
    · refine fr_bd hσ3 (fr_f_X7_pairMany _) (fun _ _ => List.not_mem_nil) (fun r5 σ5 hσ5 => ?_)
      exact fr_some hσ5
    · refine fr_bd hσ3 (fr_f_X7_likesInAll _) (fun _ _ => List.not_mem_nil) (fun r6 σ6 hσ6 => ?_)
      exact fr_some hσ6
theorem fr_j_X7_laysPairs_112 (k32 : Int32 → Int32 → Int32 → k_Mem → Option (Int32 × k_Mem)) (x2 : Int32) (x3 : Int32) (x4 : Int32) (σ : k_Mem) (hk32 : ∀ (a0 : Int32) (a1 : Int32) (a2 : Int32) (a3 : k_Mem), k_Fr [76] a3 (k32 a0 a1 a2 a3)) : k_Fr [76] σ (j_X7_laysPairs_112 k32 x2 x3 x4 σ) := by
  unfold j_X7_laysPairs_112
  exact fr_to sm_rf (hk32 _ _ _ _) (fun _ h => h)
theorem fr_j_X7_laysPairs_93 (k32 : Int32 → Int32 → Int32 → k_Mem → Option (Int32 × k_Mem)) (x2 : Int32) (x4 : Int32) (x5 : Int32) (xs0 : Int32) (σ : k_Mem) (hk32 : ∀ (a0 : Int32) (a1 : Int32) (a2 : Int32) (a3 : k_Mem), k_Fr [76] a3 (k32 a0 a1 a2 a3)) : k_Fr [76] σ (j_X7_laysPairs_93 k32 x2 x4 x5 xs0 σ) := by
  unfold j_X7_laysPairs_93
  refine fr_ite (fun c1 => ?_) (fun c1 => ?_)
  · refine fr_ite (fun c2 => ?_) (fun c2 => ?_)
    · exact fr_to (sm_set (by decide) (sm_set (by decide) sm_rf)) (fr_j_X7_laysPairs_112 _ _ _ _ _ hk32) (fun _ h => h)
    · exact fr_none
  · exact fr_none
theorem fr_j_X7_laysPairs_92 (k32 : Int32 → Int32 → Int32 → k_Mem → Option (Int32 × k_Mem)) (x2 : Int32) (x4 : Int32) (x5 : Int32) (σ : k_Mem) (hk32 : ∀ (a0 : Int32) (a1 : Int32) (a2 : Int32) (a3 : k_Mem), k_Fr [76] a3 (k32 a0 a1 a2 a3)) : k_Fr [76] σ (j_X7_laysPairs_92 k32 x2 x4 x5 σ) := by
  unfold j_X7_laysPairs_92
  exact fr_to sm_rf (fr_j_X7_laysPairs_93 _ _ _ _ _ _ hk32) (fun _ h => h)
theorem fr_l_X7_laysPairs_32  : ∀ (n : Nat) (x2 : Int32) (x3 : Int32) (x4 : Int32) (σ : k_Mem), k_Fr [76] σ (l_X7_laysPairs_32  n x2 x3 x4 σ) := by
  intro n
  induction n with
  | zero => intro x2 x3 x4 σ; exact fr_none
  | succ n ih =>
    intro x2 x3 x4 σ
    rw [l_X7_laysPairs_32]
    refine fr_ite (fun c1 => ?_) (fun c1 => ?_)
    · refine fr_ite (fun c2 => ?_) (fun c2 => ?_)
      · exact fr_some sm_rf
      · exact fr_none
    · refine fr_ite (fun c3 => ?_) (fun c3 => ?_)
      · exact fr_to sm_rf (fr_j_X7_laysPairs_112 _ _ _ _ _ (fun x2 x3 x4 σ => ih x2 x3 x4 σ)) (fun _ h => h)
      · refine fr_ite (fun c4 => ?_) (fun c4 => ?_)
        · exact fr_to sm_rf (fr_j_X7_laysPairs_92 _ _ _ _ _ (fun x2 x3 x4 σ => ih x2 x3 x4 σ)) (fun _ h => h)
        · refine fr_ite (fun c5 => ?_) (fun c5 => ?_)
          · refine fr_ite (fun c6 => ?_) (fun c6 => ?_)
            · exact fr_to sm_rf (fr_j_X7_laysPairs_92 _ _ _ _ _ (fun x2 x3 x4 σ => ih x2 x3 x4 σ)) (fun _ h => h)
            · refine fr_ite (fun c7 => ?_) (fun c7 => ?_)
              · refine fr_ite (fun c8 => ?_) (fun c8 => ?_)
                · exact fr_to sm_rf (fr_j_X7_laysPairs_93 _ _ _ _ _ _ (fun x2 x3 x4 σ => ih x2 x3 x4 σ)) (fun _ h => h)
                · exact fr_to sm_rf (fr_j_X7_laysPairs_92 _ _ _ _ _ (fun x2 x3 x4 σ => ih x2 x3 x4 σ)) (fun _ h => h)
              · exact fr_none
          · exact fr_none
theorem fr_l_X7_laysPairs_7  : ∀ (n : Nat) (x2 : Int32) (x3 : Int32) (x4 : Int32) (σ : k_Mem), k_Fr [76] σ (l_X7_laysPairs_7  n x2 x3 x4 σ) := by
  intro n
  induction n with
  | zero => intro x2 x3 x4 σ; exact fr_none
  | succ n ih =>
    intro x2 x3 x4 σ
    rw [l_X7_laysPairs_7]
    refine fr_ite (fun c1 => ?_) (fun c1 => ?_)
    · exact fr_to sm_rf (fr_l_X7_laysPairs_32   _ _ _ _ _) (fun _ h => h)
    · refine fr_ite (fun c2 => ?_) (fun c2 => ?_)
      · exact fr_to (sm_set (by decide) sm_rf) (ih _ _ _ _) (fun _ h => h)
      · exact fr_none
theorem fr_f_X7_laysPairs (x1 : Int32) (σ : k_Mem) : k_Fr [76] σ (f_X7_laysPairs x1 σ) := by
  unfold f_X7_laysPairs
  exact fr_to sm_rf (fr_l_X7_laysPairs_7   _ _ _ _ _) (fun _ h => h)
theorem fr_f_X7_doQuarrel (x1 : Int32) (x2 : Int32) (σ : k_Mem) : k_Fr [] σ (f_X7_doQuarrel x1 x2 σ) := by
  unfold f_X7_doQuarrel
  refine fr_ite (fun c1 => ?_) (fun c1 => ?_)
  · refine fr_ite (fun c2 => ?_) (fun c2 => ?_)
    · exact fr_some sm_rf
    · refine fr_ite (fun c3 => ?_) (fun c3 => ?_)
      · refine fr_bd sm_rf (fr_f_X7_isRather _ _ _ _) (fun _ _ => List.not_mem_nil) (fun r2 σ2 hσ2 => ?_)
        refine fr_ite (fun c4 => ?_) (fun c4 => ?_)
        · exact fr_some hσ2
        · refine fr_ite (fun c5 => ?_) (fun c5 => ?_)
          · refine fr_bd hσ2 (fr_f_X7_isRather _ _ _ _) (fun _ _ => List.not_mem_nil) (fun r4 σ4 hσ4 => ?_)
            refine fr_ite (fun c6 => ?_) (fun c6 => ?_)
            · exact fr_some hσ4
            · exact fr_some hσ4
          · exact fr_none
      · exact fr_none
  · exact fr_none
theorem fr_j_X7_quarrels_31 (k4 : Int32 → Int32 → k_Mem → Option (Int32 × k_Mem)) (x2 : Int32) (xs0 : Int32) (xs1 : Int32) (σ : k_Mem) (hk4 : ∀ (a0 : Int32) (a1 : Int32) (a2 : k_Mem), k_Fr [] a2 (k4 a0 a1 a2)) : k_Fr [] σ (j_X7_quarrels_31 k4 x2 xs0 xs1 σ) := by
  unfold j_X7_quarrels_31
  exact fr_to sm_rf (hk4 _ _ _) (fun _ h => h)
theorem fr_l_X7_quarrels_4  : ∀ (n : Nat) (x1 : Int32) (x2 : Int32) (σ : k_Mem), k_Fr [] σ (l_X7_quarrels_4  n x1 x2 σ) := by
  intro n
  induction n with
  | zero => intro x1 x2 σ; exact fr_none
  | succ n ih =>
    intro x1 x2 σ
    rw [l_X7_quarrels_4]
    refine fr_ite (fun c1 => ?_) (fun c1 => ?_)
    · exact fr_some sm_rf
    · refine fr_bd sm_rf (fr_f_X7_doQuarrel _ _ _) (fun _ _ => List.not_mem_nil) (fun r2 σ2 hσ2 => ?_)
      refine fr_ite (fun c2 => ?_) (fun c2 => ?_)
      · exact fr_to hσ2 (fr_j_X7_quarrels_31 _ _ _ _ _ (fun x1 x2 σ => ih x1 x2 σ)) (fun _ h => h)
      · exact fr_to hσ2 (fr_j_X7_quarrels_31 _ _ _ _ _ (fun x1 x2 σ => ih x1 x2 σ)) (fun _ h => h)
theorem fr_f_X7_quarrels (σ : k_Mem) : k_Fr [] σ (f_X7_quarrels σ) := by
  unfold f_X7_quarrels
  exact fr_to sm_rf (fr_l_X7_quarrels_4   _ _ _ _) (fun _ h => h)
theorem fr_j_X7_hold_91 (k26 : Int32 → Int32 → Int32 → k_Mem → Option (Int32 × k_Mem)) (x1 : Int32) (x3 : Int32) (xs0 : Int32) (xs1 : Int32) (σ : k_Mem) (hk26 : ∀ (a0 : Int32) (a1 : Int32) (a2 : Int32) (a3 : k_Mem), k_Fr [73, 74, 75, 76] a3 (k26 a0 a1 a2 a3)) : k_Fr [73, 74, 75, 76] σ (j_X7_hold_91 k26 x1 x3 xs0 xs1 σ) := by
  unfold j_X7_hold_91
  exact fr_to sm_rf (hk26 _ _ _ _) (fun _ h => h)
theorem fr_j_X7_hold_90 (k26 : Int32 → Int32 → Int32 → k_Mem → Option (Int32 × k_Mem)) (x1 : Int32) (x3 : Int32) (xs0 : Int32) (σ : k_Mem) (hk26 : ∀ (a0 : Int32) (a1 : Int32) (a2 : Int32) (a3 : k_Mem), k_Fr [73, 74, 75, 76] a3 (k26 a0 a1 a2 a3)) : k_Fr [73, 74, 75, 76] σ (j_X7_hold_90 k26 x1 x3 xs0 σ) := by
  unfold j_X7_hold_90
  exact fr_to sm_rf (fr_j_X7_hold_91 _ _ _ _ _ _ hk26) (fun _ h => h)
theorem fr_j_X7_hold_86 (k26 : Int32 → Int32 → Int32 → k_Mem → Option (Int32 × k_Mem)) (x1 : Int32) (x3 : Int32) (xs0 : Int32) (σ : k_Mem) (hk26 : ∀ (a0 : Int32) (a1 : Int32) (a2 : Int32) (a3 : k_Mem), k_Fr [73, 74, 75, 76] a3 (k26 a0 a1 a2 a3)) : k_Fr [73, 74, 75, 76] σ (j_X7_hold_86 k26 x1 x3 xs0 σ) := by
  unfold j_X7_hold_86
  exact fr_to sm_rf (fr_j_X7_hold_91 _ _ _ _ _ _ hk26) (fun _ h => h)
theorem fr_j_X7_hold_53 (k26 : Int32 → Int32 → Int32 → k_Mem → Option (Int32 × k_Mem)) (x1 : Int32) (x2 : Int32) (x3 : Int32) (xs0 : Int32) (σ : k_Mem) (hk26 : ∀ (a0 : Int32) (a1 : Int32) (a2 : Int32) (a3 : k_Mem), k_Fr [73, 74, 75, 76] a3 (k26 a0 a1 a2 a3)) : k_Fr [73, 74, 75, 76] σ (j_X7_hold_53 k26 x1 x2 x3 xs0 σ) := by
  unfold j_X7_hold_53
  refine fr_ite (fun c1 => ?_) (fun c1 => ?_)
  · exact fr_to sm_rf (fr_j_X7_hold_90 _ _ _ _ _ hk26) (fun _ h => h)
  · refine fr_ite (fun c2 => ?_) (fun c2 => ?_)
    · exact fr_to sm_rf (fr_j_X7_hold_86 _ _ _ _ _ hk26) (fun _ h => h)
    · refine fr_ite (fun c3 => ?_) (fun c3 => ?_)
      · refine fr_ite (fun c4 => ?_) (fun c4 => ?_)
        · refine fr_ite (fun c5 => ?_) (fun c5 => ?_)
          · exact fr_to sm_rf (fr_j_X7_hold_86 _ _ _ _ _ hk26) (fun _ h => h)
          · exact fr_to sm_rf (fr_j_X7_hold_90 _ _ _ _ _ hk26) (fun _ h => h)
        · exact fr_none
      · exact fr_none
theorem fr_j_X7_hold_52 (k26 : Int32 → Int32 → Int32 → k_Mem → Option (Int32 × k_Mem)) (x1 : Int32) (x2 : Int32) (x3 : Int32) (σ : k_Mem) (hk26 : ∀ (a0 : Int32) (a1 : Int32) (a2 : Int32) (a3 : k_Mem), k_Fr [73, 74, 75, 76] a3 (k26 a0 a1 a2 a3)) : k_Fr [73, 74, 75, 76] σ (j_X7_hold_52 k26 x1 x2 x3 σ) := by
  unfold j_X7_hold_52
  exact fr_to sm_rf (fr_j_X7_hold_53 _ _ _ _ _ _ hk26) (fun _ h => h)
theorem fr_l_X7_hold_26  : ∀ (n : Nat) (x1 : Int32) (x2 : Int32) (x3 : Int32) (σ : k_Mem), k_Fr [73, 74, 75, 76] σ (l_X7_hold_26  n x1 x2 x3 σ) := by
  intro n
  induction n with
  | zero => intro x1 x2 x3 σ; exact fr_none
  | succ n ih =>
    intro x1 x2 x3 σ
    rw [l_X7_hold_26]
    refine fr_ite (fun c1 => ?_) (fun c1 => ?_)
    · exact fr_some sm_rf
    · refine fr_bd sm_rf (fr_f_X7_laysPairs _ _) (k_sub (by decide)) (fun r4 σ4 hσ4 => ?_)
      refine fr_ite (fun c2 => ?_) (fun c2 => ?_)
      · exact fr_to hσ4 (fr_j_X7_hold_52 _ _ _ _ _ (fun x1 x2 x3 σ => ih x1 x2 x3 σ)) (fun _ h => h)
      · refine fr_bd hσ4 (fr_f_X7_quarrels _) (fun _ _ => List.not_mem_nil) (fun r9 σ9 hσ9 => ?_)
        refine fr_ite (fun c3 => ?_) (fun c3 => ?_)
        · exact fr_to hσ9 (fr_j_X7_hold_53 _ _ _ _ _ _ (fun x1 x2 x3 σ => ih x1 x2 x3 σ)) (fun _ h => h)
        · exact fr_to hσ9 (fr_j_X7_hold_52 _ _ _ _ _ (fun x1 x2 x3 σ => ih x1 x2 x3 σ)) (fun _ h => h)
theorem fr_j_X7_hold_17 (x1 : Int32) (σ : k_Mem) : k_Fr [73, 74, 75, 76] σ (j_X7_hold_17 x1 σ) := by
  unfold j_X7_hold_17
  refine fr_bd sm_rf (fr_f_X7_askingNow _ _) (k_sub (by decide)) (fun _ σ2 hσ2 => ?_)
  exact fr_to hσ2 (fr_l_X7_hold_26   _ _ _ _ _) (fun _ h => h)
theorem fr_f_X7_hold (x1 : Int32) (σ : k_Mem) : k_Fr [73, 74, 75, 76] σ (f_X7_hold x1 σ) := by
  unfold f_X7_hold
  refine fr_ite (fun c1 => ?_) (fun c1 => ?_)
  · exact fr_to sm_rf (fr_j_X7_hold_17 _ _ ) (fun _ h => h)
  · refine fr_bd sm_rf (fr_f_X7_isHand _ _) (fun _ _ => List.not_mem_nil) (fun r11 σ11 hσ11 => ?_)
    refine fr_ite (fun c2 => ?_) (fun c2 => ?_)
    · exact fr_some hσ11
    · exact fr_to hσ11 (fr_j_X7_hold_17 _ _ ) (fun _ h => h)
theorem fr_j_X7_most_138 (k37 : Int32 → Int32 → Int32 → Int32 → k_Mem → Option (Int32 × k_Mem)) (x1 : Int32) (x2 : Int32) (x3 : Int32) (x4 : Int32) (σ : k_Mem) (hk37 : ∀ (a0 : Int32) (a1 : Int32) (a2 : Int32) (a3 : Int32) (a4 : k_Mem), k_Fr [73, 76] a4 (k37 a0 a1 a2 a3 a4)) : k_Fr [73, 76] σ (j_X7_most_138 k37 x1 x2 x3 x4 σ) := by
  unfold j_X7_most_138
  exact fr_to sm_rf (hk37 _ _ _ _ _) (fun _ h => h)
theorem fr_j_X7_most_137 (k37 : Int32 → Int32 → Int32 → Int32 → k_Mem → Option (Int32 × k_Mem)) (x1 : Int32) (x3 : Int32) (x4 : Int32) (xs0 : Int32) (σ : k_Mem) (hk37 : ∀ (a0 : Int32) (a1 : Int32) (a2 : Int32) (a3 : Int32) (a4 : k_Mem), k_Fr [73, 76] a4 (k37 a0 a1 a2 a3 a4)) : k_Fr [73, 76] σ (j_X7_most_137 k37 x1 x3 x4 xs0 σ) := by
  unfold j_X7_most_137
  exact fr_to sm_rf (fr_j_X7_most_138 _ _ _ _ _ _ hk37) (fun _ h => h)
theorem fr_j_X7_most_124 (k37 : Int32 → Int32 → Int32 → Int32 → k_Mem → Option (Int32 × k_Mem)) (x1 : Int32) (x2 : Int32) (x4 : Int32) (x5 : Int32) (xs0 : Int32) (σ : k_Mem) (hk37 : ∀ (a0 : Int32) (a1 : Int32) (a2 : Int32) (a3 : Int32) (a4 : k_Mem), k_Fr [73, 76] a4 (k37 a0 a1 a2 a3 a4)) : k_Fr [73, 76] σ (j_X7_most_124 k37 x1 x2 x4 x5 xs0 σ) := by
  unfold j_X7_most_124
  refine fr_ite (fun c1 => ?_) (fun c1 => ?_)
  · exact fr_to sm_rf (fr_j_X7_most_137 _ _ _ _ _ _ hk37) (fun _ h => h)
  · exact fr_to sm_rf (fr_j_X7_most_137 _ _ _ _ _ _ hk37) (fun _ h => h)
theorem fr_j_X7_most_103 (k37 : Int32 → Int32 → Int32 → Int32 → k_Mem → Option (Int32 × k_Mem)) (k60 : Int32 → Int32 → Int32 → Int32 → Int32 → Int32 → k_Mem → Option (Int32 × k_Mem)) (x1 : Int32) (x2 : Int32) (x3 : Int32) (x4 : Int32) (x6 : Int32) (xs0 : Int32) (xs1 : Int32) (σ : k_Mem) (hk37 : ∀ (a0 : Int32) (a1 : Int32) (a2 : Int32) (a3 : Int32) (a4 : k_Mem), k_Fr [73, 76] a4 (k37 a0 a1 a2 a3 a4)) (hk60 : ∀ (a0 : Int32) (a1 : Int32) (a2 : Int32) (a3 : Int32) (a4 : Int32) (a5 : Int32) (a6 : k_Mem), k_Fr [73, 76] a6 (k60 a0 a1 a2 a3 a4 a5 a6)) : k_Fr [73, 76] σ (j_X7_most_103 k37 k60 x1 x2 x3 x4 x6 xs0 xs1 σ) := by
  unfold j_X7_most_103
  exact fr_to sm_rf (hk60 _ _ _ _ _ _ _) (fun _ h => h)
theorem fr_l_X7_most_60 (k37 : Int32 → Int32 → Int32 → Int32 → k_Mem → Option (Int32 × k_Mem)) (hk37 : ∀ (a0 : Int32) (a1 : Int32) (a2 : Int32) (a3 : Int32) (a4 : k_Mem), k_Fr [73, 76] a4 (k37 a0 a1 a2 a3 a4)) : ∀ (n : Nat) (x1 : Int32) (x2 : Int32) (x3 : Int32) (x4 : Int32) (x5 : Int32) (x6 : Int32) (σ : k_Mem), k_Fr [73, 76] σ (l_X7_most_60 k37 n x1 x2 x3 x4 x5 x6 σ) := by
  intro n
  induction n with
  | zero => intro x1 x2 x3 x4 x5 x6 σ; exact fr_none
  | succ n ih =>
    intro x1 x2 x3 x4 x5 x6 σ
    rw [l_X7_most_60]
    refine fr_ite (fun c1 => ?_) (fun c1 => ?_)
    · refine fr_ite (fun c2 => ?_) (fun c2 => ?_)
      · exact fr_to sm_rf (fr_j_X7_most_124 _ _ _ _ _ _ _ hk37) (fun _ h => h)
      · exact fr_to sm_rf (fr_j_X7_most_124 _ _ _ _ _ _ _ hk37) (fun _ h => h)
    · refine fr_ite (fun c3 => ?_) (fun c3 => ?_)
      · refine fr_ite (fun c4 => ?_) (fun c4 => ?_)
        · exact fr_to sm_rf (fr_j_X7_most_103 _ _ _ _ _ _ _ _ _ _ hk37 (fun x1 x2 x3 x4 x5 x6 σ => ih x1 x2 x3 x4 x5 x6 σ)) (fun _ h => h)
        · refine fr_ite (fun c5 => ?_) (fun c5 => ?_)
          · refine fr_ite (fun c6 => ?_) (fun c6 => ?_)
            · exact fr_to sm_rf (fr_j_X7_most_103 _ _ _ _ _ _ _ _ _ _ hk37 (fun x1 x2 x3 x4 x5 x6 σ => ih x1 x2 x3 x4 x5 x6 σ)) (fun _ h => h)
            · exact fr_none
          · exact fr_none
      · exact fr_none
theorem fr_l_X7_most_37  : ∀ (n : Nat) (x1 : Int32) (x2 : Int32) (x3 : Int32) (x4 : Int32) (σ : k_Mem), k_Fr [73, 76] σ (l_X7_most_37  n x1 x2 x3 x4 σ) := by
  intro n
  induction n with
  | zero => intro x1 x2 x3 x4 σ; exact fr_none
  | succ n ih =>
    intro x1 x2 x3 x4 σ
    rw [l_X7_most_37]
    refine fr_ite (fun c1 => ?_) (fun c1 => ?_)
    · refine fr_bd sm_rf (fr_f_X7_laysPairs _ _) (k_sub (by decide)) (fun r4 σ4 hσ4 => ?_)
      refine fr_ite (fun c2 => ?_) (fun c2 => ?_)
      · exact fr_some hσ4
      · refine fr_ite (fun c3 => ?_) (fun c3 => ?_)
        · exact fr_some hσ4
        · exact fr_none
    · refine fr_bd sm_rf (fr_f_X7_laysPairs _ _) (k_sub (by decide)) (fun r6 σ6 hσ6 => ?_)
      refine fr_ite (fun c4 => ?_) (fun c4 => ?_)
      · exact fr_to hσ6 (fr_j_X7_most_138 _ _ _ _ _ _ (fun x1 x2 x3 x4 σ => ih x1 x2 x3 x4 σ)) (fun _ h => h)
      · exact fr_to hσ6 (fr_l_X7_most_60 _ (fun x1 x2 x3 x4 σ => ih x1 x2 x3 x4 σ) _ _ _ _ _ _ _ _) (fun _ h => h)
theorem fr_j_X7_most_25 (x1 : Int32) (σ : k_Mem) : k_Fr [73, 76] σ (j_X7_most_25 x1 σ) := by
  unfold j_X7_most_25
  refine fr_bd sm_rf (fr_f_X7_laysTable _ _) (k_sub (by decide)) (fun _ σ2 hσ2 => ?_)
  exact fr_to hσ2 (fr_l_X7_most_37   _ _ _ _ _ _) (fun _ h => h)
theorem fr_f_X7_most (x1 : Int32) (σ : k_Mem) : k_Fr [73, 76] σ (f_X7_most x1 σ) := by
  unfold f_X7_most
  refine fr_ite (fun c1 => ?_) (fun c1 => ?_)
  · exact fr_to sm_rf (fr_j_X7_most_25 _ _ ) (fun _ h => h)
  · refine fr_bd sm_rf (fr_f_X7_in _ _ _ _) (fun _ _ => List.not_mem_nil) (fun r12 σ12 hσ12 => ?_)
    refine fr_ite (fun c2 => ?_) (fun c2 => ?_)
    · exact fr_some hσ12
    · exact fr_to hσ12 (fr_j_X7_most_25 _ _ ) (fun _ h => h)
theorem fr_l_X7_quarrel_53  : ∀ (n : Nat) (x2 : Int32) (σ : k_Mem), k_Fr [73, 76] σ (l_X7_quarrel_53  n x2 σ) := by
  intro n
  induction n with
  | zero => intro x2 σ; exact fr_none
  | succ n ih =>
    intro x2 σ
    rw [l_X7_quarrel_53]
    refine fr_ite (fun c1 => ?_) (fun c1 => ?_)
    · exact fr_some sm_rf
    · refine fr_bd sm_rf (fr_f_X7_doQuarrel _ _ _) (fun _ _ => List.not_mem_nil) (fun r8 σ8 hσ8 => ?_)
      refine fr_ite (fun c2 => ?_) (fun c2 => ?_)
      · exact fr_to hσ8 (ih _ _) (fun _ h => h)
      · exact fr_some hσ8
theorem fr_l_X7_quarrel_19  : ∀ (n : Nat) (x1 : Int32) (x2 : Int32) (σ : k_Mem), k_Fr [73, 76] σ (l_X7_quarrel_19  n x1 x2 σ) := by
  intro n
  induction n with
  | zero => intro x1 x2 σ; exact fr_none
  | succ n ih =>
    intro x1 x2 σ
    rw [l_X7_quarrel_19]
    refine fr_ite (fun c1 => ?_) (fun c1 => ?_)
    · refine fr_ite (fun c2 => ?_) (fun c2 => ?_)
      · refine fr_bd sm_rf (fr_f_X7_quarrels _) (fun _ _ => List.not_mem_nil) (fun r6 σ6 hσ6 => ?_)
        exact fr_some hσ6
      · exact fr_to sm_rf (fr_l_X7_quarrel_53   _ _ _) (fun _ h => h)
    · refine fr_bd sm_rf (fr_f_X7_wedTo _ _) (fun _ _ => List.not_mem_nil) (fun r10 σ10 hσ10 => ?_)
      refine fr_ite (fun c3 => ?_) (fun c3 => ?_)
      · exact fr_to (sm_set (by decide) hσ10) (ih _ _ _) (fun _ h => h)
      · exact fr_none
theorem fr_f_X7_quarrel (x1 : Int32) (σ : k_Mem) : k_Fr [73, 76] σ (f_X7_quarrel x1 σ) := by
  unfold f_X7_quarrel
  refine fr_bd sm_rf (fr_f_X7_in _ _ _ _) (fun _ _ => List.not_mem_nil) (fun r1 σ1 hσ1 => ?_)
  refine fr_ite (fun c1 => ?_) (fun c1 => ?_)
  · exact fr_some hσ1
  · refine fr_bd hσ1 (fr_f_X7_laysTable _ _) (k_sub (by decide)) (fun _ σ3 hσ3 => ?_)
    exact fr_to hσ3 (fr_l_X7_quarrel_19   _ _ _ _) (fun _ h => h)
theorem fr_j_X7_alone_42 (k9 : Int32 → Int32 → k_Mem → Option (Int32 × k_Mem)) (x2 : Int32) (xs0 : Int32) (xs1 : Int32) (σ : k_Mem) (hk9 : ∀ (a0 : Int32) (a1 : Int32) (a2 : k_Mem), k_Fr [73, 74, 75] a2 (k9 a0 a1 a2)) : k_Fr [73, 74, 75] σ (j_X7_alone_42 k9 x2 xs0 xs1 σ) := by
  unfold j_X7_alone_42
  exact fr_to sm_rf (hk9 _ _ _) (fun _ h => h)
theorem fr_j_X7_alone_41 (k9 : Int32 → Int32 → k_Mem → Option (Int32 × k_Mem)) (x2 : Int32) (xs0 : Int32) (σ : k_Mem) (hk9 : ∀ (a0 : Int32) (a1 : Int32) (a2 : k_Mem), k_Fr [73, 74, 75] a2 (k9 a0 a1 a2)) : k_Fr [73, 74, 75] σ (j_X7_alone_41 k9 x2 xs0 σ) := by
  unfold j_X7_alone_41
  exact fr_to sm_rf (fr_j_X7_alone_42 _ _ _ _ _ hk9) (fun _ h => h)
theorem fr_l_X7_alone_9  : ∀ (n : Nat) (x1 : Int32) (x2 : Int32) (σ : k_Mem), k_Fr [73, 74, 75] σ (l_X7_alone_9  n x1 x2 σ) := by
  intro n
  induction n with
  | zero => intro x1 x2 σ; exact fr_none
  | succ n ih =>
    intro x1 x2 σ
    rw [l_X7_alone_9]
    refine fr_ite (fun c1 => ?_) (fun c1 => ?_)
    · exact fr_some sm_rf
    · refine fr_bd sm_rf (fr_f_X7_isHand _ _) (fun _ _ => List.not_mem_nil) (fun r3 σ3 hσ3 => ?_)
      refine fr_ite (fun c2 => ?_) (fun c2 => ?_)
      · exact fr_to hσ3 (fr_j_X7_alone_41 _ _ _ _ (fun x1 x2 σ => ih x1 x2 σ)) (fun _ h => h)
      · refine fr_ite (fun c3 => ?_) (fun c3 => ?_)
        · refine fr_ite (fun c4 => ?_) (fun c4 => ?_)
          · exact fr_to hσ3 (fr_j_X7_alone_42 _ _ _ _ _ (fun x1 x2 σ => ih x1 x2 σ)) (fun _ h => h)
          · exact fr_to hσ3 (fr_j_X7_alone_41 _ _ _ _ (fun x1 x2 σ => ih x1 x2 σ)) (fun _ h => h)
        · exact fr_none
theorem fr_f_X7_alone (σ : k_Mem) : k_Fr [73, 74, 75] σ (f_X7_alone σ) := by
  unfold f_X7_alone
  refine fr_bd sm_rf (fr_f_X7_askingNow _ _) (fun _ h => h) (fun _ σ1 hσ1 => ?_)
  exact fr_to hσ1 (fr_l_X7_alone_9   _ _ _ _) (fun _ h => h)
theorem fr_j_X7_nears_114 (xs1 : Int32) (xs2 : Int32) (xs3 : Int32) (σ : k_Mem) : k_Fr [68] σ (j_X7_nears_114 xs1 xs2 xs3 σ) := by
  unfold j_X7_nears_114
  refine fr_ite (fun c1 => ?_) (fun c1 => ?_)
  · exact fr_some (sm_set (by decide) sm_rf)
  · exact fr_none
theorem fr_j_X7_nears_90 (x1 : Int32) (x3 : Int32) (x7 : Int32) (x8 : Int32) (x9 : Int32) (xs1 : Int32) (xs2 : Int32) (xs3 : Int32) (σ : k_Mem) : k_Fr [68] σ (j_X7_nears_90 x1 x3 x7 x8 x9 xs1 xs2 xs3 σ) := by
  unfold j_X7_nears_90
  refine fr_ite (fun c1 => ?_) (fun c1 => ?_)
  · refine fr_ite (fun c2 => ?_) (fun c2 => ?_)
    · refine fr_ite (fun c3 => ?_) (fun c3 => ?_)
      · exact fr_to (sm_set (by decide) sm_rf) (fr_j_X7_nears_114 _ _ _ _ ) (fun _ h => h)
      · exact fr_to (sm_set (by decide) sm_rf) (fr_j_X7_nears_114 _ _ _ _ ) (fun _ h => h)
    · exact fr_none
  · exact fr_none
theorem fr_j_X7_nears_66 (x1 : Int32) (x2 : Int32) (x3 : Int32) (x7 : Int32) (x8 : Int32) (xs0 : Int32) (σ : k_Mem) : k_Fr [68] σ (j_X7_nears_66 x1 x2 x3 x7 x8 xs0 σ) := by
  unfold j_X7_nears_66
  refine fr_ite (fun c1 => ?_) (fun c1 => ?_)
  · refine fr_ite (fun c2 => ?_) (fun c2 => ?_)
    · exact fr_to sm_rf (fr_j_X7_nears_90 _ _ _ _ _ _ _ _ _ ) (fun _ h => h)
    · exact fr_to sm_rf (fr_j_X7_nears_90 _ _ _ _ _ _ _ _ _ ) (fun _ h => h)
  · exact fr_none
theorem fr_j_X7_nears_53 (x1 : Int32) (x2 : Int32) (x3 : Int32) (x6 : Int32) (x7 : Int32) (xs0 : Int32) (σ : k_Mem) : k_Fr [68] σ (j_X7_nears_53 x1 x2 x3 x6 x7 xs0 σ) := by
  unfold j_X7_nears_53
  refine fr_ite (fun c1 => ?_) (fun c1 => ?_)
  · exact fr_to sm_rf (fr_j_X7_nears_66 _ _ _ _ _ _ _ ) (fun _ h => h)
  · exact fr_to sm_rf (fr_j_X7_nears_66 _ _ _ _ _ _ _ ) (fun _ h => h)
theorem fr_j_X7_nears_41 (x1 : Int32) (x2 : Int32) (x3 : Int32) (x6 : Int32) (xs0 : Int32) (σ : k_Mem) : k_Fr [68] σ (j_X7_nears_41 x1 x2 x3 x6 xs0 σ) := by
  unfold j_X7_nears_41
  refine fr_ite (fun c1 => ?_) (fun c1 => ?_)
  · exact fr_to sm_rf (fr_j_X7_nears_53 _ _ _ _ _ _ _ ) (fun _ h => h)
  · exact fr_to sm_rf (fr_j_X7_nears_53 _ _ _ _ _ _ _ ) (fun _ h => h)
theorem fr_f_X7_nears (x1 : Int32) (x2 : Int32) (x3 : Int32) (σ : k_Mem) : k_Fr [68] σ (f_X7_nears x1 x2 x3 σ) := by
  unfold f_X7_nears
  refine fr_ite (fun c1 => ?_) (fun c1 => ?_)
  · refine fr_ite (fun c2 => ?_) (fun c2 => ?_)
    · refine fr_bd sm_rf (fr_f_X7_far _ _ _) (fun _ _ => List.not_mem_nil) (fun r1 σ1 hσ1 => ?_)
      refine fr_ite (fun c3 => ?_) (fun c3 => ?_)
      · exact fr_to hσ1 (fr_j_X7_nears_41 _ _ _ _ _ _ ) (fun _ h => h)
      · exact fr_to hσ1 (fr_j_X7_nears_41 _ _ _ _ _ _ ) (fun _ h => h)
    · exact fr_none
  · exact fr_none
theorem fr_j_X7_yearGoes_51 (k2 : Int32 → k_Mem → Option (Unit × k_Mem)) (x1 : Int32) (σ : k_Mem) (hk2 : ∀ (a0 : Int32) (a1 : k_Mem), k_Fr [68] a1 (k2 a0 a1)) : k_Fr [68] σ (j_X7_yearGoes_51 k2 x1 σ) := by
  unfold j_X7_yearGoes_51
  exact fr_to sm_rf (hk2 _ _) (fun _ h => h)
theorem fr_l_X7_yearGoes_2  : ∀ (n : Nat) (x1 : Int32) (σ : k_Mem), k_Fr [68] σ (l_X7_yearGoes_2  n x1 σ) := by
  intro n
  induction n with
  | zero => intro x1 σ; exact fr_none
  | succ n ih =>
    intro x1 σ
    rw [l_X7_yearGoes_2]
    refine fr_ite (fun c1 => ?_) (fun c1 => ?_)
    · refine fr_ite (fun c2 => ?_) (fun c2 => ?_)
      · refine fr_ite (fun c3 => ?_) (fun c3 => ?_)
        · exact fr_some (sm_set (by decide) sm_rf)
        · exact fr_none
      · exact fr_none
    · refine fr_ite (fun c4 => ?_) (fun c4 => ?_)
      · refine fr_ite (fun c5 => ?_) (fun c5 => ?_)
        · exact fr_to sm_rf (fr_j_X7_yearGoes_51 _ _ _ (fun x1 σ => ih x1 σ)) (fun _ h => h)
        · refine fr_ite (fun c6 => ?_) (fun c6 => ?_)
          · refine fr_bd sm_rf (fr_f_X7_nears _ _ _ _) (fun _ h => h) (fun _ σ3 hσ3 => ?_)
            refine fr_ite (fun c7 => ?_) (fun c7 => ?_)
            · refine fr_bd hσ3 (fr_f_X7_nears _ _ _ _) (fun _ h => h) (fun _ σ4 hσ4 => ?_)
              exact fr_to hσ4 (fr_j_X7_yearGoes_51 _ _ _ (fun x1 σ => ih x1 σ)) (fun _ h => h)
            · exact fr_none
          · exact fr_none
      · exact fr_none
theorem fr_f_X7_yearGoes (σ : k_Mem) : k_Fr [68] σ (f_X7_yearGoes σ) := by
  unfold f_X7_yearGoes
  exact fr_to sm_rf (fr_l_X7_yearGoes_2   _ _ _) (fun _ h => h)
theorem fr_l_X7_years_34  : ∀ (n : Nat) (x1 : Int32) (x2 : Int32) (σ : k_Mem), k_Fr [68] σ (l_X7_years_34  n x1 x2 σ) := by
  intro n
  induction n with
  | zero => intro x1 x2 σ; exact fr_none
  | succ n ih =>
    intro x1 x2 σ
    rw [l_X7_years_34]
    refine fr_ite (fun c1 => ?_) (fun c1 => ?_)
    · refine fr_ite (fun c2 => ?_) (fun c2 => ?_)
      · exact fr_some sm_rf
      · exact fr_none
    · refine fr_bd sm_rf (fr_f_X7_yearGoes _) (fun _ h => h) (fun _ σ5 hσ5 => ?_)
      exact fr_to hσ5 (ih _ _ _) (fun _ h => h)
theorem fr_f_X7_years (x1 : Int32) (σ : k_Mem) : k_Fr [68] σ (f_X7_years x1 σ) := by
  unfold f_X7_years
  refine fr_bd sm_rf (fr_f_X7_in _ _ _ _) (fun _ _ => List.not_mem_nil) (fun r1 σ1 hσ1 => ?_)
  refine fr_ite (fun c1 => ?_) (fun c1 => ?_)
  · exact fr_some hσ1
  · refine fr_ite (fun c2 => ?_) (fun c2 => ?_)
    · refine fr_ite (fun c3 => ?_) (fun c3 => ?_)
      · exact fr_to hσ1 (fr_l_X7_years_34   _ _ _ _) (fun _ h => h)
      · exact fr_some hσ1
    · exact fr_none
theorem fr_l_X7_copies_2  : ∀ (n : Nat) (x1 : Int32) (x2 : Int32) (x3 : Int32) (σ : k_Mem), k_Fr [68] σ (l_X7_copies_2  n x1 x2 x3 σ) := by
  intro n
  induction n with
  | zero => intro x1 x2 x3 σ; exact fr_none
  | succ n ih =>
    intro x1 x2 x3 σ
    rw [l_X7_copies_2]
    refine fr_ite (fun c1 => ?_) (fun c1 => ?_)
    · exact fr_some sm_rf
    · refine fr_ite (fun c2 => ?_) (fun c2 => ?_)
      · refine fr_ite (fun c3 => ?_) (fun c3 => ?_)
        · exact fr_to (sm_set (by decide) sm_rf) (ih _ _ _ _) (fun _ h => h)
        · exact fr_none
      · exact fr_none
theorem fr_f_X7_copies (x1 : Int32) (x2 : Int32) (σ : k_Mem) : k_Fr [68] σ (f_X7_copies x1 x2 σ) := by
  unfold f_X7_copies
  exact fr_to sm_rf (fr_l_X7_copies_2   _ _ _ _ _) (fun _ h => h)
theorem fr_f_X7_unlike (x1 : Int32) (x2 : Int32) (σ : k_Mem) : k_Fr [] σ (f_X7_unlike x1 x2 σ) := by
  unfold f_X7_unlike
  refine fr_ite (fun c1 => ?_) (fun c1 => ?_)
  · refine fr_ite (fun c2 => ?_) (fun c2 => ?_)
    · refine fr_bd sm_rf (fr_f_X7_far _ _ _) (fun _ _ => List.not_mem_nil) (fun r1 σ1 hσ1 => ?_)
      refine fr_ite (fun c3 => ?_) (fun c3 => ?_)
      · refine fr_ite (fun c4 => ?_) (fun c4 => ?_)
        · refine fr_bd hσ1 (fr_f_X7_far _ _ _) (fun _ _ => List.not_mem_nil) (fun r2 σ2 hσ2 => ?_)
          exact fr_some hσ2
        · exact fr_none
      · exact fr_none
    · exact fr_none
  · exact fr_none
theorem fr_j_X7_alike_99 (x1 : Int32) (σ : k_Mem) : k_Fr [68] σ (j_X7_alike_99 x1 σ) := by
  unfold j_X7_alike_99
  refine fr_bd sm_rf (fr_f_X7_copies _ _ _) (fun _ h => h) (fun _ σ3 hσ3 => ?_)
  exact fr_some hσ3
theorem fr_j_X7_alike_88 (k13 : Int32 → Int32 → k_Mem → Option (Int32 × k_Mem)) (x2 : Int32) (xs0 : Int32) (σ : k_Mem) (hk13 : ∀ (a0 : Int32) (a1 : Int32) (a2 : k_Mem), k_Fr [68] a2 (k13 a0 a1 a2)) : k_Fr [68] σ (j_X7_alike_88 k13 x2 xs0 σ) := by
  unfold j_X7_alike_88
  refine fr_bd sm_rf (fr_f_X7_yearGoes _) (fun _ h => h) (fun _ σ7 hσ7 => ?_)
  exact fr_to hσ7 (hk13 _ _ _) (fun _ h => h)
theorem fr_j_X7_alike_70 (k13 : Int32 → Int32 → k_Mem → Option (Int32 × k_Mem)) (k30 : Int32 → Int32 → Int32 → k_Mem → Option (Int32 × k_Mem)) (x2 : Int32) (x4 : Int32) (xs0 : Int32) (xs1 : Int32) (σ : k_Mem) (hk13 : ∀ (a0 : Int32) (a1 : Int32) (a2 : k_Mem), k_Fr [68] a2 (k13 a0 a1 a2)) (hk30 : ∀ (a0 : Int32) (a1 : Int32) (a2 : Int32) (a3 : k_Mem), k_Fr [68] a3 (k30 a0 a1 a2 a3)) : k_Fr [68] σ (j_X7_alike_70 k13 k30 x2 x4 xs0 xs1 σ) := by
  unfold j_X7_alike_70
  exact fr_to sm_rf (hk30 _ _ _ _) (fun _ h => h)
theorem fr_l_X7_alike_30 (k13 : Int32 → Int32 → k_Mem → Option (Int32 × k_Mem)) (hk13 : ∀ (a0 : Int32) (a1 : Int32) (a2 : k_Mem), k_Fr [68] a2 (k13 a0 a1 a2)) : ∀ (n : Nat) (x2 : Int32) (x3 : Int32) (x4 : Int32) (σ : k_Mem), k_Fr [68] σ (l_X7_alike_30 k13 n x2 x3 x4 σ) := by
  intro n
  induction n with
  | zero => intro x2 x3 x4 σ; exact fr_none
  | succ n ih =>
    intro x2 x3 x4 σ
    rw [l_X7_alike_30]
    refine fr_ite (fun c1 => ?_) (fun c1 => ?_)
    · refine fr_ite (fun c2 => ?_) (fun c2 => ?_)
      · exact fr_to sm_rf (fr_j_X7_alike_88 _ _ _ _ hk13) (fun _ h => h)
      · exact fr_to sm_rf (fr_j_X7_alike_88 _ _ _ _ hk13) (fun _ h => h)
    · refine fr_ite (fun c3 => ?_) (fun c3 => ?_)
      · refine fr_ite (fun c4 => ?_) (fun c4 => ?_)
        · exact fr_to sm_rf (fr_j_X7_alike_70 _ _ _ _ _ _ _ hk13 (fun x2 x3 x4 σ => ih x2 x3 x4 σ)) (fun _ h => h)
        · refine fr_ite (fun c5 => ?_) (fun c5 => ?_)
          · refine fr_bd sm_rf (fr_f_X7_unlike _ _ _) (fun _ _ => List.not_mem_nil) (fun r9 σ9 hσ9 => ?_)
            exact fr_to hσ9 (fr_j_X7_alike_70 _ _ _ _ _ _ _ hk13 (fun x2 x3 x4 σ => ih x2 x3 x4 σ)) (fun _ h => h)
          · exact fr_none
      · exact fr_none
theorem fr_l_X7_alike_13  : ∀ (n : Nat) (x1 : Int32) (x2 : Int32) (σ : k_Mem), k_Fr [68] σ (l_X7_alike_13  n x1 x2 σ) := by
  intro n
  induction n with
  | zero => intro x1 x2 σ; exact fr_none
  | succ n ih =>
    intro x1 x2 σ
    rw [l_X7_alike_13]
    refine fr_ite (fun c1 => ?_) (fun c1 => ?_)
    · exact fr_to sm_rf (fr_j_X7_alike_99 _ _ ) (fun _ h => h)
    · refine fr_ite (fun c2 => ?_) (fun c2 => ?_)
      · exact fr_to sm_rf (fr_l_X7_alike_30 _ (fun x1 x2 σ => ih x1 x2 σ) _ _ _ _ _) (fun _ h => h)
      · exact fr_to sm_rf (fr_j_X7_alike_99 _ _ ) (fun _ h => h)
theorem fr_f_X7_alike (σ : k_Mem) : k_Fr [68] σ (f_X7_alike σ) := by
  unfold f_X7_alike
  refine fr_bd sm_rf (fr_f_X7_copies _ _ _) (fun _ h => h) (fun _ σ1 hσ1 => ?_)
  exact fr_to hσ1 (fr_l_X7_alike_13   _ _ _ _) (fun _ h => h)
theorem fr_j_X7_near_90 (k22 : Int32 → Int32 → Int32 → Int32 → k_Mem → Option (Int32 × k_Mem)) (k35 : Int32 → Int32 → Int32 → Int32 → Int32 → k_Mem → Option (Int32 × k_Mem)) (x1 : Int32) (x2 : Int32) (x3 : Int32) (x4 : Int32) (x5 : Int32) (σ : k_Mem) (hk22 : ∀ (a0 : Int32) (a1 : Int32) (a2 : Int32) (a3 : Int32) (a4 : k_Mem), k_Fr [] a4 (k22 a0 a1 a2 a3 a4)) (hk35 : ∀ (a0 : Int32) (a1 : Int32) (a2 : Int32) (a3 : Int32) (a4 : Int32) (a5 : k_Mem), k_Fr [] a5 (k35 a0 a1 a2 a3 a4 a5)) : k_Fr [] σ (j_X7_near_90 k22 k35 x1 x2 x3 x4 x5 σ) := by
  unfold j_X7_near_90
  exact fr_to sm_rf (hk35 _ _ _ _ _ _) (fun _ h => h)
theorem fr_l_X7_near_35 (k22 : Int32 → Int32 → Int32 → Int32 → k_Mem → Option (Int32 × k_Mem)) (hk22 : ∀ (a0 : Int32) (a1 : Int32) (a2 : Int32) (a3 : Int32) (a4 : k_Mem), k_Fr [] a4 (k22 a0 a1 a2 a3 a4)) : ∀ (n : Nat) (x1 : Int32) (x2 : Int32) (x3 : Int32) (x4 : Int32) (x5 : Int32) (σ : k_Mem), k_Fr [] σ (l_X7_near_35 k22 n x1 x2 x3 x4 x5 σ) := by
  intro n
  induction n with
  | zero => intro x1 x2 x3 x4 x5 σ; exact fr_none
  | succ n ih =>
    intro x1 x2 x3 x4 x5 σ
    rw [l_X7_near_35]
    refine fr_ite (fun c1 => ?_) (fun c1 => ?_)
    · exact fr_to sm_rf (hk22 _ _ _ _ _) (fun _ h => h)
    · refine fr_bd sm_rf (fr_f_X7_isHand _ _) (fun _ _ => List.not_mem_nil) (fun r7 σ7 hσ7 => ?_)
      refine fr_ite (fun c2 => ?_) (fun c2 => ?_)
      · exact fr_to hσ7 (fr_j_X7_near_90 _ _ _ _ _ _ _ _ hk22 (fun x1 x2 x3 x4 x5 σ => ih x1 x2 x3 x4 x5 σ)) (fun _ h => h)
      · refine fr_bd hσ7 (fr_f_X7_isHand _ _) (fun _ _ => List.not_mem_nil) (fun r9 σ9 hσ9 => ?_)
        refine fr_ite (fun c3 => ?_) (fun c3 => ?_)
        · exact fr_to hσ9 (fr_j_X7_near_90 _ _ _ _ _ _ _ _ hk22 (fun x1 x2 x3 x4 x5 σ => ih x1 x2 x3 x4 x5 σ)) (fun _ h => h)
        · refine fr_bd hσ9 (fr_f_X7_unlike _ _ _) (fun _ _ => List.not_mem_nil) (fun r11 σ11 hσ11 => ?_)
          refine fr_ite (fun c4 => ?_) (fun c4 => ?_)
          · exact fr_to hσ11 (fr_j_X7_near_90 _ _ _ _ _ _ _ _ hk22 (fun x1 x2 x3 x4 x5 σ => ih x1 x2 x3 x4 x5 σ)) (fun _ h => h)
          · refine fr_bd hσ11 (fr_f_X7_unlike _ _ _) (fun _ _ => List.not_mem_nil) (fun r13 σ13 hσ13 => ?_)
            exact fr_to hσ13 (fr_j_X7_near_90 _ _ _ _ _ _ _ _ hk22 (fun x1 x2 x3 x4 x5 σ => ih x1 x2 x3 x4 x5 σ)) (fun _ h => h)
theorem fr_l_X7_near_22  : ∀ (n : Nat) (x1 : Int32) (x2 : Int32) (x3 : Int32) (x4 : Int32) (σ : k_Mem), k_Fr [] σ (l_X7_near_22  n x1 x2 x3 x4 σ) := by
  intro n
  induction n with
  | zero => intro x1 x2 x3 x4 σ; exact fr_none
  | succ n ih =>
    intro x1 x2 x3 x4 σ
    rw [l_X7_near_22]
    refine fr_ite (fun c1 => ?_) (fun c1 => ?_)
    · refine fr_ite (fun c2 => ?_) (fun c2 => ?_)
      · exact fr_some sm_rf
      · refine fr_ite (fun c3 => ?_) (fun c3 => ?_)
        · exact fr_some sm_rf
        · exact fr_some sm_rf
    · exact fr_to sm_rf (fr_l_X7_near_35 _ (fun x1 x2 x3 x4 σ => ih x1 x2 x3 x4 σ) _ _ _ _ _ _ _) (fun _ h => h)
theorem fr_f_X7_near (x1 : Int32) (σ : k_Mem) : k_Fr [] σ (f_X7_near x1 σ) := by
  unfold f_X7_near
  refine fr_bd sm_rf (fr_f_X7_in _ _ _ _) (fun _ _ => List.not_mem_nil) (fun r1 σ1 hσ1 => ?_)
  refine fr_ite (fun c1 => ?_) (fun c1 => ?_)
  · exact fr_some hσ1
  · exact fr_to hσ1 (fr_l_X7_near_22   _ _ _ _ _ _) (fun _ h => h)
theorem fr_j_X7_forge_165 (k46 : Int32 → Int32 → Int32 → Int32 → Int32 → Int32 → Int32 → k_Mem → Option (Int32 × k_Mem)) (x1 : Int32) (x2 : Int32) (x3 : Int32) (x4 : Int32) (x5 : Int32) (x6 : Int32) (x7 : Int32) (σ : k_Mem) (hk46 : ∀ (a0 : Int32) (a1 : Int32) (a2 : Int32) (a3 : Int32) (a4 : Int32) (a5 : Int32) (a6 : Int32) (a7 : k_Mem), k_Fr [68, 73, 74, 75] a7 (k46 a0 a1 a2 a3 a4 a5 a6 a7)) : k_Fr [68, 73, 74, 75] σ (j_X7_forge_165 k46 x1 x2 x3 x4 x5 x6 x7 σ) := by
  unfold j_X7_forge_165
  exact fr_to sm_rf (hk46 _ _ _ _ _ _ _ _) (fun _ h => h)
theorem fr_j_X7_forge_163 (k46 : Int32 → Int32 → Int32 → Int32 → Int32 → Int32 → Int32 → k_Mem → Option (Int32 × k_Mem)) (x1 : Int32) (x2 : Int32) (x3 : Int32) (x4 : Int32) (x6 : Int32) (x7 : Int32) (xs0 : Int32) (σ : k_Mem) (hk46 : ∀ (a0 : Int32) (a1 : Int32) (a2 : Int32) (a3 : Int32) (a4 : Int32) (a5 : Int32) (a6 : Int32) (a7 : k_Mem), k_Fr [68, 73, 74, 75] a7 (k46 a0 a1 a2 a3 a4 a5 a6 a7)) : k_Fr [68, 73, 74, 75] σ (j_X7_forge_163 k46 x1 x2 x3 x4 x6 x7 xs0 σ) := by
  unfold j_X7_forge_163
  exact fr_to sm_rf (fr_j_X7_forge_165 _ _ _ _ _ _ _ _ _ hk46) (fun _ h => h)
theorem fr_j_X7_forge_147 (k46 : Int32 → Int32 → Int32 → Int32 → Int32 → Int32 → Int32 → k_Mem → Option (Int32 × k_Mem)) (x1 : Int32) (x2 : Int32) (x3 : Int32) (x4 : Int32) (x5 : Int32) (x7 : Int32) (x8 : Int32) (xs0 : Int32) (σ : k_Mem) (hk46 : ∀ (a0 : Int32) (a1 : Int32) (a2 : Int32) (a3 : Int32) (a4 : Int32) (a5 : Int32) (a6 : Int32) (a7 : k_Mem), k_Fr [68, 73, 74, 75] a7 (k46 a0 a1 a2 a3 a4 a5 a6 a7)) : k_Fr [68, 73, 74, 75] σ (j_X7_forge_147 k46 x1 x2 x3 x4 x5 x7 x8 xs0 σ) := by
  unfold j_X7_forge_147
  refine fr_ite (fun c1 => ?_) (fun c1 => ?_)
  · exact fr_to sm_rf (fr_j_X7_forge_163 _ _ _ _ _ _ _ _ _ hk46) (fun _ h => h)
  · exact fr_to sm_rf (fr_j_X7_forge_163 _ _ _ _ _ _ _ _ _ hk46) (fun _ h => h)
theorem fr_j_X7_forge_127 (k46 : Int32 → Int32 → Int32 → Int32 → Int32 → Int32 → Int32 → k_Mem → Option (Int32 × k_Mem)) (x1 : Int32) (x2 : Int32) (x3 : Int32) (x5 : Int32) (x6 : Int32) (x7 : Int32) (x8 : Int32) (xs0 : Int32) (σ : k_Mem) (hk46 : ∀ (a0 : Int32) (a1 : Int32) (a2 : Int32) (a3 : Int32) (a4 : Int32) (a5 : Int32) (a6 : Int32) (a7 : k_Mem), k_Fr [68, 73, 74, 75] a7 (k46 a0 a1 a2 a3 a4 a5 a6 a7)) : k_Fr [68, 73, 74, 75] σ (j_X7_forge_127 k46 x1 x2 x3 x5 x6 x7 x8 xs0 σ) := by
  unfold j_X7_forge_127
  refine fr_ite (fun c1 => ?_) (fun c1 => ?_)
  · exact fr_to sm_rf (fr_j_X7_forge_147 _ _ _ _ _ _ _ _ _ _ hk46) (fun _ h => h)
  · refine fr_ite (fun c2 => ?_) (fun c2 => ?_)
    · exact fr_to sm_rf (fr_j_X7_forge_147 _ _ _ _ _ _ _ _ _ _ hk46) (fun _ h => h)
    · exact fr_none
theorem fr_j_X7_forge_111 (k46 : Int32 → Int32 → Int32 → Int32 → Int32 → Int32 → Int32 → k_Mem → Option (Int32 × k_Mem)) (x1 : Int32) (x2 : Int32) (x3 : Int32) (x4 : Int32) (x5 : Int32) (x6 : Int32) (x7 : Int32) (xs0 : Int32) (σ : k_Mem) (hk46 : ∀ (a0 : Int32) (a1 : Int32) (a2 : Int32) (a3 : Int32) (a4 : Int32) (a5 : Int32) (a6 : Int32) (a7 : k_Mem), k_Fr [68, 73, 74, 75] a7 (k46 a0 a1 a2 a3 a4 a5 a6 a7)) : k_Fr [68, 73, 74, 75] σ (j_X7_forge_111 k46 x1 x2 x3 x4 x5 x6 x7 xs0 σ) := by
  unfold j_X7_forge_111
  refine fr_ite (fun c1 => ?_) (fun c1 => ?_)
  · exact fr_to sm_rf (fr_j_X7_forge_127 _ _ _ _ _ _ _ _ _ _ hk46) (fun _ h => h)
  · exact fr_to sm_rf (fr_j_X7_forge_127 _ _ _ _ _ _ _ _ _ _ hk46) (fun _ h => h)
theorem fr_l_X7_forge_46  : ∀ (n : Nat) (x1 : Int32) (x2 : Int32) (x3 : Int32) (x4 : Int32) (x5 : Int32) (x6 : Int32) (x7 : Int32) (σ : k_Mem), k_Fr [68, 73, 74, 75] σ (l_X7_forge_46  n x1 x2 x3 x4 x5 x6 x7 σ) := by
  intro n
  induction n with
  | zero => intro x1 x2 x3 x4 x5 x6 x7 σ; exact fr_none
  | succ n ih =>
    intro x1 x2 x3 x4 x5 x6 x7 σ
    rw [l_X7_forge_46]
    refine fr_ite (fun c1 => ?_) (fun c1 => ?_)
    · refine fr_ite (fun c2 => ?_) (fun c2 => ?_)
      · refine fr_ite (fun c3 => ?_) (fun c3 => ?_)
        · exact fr_some (sm_set (by decide) sm_rf)
        · exact fr_some (sm_set (by decide) sm_rf)
      · exact fr_none
    · refine fr_bd sm_rf (fr_f_X7_isHand _ _) (fun _ _ => List.not_mem_nil) (fun r7 σ7 hσ7 => ?_)
      refine fr_ite (fun c4 => ?_) (fun c4 => ?_)
      · exact fr_to hσ7 (fr_j_X7_forge_165 _ _ _ _ _ _ _ _ _ (fun x1 x2 x3 x4 x5 x6 x7 σ => ih x1 x2 x3 x4 x5 x6 x7 σ)) (fun _ h => h)
      · refine fr_ite (fun c5 => ?_) (fun c5 => ?_)
        · refine fr_bd (sm_set (by decide) hσ7) (fr_f_X7_askingNow _ _) (k_sub (by decide)) (fun _ σ9 hσ9 => ?_)
          refine fr_ite (fun c6 => ?_) (fun c6 => ?_)
          · refine fr_ite (fun c7 => ?_) (fun c7 => ?_)
            · exact fr_to hσ9 (fr_j_X7_forge_111 _ _ _ _ _ _ _ _ _ _ (fun x1 x2 x3 x4 x5 x6 x7 σ => ih x1 x2 x3 x4 x5 x6 x7 σ)) (fun _ h => h)
            · refine fr_ite (fun c8 => ?_) (fun c8 => ?_)
              · refine fr_ite (fun c9 => ?_) (fun c9 => ?_)
                · exact fr_to hσ9 (fr_j_X7_forge_111 _ _ _ _ _ _ _ _ _ _ (fun x1 x2 x3 x4 x5 x6 x7 σ => ih x1 x2 x3 x4 x5 x6 x7 σ)) (fun _ h => h)
                · exact fr_none
              · exact fr_none
          · exact fr_none
        · exact fr_none
theorem fr_f_X7_forge (x1 : Int32) (x2 : Int32) (σ : k_Mem) : k_Fr [68, 73, 74, 75] σ (f_X7_forge x1 x2 σ) := by
  unfold f_X7_forge
  refine fr_bd sm_rf (fr_f_X7_isHand _ _) (fun _ _ => List.not_mem_nil) (fun r1 σ1 hσ1 => ?_)
  refine fr_ite (fun c1 => ?_) (fun c1 => ?_)
  · exact fr_some hσ1
  · refine fr_bd hσ1 (fr_f_X7_in _ _ _ _) (fun _ _ => List.not_mem_nil) (fun r3 σ3 hσ3 => ?_)
    refine fr_ite (fun c2 => ?_) (fun c2 => ?_)
    · exact fr_some hσ3
    · refine fr_ite (fun c3 => ?_) (fun c3 => ?_)
      · exact fr_to hσ3 (fr_l_X7_forge_46   _ _ _ _ _ _ _ _ _) (fun _ h => h)
      · exact fr_none
theorem fr_j_X7_swap_185 (k28 : Int32 → Int32 → Int32 → Int32 → k_Mem → Option (Int32 × k_Mem)) (k41 : Int32 → Int32 → Int32 → Int32 → Int32 → k_Mem → Option (Int32 × k_Mem)) (x1 : Int32) (x2 : Int32) (x3 : Int32) (x4 : Int32) (x5 : Int32) (σ : k_Mem) (hk28 : ∀ (a0 : Int32) (a1 : Int32) (a2 : Int32) (a3 : Int32) (a4 : k_Mem), k_Fr [68, 73, 74, 75] a4 (k28 a0 a1 a2 a3 a4)) (hk41 : ∀ (a0 : Int32) (a1 : Int32) (a2 : Int32) (a3 : Int32) (a4 : Int32) (a5 : k_Mem), k_Fr [68, 73, 74, 75] a5 (k41 a0 a1 a2 a3 a4 a5)) : k_Fr [68, 73, 74, 75] σ (j_X7_swap_185 k28 k41 x1 x2 x3 x4 x5 σ) := by
  unfold j_X7_swap_185
  exact fr_to sm_rf (hk41 _ _ _ _ _ _) (fun _ h => h)
theorem fr_j_X7_swap_184 (k28 : Int32 → Int32 → Int32 → Int32 → k_Mem → Option (Int32 × k_Mem)) (k41 : Int32 → Int32 → Int32 → Int32 → Int32 → k_Mem → Option (Int32 × k_Mem)) (x1 : Int32) (x3 : Int32) (x4 : Int32) (x5 : Int32) (xs0 : Int32) (σ : k_Mem) (hk28 : ∀ (a0 : Int32) (a1 : Int32) (a2 : Int32) (a3 : Int32) (a4 : k_Mem), k_Fr [68, 73, 74, 75] a4 (k28 a0 a1 a2 a3 a4)) (hk41 : ∀ (a0 : Int32) (a1 : Int32) (a2 : Int32) (a3 : Int32) (a4 : Int32) (a5 : k_Mem), k_Fr [68, 73, 74, 75] a5 (k41 a0 a1 a2 a3 a4 a5)) : k_Fr [68, 73, 74, 75] σ (j_X7_swap_184 k28 k41 x1 x3 x4 x5 xs0 σ) := by
  unfold j_X7_swap_184
  exact fr_to sm_rf (fr_j_X7_swap_185 _ _ _ _ _ _ _ _ hk28 hk41) (fun _ h => h)
theorem fr_j_X7_swap_171 (k28 : Int32 → Int32 → Int32 → Int32 → k_Mem → Option (Int32 × k_Mem)) (k41 : Int32 → Int32 → Int32 → Int32 → Int32 → k_Mem → Option (Int32 × k_Mem)) (x1 : Int32) (x2 : Int32) (x4 : Int32) (x5 : Int32) (x8 : Int32) (xs0 : Int32) (σ : k_Mem) (hk28 : ∀ (a0 : Int32) (a1 : Int32) (a2 : Int32) (a3 : Int32) (a4 : k_Mem), k_Fr [68, 73, 74, 75] a4 (k28 a0 a1 a2 a3 a4)) (hk41 : ∀ (a0 : Int32) (a1 : Int32) (a2 : Int32) (a3 : Int32) (a4 : Int32) (a5 : k_Mem), k_Fr [68, 73, 74, 75] a5 (k41 a0 a1 a2 a3 a4 a5)) : k_Fr [68, 73, 74, 75] σ (j_X7_swap_171 k28 k41 x1 x2 x4 x5 x8 xs0 σ) := by
  unfold j_X7_swap_171
  refine fr_ite (fun c1 => ?_) (fun c1 => ?_)
  · exact fr_to sm_rf (fr_j_X7_swap_184 _ _ _ _ _ _ _ _ hk28 hk41) (fun _ h => h)
  · exact fr_to sm_rf (fr_j_X7_swap_184 _ _ _ _ _ _ _ _ hk28 hk41) (fun _ h => h)
theorem fr_l_X7_swap_41 (k28 : Int32 → Int32 → Int32 → Int32 → k_Mem → Option (Int32 × k_Mem)) (hk28 : ∀ (a0 : Int32) (a1 : Int32) (a2 : Int32) (a3 : Int32) (a4 : k_Mem), k_Fr [68, 73, 74, 75] a4 (k28 a0 a1 a2 a3 a4)) : ∀ (n : Nat) (x1 : Int32) (x2 : Int32) (x3 : Int32) (x4 : Int32) (x5 : Int32) (σ : k_Mem), k_Fr [68, 73, 74, 75] σ (l_X7_swap_41 k28 n x1 x2 x3 x4 x5 σ) := by
  intro n
  induction n with
  | zero => intro x1 x2 x3 x4 x5 σ; exact fr_none
  | succ n ih =>
    intro x1 x2 x3 x4 x5 σ
    rw [l_X7_swap_41]
    refine fr_ite (fun c1 => ?_) (fun c1 => ?_)
    · exact fr_to sm_rf (hk28 _ _ _ _ _) (fun _ h => h)
    · refine fr_bd sm_rf (fr_f_X7_isHand _ _) (fun _ _ => List.not_mem_nil) (fun r9 σ9 hσ9 => ?_)
      refine fr_ite (fun c2 => ?_) (fun c2 => ?_)
      · exact fr_to hσ9 (fr_j_X7_swap_185 _ _ _ _ _ _ _ _ hk28 (fun x1 x2 x3 x4 x5 σ => ih x1 x2 x3 x4 x5 σ)) (fun _ h => h)
      · refine fr_bd hσ9 (fr_f_X7_isHand _ _) (fun _ _ => List.not_mem_nil) (fun r11 σ11 hσ11 => ?_)
        refine fr_ite (fun c3 => ?_) (fun c3 => ?_)
        · exact fr_to hσ11 (fr_j_X7_swap_185 _ _ _ _ _ _ _ _ hk28 (fun x1 x2 x3 x4 x5 σ => ih x1 x2 x3 x4 x5 σ)) (fun _ h => h)
        · refine fr_bd hσ11 (fr_f_X7_penOf _ _) (fun _ _ => List.not_mem_nil) (fun r13 σ13 hσ13 => ?_)
          refine fr_bd hσ13 (fr_f_X7_penOf _ _) (fun _ _ => List.not_mem_nil) (fun r14 σ14 hσ14 => ?_)
          refine fr_ite (fun c4 => ?_) (fun c4 => ?_)
          · refine fr_ite (fun c5 => ?_) (fun c5 => ?_)
            · refine fr_bd (sm_set (by decide) (sm_set (by decide) hσ14)) (fr_f_X7_askingNow _ _) (k_sub (by decide)) (fun _ σ15 hσ15 => ?_)
              refine fr_ite (fun c6 => ?_) (fun c6 => ?_)
              · refine fr_ite (fun c7 => ?_) (fun c7 => ?_)
                · refine fr_bd (sm_set (by decide) (sm_set (by decide) hσ15)) (fr_f_X7_likesInAll _) (fun _ _ => List.not_mem_nil) (fun r16 σ16 hσ16 => ?_)
                  refine fr_ite (fun c8 => ?_) (fun c8 => ?_)
                  · exact fr_to hσ16 (fr_j_X7_swap_171 _ _ _ _ _ _ _ _ _ hk28 (fun x1 x2 x3 x4 x5 σ => ih x1 x2 x3 x4 x5 σ)) (fun _ h => h)
                  · exact fr_to hσ16 (fr_j_X7_swap_171 _ _ _ _ _ _ _ _ _ hk28 (fun x1 x2 x3 x4 x5 σ => ih x1 x2 x3 x4 x5 σ)) (fun _ h => h)
                · exact fr_none
              · exact fr_none
            · exact fr_none
          · exact fr_none
theorem fr_l_X7_swap_28  : ∀ (n : Nat) (x1 : Int32) (x2 : Int32) (x3 : Int32) (x4 : Int32) (σ : k_Mem), k_Fr [68, 73, 74, 75] σ (l_X7_swap_28  n x1 x2 x3 x4 σ) := by
  intro n
  induction n with
  | zero => intro x1 x2 x3 x4 σ; exact fr_none
  | succ n ih =>
    intro x1 x2 x3 x4 σ
    rw [l_X7_swap_28]
    refine fr_ite (fun c1 => ?_) (fun c1 => ?_)
    · refine fr_ite (fun c2 => ?_) (fun c2 => ?_)
      · exact fr_some sm_rf
      · refine fr_ite (fun c3 => ?_) (fun c3 => ?_)
        · exact fr_some sm_rf
        · exact fr_some sm_rf
    · exact fr_to sm_rf (fr_l_X7_swap_41 _ (fun x1 x2 x3 x4 σ => ih x1 x2 x3 x4 σ) _ _ _ _ _ _ _) (fun _ h => h)
theorem fr_f_X7_swap (x1 : Int32) (σ : k_Mem) : k_Fr [68, 73, 74, 75] σ (f_X7_swap x1 σ) := by
  unfold f_X7_swap
  refine fr_bd sm_rf (fr_f_X7_in _ _ _ _) (fun _ _ => List.not_mem_nil) (fun r1 σ1 hσ1 => ?_)
  refine fr_ite (fun c1 => ?_) (fun c1 => ?_)
  · exact fr_some hσ1
  · refine fr_bd hσ1 (fr_f_X7_askingNow _ _) (k_sub (by decide)) (fun _ σ3 hσ3 => ?_)
    refine fr_bd hσ3 (fr_f_X7_likesInAll _) (fun _ _ => List.not_mem_nil) (fun r4 σ4 hσ4 => ?_)
    exact fr_to hσ4 (fr_l_X7_swap_28   _ _ _ _ _ _) (fun _ h => h)
theorem fr_l_X7_lowest_6  : ∀ (n : Nat) (x0 : Int64) (x2 : Int64) (x4 : Int32) (x5 : Int64) (x7 : Int64) (σ : k_Mem), k_Fr [] σ (l_X7_lowest_6  n x0 x2 x4 x5 x7 σ) := by
  intro n
  induction n with
  | zero => intro x0 x2 x4 x5 x7 σ; exact fr_none
  | succ n ih =>
    intro x0 x2 x4 x5 x7 σ
    rw [l_X7_lowest_6]
    refine fr_ite (fun c1 => ?_) (fun c1 => ?_)
    · refine fr_ite (fun c2 => ?_) (fun c2 => ?_)
      · refine fr_ite (fun c3 => ?_) (fun c3 => ?_)
        · exact fr_none
        · exact fr_some sm_rf
      · refine fr_ite (fun c4 => ?_) (fun c4 => ?_)
        · exact fr_none
        · exact fr_some sm_rf
    · refine fr_ite (fun c5 => ?_) (fun c5 => ?_)
      · exact fr_none
      · exact fr_to sm_rf (ih _ _ _ _ _ _) (fun _ h => h)
theorem fr_f_X7_lowest (x0 : Int64) (x2 : Int64) (x4 : Int32) (σ : k_Mem) : k_Fr [] σ (f_X7_lowest x0 x2 x4 σ) := by
  unfold f_X7_lowest
  exact fr_to sm_rf (fr_l_X7_lowest_6   _ _ _ _ _ _ _) (fun _ h => h)
theorem fr_j_X7_byThieves_187 (k61 : Int32 → Int32 → Int32 → Int32 → Int64 → Int64 → Int32 → k_Mem → Option (Int64 × k_Mem)) (x1 : Int32) (x2 : Int32) (x3 : Int32) (x4 : Int32) (x5 : Int64) (x7 : Int64) (x9 : Int32) (σ : k_Mem) (hk61 : ∀ (a0 : Int32) (a1 : Int32) (a2 : Int32) (a3 : Int32) (a4 : Int64) (a5 : Int64) (a6 : Int32) (a7 : k_Mem), k_Fr [73, 74, 75] a7 (k61 a0 a1 a2 a3 a4 a5 a6 a7)) : k_Fr [73, 74, 75] σ (j_X7_byThieves_187 k61 x1 x2 x3 x4 x5 x7 x9 σ) := by
  unfold j_X7_byThieves_187
  exact fr_to sm_rf (hk61 _ _ _ _ _ _ _ _) (fun _ h => h)
theorem fr_j_X7_byThieves_182 (k61 : Int32 → Int32 → Int32 → Int32 → Int64 → Int64 → Int32 → k_Mem → Option (Int64 × k_Mem)) (x1 : Int32) (x2 : Int32) (x3 : Int32) (x4 : Int32) (x7 : Int64) (x9 : Int32) (xs0 : Int64) (xs1 : Int64) (xs2 : Int32) (σ : k_Mem) (hk61 : ∀ (a0 : Int32) (a1 : Int32) (a2 : Int32) (a3 : Int32) (a4 : Int64) (a5 : Int64) (a6 : Int32) (a7 : k_Mem), k_Fr [73, 74, 75] a7 (k61 a0 a1 a2 a3 a4 a5 a6 a7)) : k_Fr [73, 74, 75] σ (j_X7_byThieves_182 k61 x1 x2 x3 x4 x7 x9 xs0 xs1 xs2 σ) := by
  unfold j_X7_byThieves_182
  exact fr_to sm_rf (fr_j_X7_byThieves_187 _ _ _ _ _ _ _ _ _ hk61) (fun _ h => h)
theorem fr_j_X7_byThieves_129 (k61 : Int32 → Int32 → Int32 → Int32 → Int64 → Int64 → Int32 → k_Mem → Option (Int64 × k_Mem)) (k85 : Int32 → Int32 → Int32 → Int32 → Int64 → Int64 → Int32 → Int64 → Int32 → k_Mem → Option (Int64 × k_Mem)) (x1 : Int32) (x2 : Int32) (x3 : Int32) (x4 : Int32) (x5 : Int64) (x7 : Int64) (x9 : Int32) (x12 : Int32) (xs0 : Int64) (xs1 : Int64) (σ : k_Mem) (hk61 : ∀ (a0 : Int32) (a1 : Int32) (a2 : Int32) (a3 : Int32) (a4 : Int64) (a5 : Int64) (a6 : Int32) (a7 : k_Mem), k_Fr [73, 74, 75] a7 (k61 a0 a1 a2 a3 a4 a5 a6 a7)) (hk85 : ∀ (a0 : Int32) (a1 : Int32) (a2 : Int32) (a3 : Int32) (a4 : Int64) (a5 : Int64) (a6 : Int32) (a7 : Int64) (a8 : Int32) (a9 : k_Mem), k_Fr [73, 74, 75] a9 (k85 a0 a1 a2 a3 a4 a5 a6 a7 a8 a9)) : k_Fr [73, 74, 75] σ (j_X7_byThieves_129 k61 k85 x1 x2 x3 x4 x5 x7 x9 x12 xs0 xs1 σ) := by
  unfold j_X7_byThieves_129
  exact fr_to sm_rf (hk85 _ _ _ _ _ _ _ _ _ _) (fun _ h => h)
theorem fr_l_X7_byThieves_85 (k61 : Int32 → Int32 → Int32 → Int32 → Int64 → Int64 → Int32 → k_Mem → Option (Int64 × k_Mem)) (hk61 : ∀ (a0 : Int32) (a1 : Int32) (a2 : Int32) (a3 : Int32) (a4 : Int64) (a5 : Int64) (a6 : Int32) (a7 : k_Mem), k_Fr [73, 74, 75] a7 (k61 a0 a1 a2 a3 a4 a5 a6 a7)) : ∀ (n : Nat) (x1 : Int32) (x2 : Int32) (x3 : Int32) (x4 : Int32) (x5 : Int64) (x7 : Int64) (x9 : Int32) (x10 : Int64) (x12 : Int32) (σ : k_Mem), k_Fr [73, 74, 75] σ (l_X7_byThieves_85 k61 n x1 x2 x3 x4 x5 x7 x9 x10 x12 σ) := by
  intro n
  induction n with
  | zero => intro x1 x2 x3 x4 x5 x7 x9 x10 x12 σ; exact fr_none
  | succ n ih =>
    intro x1 x2 x3 x4 x5 x7 x9 x10 x12 σ
    rw [l_X7_byThieves_85]
    refine fr_ite (fun c1 => ?_) (fun c1 => ?_)
    · refine fr_bd sm_rf (fr_f_X7_laysTable _ _) (k_sub (by decide)) (fun _ σ7 hσ7 => ?_)
      refine fr_bd hσ7 (fr_f_X7_asking _ _) (k_sub (by decide)) (fun _ σ8 hσ8 => ?_)
      refine fr_ite (fun c2 => ?_) (fun c2 => ?_)
      · refine fr_bd hσ8 (fr_f_X7_pairMany _) (fun _ _ => List.not_mem_nil) (fun r10 σ10 hσ10 => ?_)
        exact fr_to hσ10 (fr_j_X7_byThieves_182 _ _ _ _ _ _ _ _ _ _ _ hk61) (fun _ h => h)
      · refine fr_ite (fun c3 => ?_) (fun c3 => ?_)
        · refine fr_ite (fun c4 => ?_) (fun c4 => ?_)
          · exact fr_to hσ8 (fr_j_X7_byThieves_182 _ _ _ _ _ _ _ _ _ _ _ hk61) (fun _ h => h)
          · exact fr_to hσ8 (fr_j_X7_byThieves_182 _ _ _ _ _ _ _ _ _ _ _ hk61) (fun _ h => h)
        · exact fr_none
    · refine fr_ite (fun c5 => ?_) (fun c5 => ?_)
      · exact fr_to sm_rf (fr_j_X7_byThieves_129 _ _ _ _ _ _ _ _ _ _ _ _ _ hk61 (fun x1 x2 x3 x4 x5 x7 x9 x10 x12 σ => ih x1 x2 x3 x4 x5 x7 x9 x10 x12 σ)) (fun _ h => h)
      · refine fr_ite (fun c6 => ?_) (fun c6 => ?_)
        · exact fr_to sm_rf (fr_j_X7_byThieves_129 _ _ _ _ _ _ _ _ _ _ _ _ _ hk61 (fun x1 x2 x3 x4 x5 x7 x9 x10 x12 σ => ih x1 x2 x3 x4 x5 x7 x9 x10 x12 σ)) (fun _ h => h)
        · exact fr_to sm_rf (fr_j_X7_byThieves_129 _ _ _ _ _ _ _ _ _ _ _ _ _ hk61 (fun x1 x2 x3 x4 x5 x7 x9 x10 x12 σ => ih x1 x2 x3 x4 x5 x7 x9 x10 x12 σ)) (fun _ h => h)
theorem fr_l_X7_byThieves_61  : ∀ (n : Nat) (x1 : Int32) (x2 : Int32) (x3 : Int32) (x4 : Int32) (x5 : Int64) (x7 : Int64) (x9 : Int32) (σ : k_Mem), k_Fr [73, 74, 75] σ (l_X7_byThieves_61  n x1 x2 x3 x4 x5 x7 x9 σ) := by
  intro n
  induction n with
  | zero => intro x1 x2 x3 x4 x5 x7 x9 σ; exact fr_none
  | succ n ih =>
    intro x1 x2 x3 x4 x5 x7 x9 σ
    rw [l_X7_byThieves_61]
    refine fr_ite (fun c1 => ?_) (fun c1 => ?_)
    · refine fr_bd sm_rf (fr_f_X7_lowest _ _ _ _) (fun _ _ => List.not_mem_nil) (fun r4 σ4 hσ4 => ?_)
      exact fr_some hσ4
    · refine fr_ite (fun c2 => ?_) (fun c2 => ?_)
      · exact fr_to sm_rf (fr_l_X7_byThieves_85 _ (fun x1 x2 x3 x4 x5 x7 x9 σ => ih x1 x2 x3 x4 x5 x7 x9 σ) _ _ _ _ _ _ _ _ _ _ _) (fun _ h => h)
      · exact fr_to sm_rf (fr_j_X7_byThieves_187 _ _ _ _ _ _ _ _ _ (fun x1 x2 x3 x4 x5 x7 x9 σ => ih x1 x2 x3 x4 x5 x7 x9 σ)) (fun _ h => h)
theorem fr_j_X7_byThieves_49 (k22 : Int32 → Int32 → Int32 → Int32 → Int64 → Int64 → Int32 → k_Mem → Option (Int64 × k_Mem)) (x1 : Int32) (x2 : Int32) (x3 : Int32) (x4 : Int32) (x5 : Int64) (x9 : Int32) (xs0 : Int64) (xs1 : Int64) (σ : k_Mem) (hk22 : ∀ (a0 : Int32) (a1 : Int32) (a2 : Int32) (a3 : Int32) (a4 : Int64) (a5 : Int64) (a6 : Int32) (a7 : k_Mem), k_Fr [73, 74, 75] a7 (k22 a0 a1 a2 a3 a4 a5 a6 a7)) : k_Fr [73, 74, 75] σ (j_X7_byThieves_49 k22 x1 x2 x3 x4 x5 x9 xs0 xs1 σ) := by
  unfold j_X7_byThieves_49
  exact fr_to sm_rf (hk22 _ _ _ _ _ _ _ _) (fun _ h => h)
theorem fr_l_X7_byThieves_22  : ∀ (n : Nat) (x1 : Int32) (x2 : Int32) (x3 : Int32) (x4 : Int32) (x5 : Int64) (x7 : Int64) (x9 : Int32) (σ : k_Mem), k_Fr [73, 74, 75] σ (l_X7_byThieves_22  n x1 x2 x3 x4 x5 x7 x9 σ) := by
  intro n
  induction n with
  | zero => intro x1 x2 x3 x4 x5 x7 x9 σ; exact fr_none
  | succ n ih =>
    intro x1 x2 x3 x4 x5 x7 x9 σ
    rw [l_X7_byThieves_22]
    refine fr_ite (fun c1 => ?_) (fun c1 => ?_)
    · exact fr_to sm_rf (fr_l_X7_byThieves_61   _ _ _ _ _ _ _ _ _) (fun _ h => h)
    · refine fr_ite (fun c2 => ?_) (fun c2 => ?_)
      · exact fr_to sm_rf (fr_j_X7_byThieves_49 _ _ _ _ _ _ _ _ _ _ (fun x1 x2 x3 x4 x5 x7 x9 σ => ih x1 x2 x3 x4 x5 x7 x9 σ)) (fun _ h => h)
      · exact fr_to sm_rf (fr_j_X7_byThieves_49 _ _ _ _ _ _ _ _ _ _ (fun x1 x2 x3 x4 x5 x7 x9 σ => ih x1 x2 x3 x4 x5 x7 x9 σ)) (fun _ h => h)
theorem fr_f_X7_byThieves (x1 : Int32) (x2 : Int32) (x3 : Int32) (σ : k_Mem) : k_Fr [73, 74, 75] σ (f_X7_byThieves x1 x2 x3 σ) := by
  unfold f_X7_byThieves
  refine fr_bd sm_rf (fr_f_X7_handsOf _ _ _) (fun _ _ => List.not_mem_nil) (fun r1 σ1 hσ1 => ?_)
  exact fr_to hσ1 (fr_l_X7_byThieves_22   _ _ _ _ _ _ _ _ _) (fun _ h => h)
theorem fr_f_X7_mean (x1 : Int32) (x2 : Int32) (σ : k_Mem) : k_Fr [73, 74, 75] σ (f_X7_mean x1 x2 σ) := by
  unfold f_X7_mean
  refine fr_bd sm_rf (fr_f_X7_in _ _ _ _) (fun _ _ => List.not_mem_nil) (fun r1 σ1 hσ1 => ?_)
  refine fr_ite (fun c1 => ?_) (fun c1 => ?_)
  · exact fr_some hσ1
  · refine fr_bd hσ1 (fr_f_X7_in _ _ _ _) (fun _ _ => List.not_mem_nil) (fun r3 σ3 hσ3 => ?_)
    refine fr_ite (fun c2 => ?_) (fun c2 => ?_)
    · exact fr_some hσ3
    · refine fr_bd hσ3 (fr_f_X7_byThieves _ _ _ _) (fun _ h => h) (fun r5 σ5 hσ5 => ?_)
      exact fr_some hσ5
theorem fr_f_X7_luck (x1 : Int32) (x2 : Int32) (x3 : Int32) (σ : k_Mem) : k_Fr [73, 74, 75] σ (f_X7_luck x1 x2 x3 σ) := by
  unfold f_X7_luck
  refine fr_bd sm_rf (fr_f_X7_in _ _ _ _) (fun _ _ => List.not_mem_nil) (fun r1 σ1 hσ1 => ?_)
  refine fr_ite (fun c1 => ?_) (fun c1 => ?_)
  · exact fr_some hσ1
  · refine fr_bd hσ1 (fr_f_X7_isHand _ _) (fun _ _ => List.not_mem_nil) (fun r3 σ3 hσ3 => ?_)
    refine fr_ite (fun c2 => ?_) (fun c2 => ?_)
    · exact fr_some hσ3
    · refine fr_bd hσ3 (fr_f_X7_in _ _ _ _) (fun _ _ => List.not_mem_nil) (fun r5 σ5 hσ5 => ?_)
      refine fr_ite (fun c3 => ?_) (fun c3 => ?_)
      · exact fr_some hσ5
      · refine fr_bd hσ5 (fr_f_X7_byThieves _ _ _ _) (fun _ h => h) (fun r7 σ7 hσ7 => ?_)
        exact fr_some hσ7
theorem fr_f_X7_see (x1 : Int32) (x2 : Int32) (x3 : Int32) (σ : k_Mem) : k_Fr [67, 77] σ (f_X7_see x1 x2 x3 σ) := by
  unfold f_X7_see
  refine fr_bd sm_rf (fr_f_X7_isHand _ _) (fun _ _ => List.not_mem_nil) (fun r1 σ1 hσ1 => ?_)
  refine fr_ite (fun c1 => ?_) (fun c1 => ?_)
  · exact fr_some hσ1
  · refine fr_bd hσ1 (fr_f_X7_in _ _ _ _) (fun _ _ => List.not_mem_nil) (fun r3 σ3 hσ3 => ?_)
    refine fr_ite (fun c2 => ?_) (fun c2 => ?_)
    · exact fr_some hσ3
    · refine fr_bd hσ3 (fr_f_X7_in _ _ _ _) (fun _ _ => List.not_mem_nil) (fun r5 σ5 hσ5 => ?_)
      refine fr_ite (fun c3 => ?_) (fun c3 => ?_)
      · exact fr_some hσ5
      · refine fr_ite (fun c4 => ?_) (fun c4 => ?_)
        · exact fr_some hσ5
        · refine fr_ite (fun c5 => ?_) (fun c5 => ?_)
          · refine fr_ite (fun c6 => ?_) (fun c6 => ?_)
            · refine fr_ite (fun c7 => ?_) (fun c7 => ?_)
              · refine fr_ct ?_
                exact fr_some (sm_set (by decide) (sm_set (by decide) (sm_set (by decide) (sm_set (by decide) hσ5))))
              · exact fr_none
            · exact fr_none
          · exact fr_none
theorem fr_f_X7_forget (x1 : Int32) (σ : k_Mem) : k_Fr [67] σ (f_X7_forget x1 σ) := by
  unfold f_X7_forget
  refine fr_bd sm_rf (fr_f_X7_in _ _ _ _) (fun _ _ => List.not_mem_nil) (fun r1 σ1 hσ1 => ?_)
  refine fr_ite (fun c1 => ?_) (fun c1 => ?_)
  · exact fr_some hσ1
  · exact fr_some (sm_set (by decide) hσ1)
theorem fr_j_X7_pensFor_170 (k15 : Int32 → Int32 → Int32 → Int32 → k_Mem → Option (Int32 × k_Mem)) (x1 : Int32) (x2 : Int32) (x3 : Int32) (x4 : Int32) (σ : k_Mem) (hk15 : ∀ (a0 : Int32) (a1 : Int32) (a2 : Int32) (a3 : Int32) (a4 : k_Mem), k_Fr [68, 78] a4 (k15 a0 a1 a2 a3 a4)) : k_Fr [68, 78] σ (j_X7_pensFor_170 k15 x1 x2 x3 x4 σ) := by
  unfold j_X7_pensFor_170
  exact fr_to sm_rf (hk15 _ _ _ _ _) (fun _ h => h)
theorem fr_j_X7_pensFor_168 (k15 : Int32 → Int32 → Int32 → Int32 → k_Mem → Option (Int32 × k_Mem)) (x1 : Int32) (x3 : Int32) (x4 : Int32) (xs0 : Int32) (xs1 : Int32) (σ : k_Mem) (hk15 : ∀ (a0 : Int32) (a1 : Int32) (a2 : Int32) (a3 : Int32) (a4 : k_Mem), k_Fr [68, 78] a4 (k15 a0 a1 a2 a3 a4)) : k_Fr [68, 78] σ (j_X7_pensFor_168 k15 x1 x3 x4 xs0 xs1 σ) := by
  unfold j_X7_pensFor_168
  exact fr_to sm_rf (fr_j_X7_pensFor_170 _ _ _ _ _ _ hk15) (fun _ h => h)
theorem fr_l_X7_pensFor_123 (k15 : Int32 → Int32 → Int32 → Int32 → k_Mem → Option (Int32 × k_Mem)) (hk15 : ∀ (a0 : Int32) (a1 : Int32) (a2 : Int32) (a3 : Int32) (a4 : k_Mem), k_Fr [68, 78] a4 (k15 a0 a1 a2 a3 a4)) : ∀ (n : Nat) (x1 : Int32) (x2 : Int32) (x3 : Int32) (x4 : Int32) (x5 : Int32) (x6 : Int32) (σ : k_Mem), k_Fr [68, 78] σ (l_X7_pensFor_123 k15 n x1 x2 x3 x4 x5 x6 σ) := by
  intro n
  induction n with
  | zero => intro x1 x2 x3 x4 x5 x6 σ; exact fr_none
  | succ n ih =>
    intro x1 x2 x3 x4 x5 x6 σ
    rw [l_X7_pensFor_123]
    refine fr_ite (fun c1 => ?_) (fun c1 => ?_)
    · refine fr_ite (fun c2 => ?_) (fun c2 => ?_)
      · exact fr_to sm_rf (fr_j_X7_pensFor_168 _ _ _ _ _ _ _ hk15) (fun _ h => h)
      · exact fr_to sm_rf (fr_j_X7_pensFor_168 _ _ _ _ _ _ _ hk15) (fun _ h => h)
    · refine fr_bd sm_rf (fr_f_X7_shows _ _ _) (fun _ _ => List.not_mem_nil) (fun r7 σ7 hσ7 => ?_)
      refine fr_ite (fun c3 => ?_) (fun c3 => ?_)
      · exact fr_to (sm_set (by decide) hσ7) (ih _ _ _ _ _ _ _) (fun _ h => h)
      · exact fr_none
theorem fr_j_X7_pensFor_112 (k15 : Int32 → Int32 → Int32 → Int32 → k_Mem → Option (Int32 × k_Mem)) (k50 : Int32 → Int32 → Int32 → Int32 → Int32 → Int32 → k_Mem → Option (Int32 × k_Mem)) (x1 : Int32) (x2 : Int32) (x3 : Int32) (x4 : Int32) (x6 : Int32) (xs0 : Int32) (σ : k_Mem) (hk15 : ∀ (a0 : Int32) (a1 : Int32) (a2 : Int32) (a3 : Int32) (a4 : k_Mem), k_Fr [68, 78] a4 (k15 a0 a1 a2 a3 a4)) (hk50 : ∀ (a0 : Int32) (a1 : Int32) (a2 : Int32) (a3 : Int32) (a4 : Int32) (a5 : Int32) (a6 : k_Mem), k_Fr [68, 78] a6 (k50 a0 a1 a2 a3 a4 a5 a6)) : k_Fr [68, 78] σ (j_X7_pensFor_112 k15 k50 x1 x2 x3 x4 x6 xs0 σ) := by
  unfold j_X7_pensFor_112
  exact fr_to sm_rf (hk50 _ _ _ _ _ _ _) (fun _ h => h)
theorem fr_j_X7_pensFor_111 (k15 : Int32 → Int32 → Int32 → Int32 → k_Mem → Option (Int32 × k_Mem)) (k50 : Int32 → Int32 → Int32 → Int32 → Int32 → Int32 → k_Mem → Option (Int32 × k_Mem)) (x1 : Int32) (x2 : Int32) (x3 : Int32) (x4 : Int32) (x6 : Int32) (σ : k_Mem) (hk15 : ∀ (a0 : Int32) (a1 : Int32) (a2 : Int32) (a3 : Int32) (a4 : k_Mem), k_Fr [68, 78] a4 (k15 a0 a1 a2 a3 a4)) (hk50 : ∀ (a0 : Int32) (a1 : Int32) (a2 : Int32) (a3 : Int32) (a4 : Int32) (a5 : Int32) (a6 : k_Mem), k_Fr [68, 78] a6 (k50 a0 a1 a2 a3 a4 a5 a6)) : k_Fr [68, 78] σ (j_X7_pensFor_111 k15 k50 x1 x2 x3 x4 x6 σ) := by
  unfold j_X7_pensFor_111
  exact fr_to sm_rf (fr_j_X7_pensFor_112 _ _ _ _ _ _ _ _ _ hk15 hk50) (fun _ h => h)
theorem fr_j_X7_pensFor_107 (k15 : Int32 → Int32 → Int32 → Int32 → k_Mem → Option (Int32 × k_Mem)) (k50 : Int32 → Int32 → Int32 → Int32 → Int32 → Int32 → k_Mem → Option (Int32 × k_Mem)) (x1 : Int32) (x2 : Int32) (x3 : Int32) (x4 : Int32) (x6 : Int32) (σ : k_Mem) (hk15 : ∀ (a0 : Int32) (a1 : Int32) (a2 : Int32) (a3 : Int32) (a4 : k_Mem), k_Fr [68, 78] a4 (k15 a0 a1 a2 a3 a4)) (hk50 : ∀ (a0 : Int32) (a1 : Int32) (a2 : Int32) (a3 : Int32) (a4 : Int32) (a5 : Int32) (a6 : k_Mem), k_Fr [68, 78] a6 (k50 a0 a1 a2 a3 a4 a5 a6)) : k_Fr [68, 78] σ (j_X7_pensFor_107 k15 k50 x1 x2 x3 x4 x6 σ) := by
  unfold j_X7_pensFor_107
  exact fr_to sm_rf (fr_j_X7_pensFor_112 _ _ _ _ _ _ _ _ _ hk15 hk50) (fun _ h => h)
theorem fr_l_X7_pensFor_50 (k15 : Int32 → Int32 → Int32 → Int32 → k_Mem → Option (Int32 × k_Mem)) (hk15 : ∀ (a0 : Int32) (a1 : Int32) (a2 : Int32) (a3 : Int32) (a4 : k_Mem), k_Fr [68, 78] a4 (k15 a0 a1 a2 a3 a4)) : ∀ (n : Nat) (x1 : Int32) (x2 : Int32) (x3 : Int32) (x4 : Int32) (x5 : Int32) (x6 : Int32) (σ : k_Mem), k_Fr [68, 78] σ (l_X7_pensFor_50 k15 n x1 x2 x3 x4 x5 x6 σ) := by
  intro n
  induction n with
  | zero => intro x1 x2 x3 x4 x5 x6 σ; exact fr_none
  | succ n ih =>
    intro x1 x2 x3 x4 x5 x6 σ
    rw [l_X7_pensFor_50]
    refine fr_ite (fun c1 => ?_) (fun c1 => ?_)
    · exact fr_to sm_rf (fr_l_X7_pensFor_123 _ hk15 _ _ _ _ _ _ _ _) (fun _ h => h)
    · refine fr_ite (fun c2 => ?_) (fun c2 => ?_)
      · exact fr_to sm_rf (fr_j_X7_pensFor_111 _ _ _ _ _ _ _ _ hk15 (fun x1 x2 x3 x4 x5 x6 σ => ih x1 x2 x3 x4 x5 x6 σ)) (fun _ h => h)
      · refine fr_ite (fun c3 => ?_) (fun c3 => ?_)
        · refine fr_ite (fun c4 => ?_) (fun c4 => ?_)
          · refine fr_ite (fun c5 => ?_) (fun c5 => ?_)
            · refine fr_bd sm_rf (fr_f_X7_shows _ _ _) (fun _ _ => List.not_mem_nil) (fun r10 σ10 hσ10 => ?_)
              refine fr_ite (fun c6 => ?_) (fun c6 => ?_)
              · refine fr_ite (fun c7 => ?_) (fun c7 => ?_)
                · exact fr_to hσ10 (fr_j_X7_pensFor_107 _ _ _ _ _ _ _ _ hk15 (fun x1 x2 x3 x4 x5 x6 σ => ih x1 x2 x3 x4 x5 x6 σ)) (fun _ h => h)
                · exact fr_to hσ10 (fr_j_X7_pensFor_111 _ _ _ _ _ _ _ _ hk15 (fun x1 x2 x3 x4 x5 x6 σ => ih x1 x2 x3 x4 x5 x6 σ)) (fun _ h => h)
              · exact fr_none
            · exact fr_none
          · exact fr_to sm_rf (fr_j_X7_pensFor_107 _ _ _ _ _ _ _ _ hk15 (fun x1 x2 x3 x4 x5 x6 σ => ih x1 x2 x3 x4 x5 x6 σ)) (fun _ h => h)
        · exact fr_none
theorem fr_l_X7_pensFor_15  : ∀ (n : Nat) (x1 : Int32) (x2 : Int32) (x3 : Int32) (x4 : Int32) (σ : k_Mem), k_Fr [68, 78] σ (l_X7_pensFor_15  n x1 x2 x3 x4 σ) := by
  intro n
  induction n with
  | zero => intro x1 x2 x3 x4 σ; exact fr_none
  | succ n ih =>
    intro x1 x2 x3 x4 σ
    rw [l_X7_pensFor_15]
    refine fr_ite (fun c1 => ?_) (fun c1 => ?_)
    · refine fr_ite (fun c2 => ?_) (fun c2 => ?_)
      · exact fr_some (sm_set (by decide) sm_rf)
      · exact fr_none
    · refine fr_bd sm_rf (fr_f_X7_isHand _ _) (fun _ _ => List.not_mem_nil) (fun r2 σ2 hσ2 => ?_)
      refine fr_ite (fun c3 => ?_) (fun c3 => ?_)
      · exact fr_to hσ2 (fr_j_X7_pensFor_170 _ _ _ _ _ _ (fun x1 x2 x3 x4 σ => ih x1 x2 x3 x4 σ)) (fun _ h => h)
      · refine fr_ite (fun c4 => ?_) (fun c4 => ?_)
        · exact fr_to (sm_set (by decide) hσ2) (fr_l_X7_pensFor_50 _ (fun x1 x2 x3 x4 σ => ih x1 x2 x3 x4 σ) _ _ _ _ _ _ _ _) (fun _ h => h)
        · exact fr_none
theorem fr_f_X7_pensFor (x1 : Int32) (σ : k_Mem) : k_Fr [68, 78] σ (f_X7_pensFor x1 σ) := by
  unfold f_X7_pensFor
  refine fr_ite (fun c1 => ?_) (fun c1 => ?_)
  · exact fr_to sm_rf (fr_l_X7_pensFor_15   _ _ _ _ _ _) (fun _ h => h)
  · exact fr_none
theorem fr_f_X7_fits (x1 : Int32) (σ : k_Mem) : k_Fr [68, 78] σ (f_X7_fits x1 σ) := by
  unfold f_X7_fits
  refine fr_bd sm_rf (fr_f_X7_isHand _ _) (fun _ _ => List.not_mem_nil) (fun r1 σ1 hσ1 => ?_)
  refine fr_ite (fun c1 => ?_) (fun c1 => ?_)
  · exact fr_some hσ1
  · refine fr_bd hσ1 (fr_f_X7_pensFor _ _) (fun _ h => h) (fun r3 σ3 hσ3 => ?_)
    exact fr_some hσ3
theorem fr_j_X7_look_186 (k39 : Int32 → Int32 → Int32 → Int32 → Int32 → k_Mem → Option (Int32 × k_Mem)) (x2 : Int32) (x3 : Int32) (x5 : Int32) (x6 : Int32) (xs0 : Int32) (σ : k_Mem) (hk39 : ∀ (a0 : Int32) (a1 : Int32) (a2 : Int32) (a3 : Int32) (a4 : Int32) (a5 : k_Mem), k_Fr [68, 78] a5 (k39 a0 a1 a2 a3 a4 a5)) : k_Fr [68, 78] σ (j_X7_look_186 k39 x2 x3 x5 x6 xs0 σ) := by
  unfold j_X7_look_186
  exact fr_to sm_rf (hk39 _ _ _ _ _ _) (fun _ h => h)
theorem fr_j_X7_look_170 (k39 : Int32 → Int32 → Int32 → Int32 → Int32 → k_Mem → Option (Int32 × k_Mem)) (x2 : Int32) (x3 : Int32) (x4 : Int32) (x6 : Int32) (x7 : Int32) (xs0 : Int32) (σ : k_Mem) (hk39 : ∀ (a0 : Int32) (a1 : Int32) (a2 : Int32) (a3 : Int32) (a4 : Int32) (a5 : k_Mem), k_Fr [68, 78] a5 (k39 a0 a1 a2 a3 a4 a5)) : k_Fr [68, 78] σ (j_X7_look_170 k39 x2 x3 x4 x6 x7 xs0 σ) := by
  unfold j_X7_look_170
  refine fr_ite (fun c1 => ?_) (fun c1 => ?_)
  · exact fr_to sm_rf (fr_j_X7_look_186 _ _ _ _ _ _ _ hk39) (fun _ h => h)
  · exact fr_to sm_rf (fr_j_X7_look_186 _ _ _ _ _ _ _ hk39) (fun _ h => h)
theorem fr_j_X7_look_148 (k39 : Int32 → Int32 → Int32 → Int32 → Int32 → k_Mem → Option (Int32 × k_Mem)) (k51 : Int32 → Int32 → Int32 → Int32 → Int32 → Int32 → Int32 → k_Mem → Option (Int32 × k_Mem)) (x2 : Int32) (x3 : Int32) (x4 : Int32) (x5 : Int32) (x6 : Int32) (x8 : Int32) (xs0 : Int32) (σ : k_Mem) (hk39 : ∀ (a0 : Int32) (a1 : Int32) (a2 : Int32) (a3 : Int32) (a4 : Int32) (a5 : k_Mem), k_Fr [68, 78] a5 (k39 a0 a1 a2 a3 a4 a5)) (hk51 : ∀ (a0 : Int32) (a1 : Int32) (a2 : Int32) (a3 : Int32) (a4 : Int32) (a5 : Int32) (a6 : Int32) (a7 : k_Mem), k_Fr [68, 78] a7 (k51 a0 a1 a2 a3 a4 a5 a6 a7)) : k_Fr [68, 78] σ (j_X7_look_148 k39 k51 x2 x3 x4 x5 x6 x8 xs0 σ) := by
  unfold j_X7_look_148
  exact fr_to sm_rf (hk51 _ _ _ _ _ _ _ _) (fun _ h => h)
theorem fr_j_X7_look_134 (k39 : Int32 → Int32 → Int32 → Int32 → Int32 → k_Mem → Option (Int32 × k_Mem)) (k51 : Int32 → Int32 → Int32 → Int32 → Int32 → Int32 → Int32 → k_Mem → Option (Int32 × k_Mem)) (x2 : Int32) (x3 : Int32) (x4 : Int32) (x5 : Int32) (x6 : Int32) (x7 : Int32) (x8 : Int32) (x9 : Int32) (σ : k_Mem) (hk39 : ∀ (a0 : Int32) (a1 : Int32) (a2 : Int32) (a3 : Int32) (a4 : Int32) (a5 : k_Mem), k_Fr [68, 78] a5 (k39 a0 a1 a2 a3 a4 a5)) (hk51 : ∀ (a0 : Int32) (a1 : Int32) (a2 : Int32) (a3 : Int32) (a4 : Int32) (a5 : Int32) (a6 : Int32) (a7 : k_Mem), k_Fr [68, 78] a7 (k51 a0 a1 a2 a3 a4 a5 a6 a7)) : k_Fr [68, 78] σ (j_X7_look_134 k39 k51 x2 x3 x4 x5 x6 x7 x8 x9 σ) := by
  unfold j_X7_look_134
  refine fr_ite (fun c1 => ?_) (fun c1 => ?_)
  · exact fr_to sm_rf (fr_j_X7_look_148 _ _ _ _ _ _ _ _ _ _ hk39 hk51) (fun _ h => h)
  · exact fr_to sm_rf (fr_j_X7_look_148 _ _ _ _ _ _ _ _ _ _ hk39 hk51) (fun _ h => h)
theorem fr_j_X7_look_125 (k39 : Int32 → Int32 → Int32 → Int32 → Int32 → k_Mem → Option (Int32 × k_Mem)) (k51 : Int32 → Int32 → Int32 → Int32 → Int32 → Int32 → Int32 → k_Mem → Option (Int32 × k_Mem)) (k64 : Int32 → Int32 → Int32 → Int32 → Int32 → Int32 → Int32 → Int32 → Int32 → k_Mem → Option (Int32 × k_Mem)) (x2 : Int32) (x3 : Int32) (x4 : Int32) (x5 : Int32) (x6 : Int32) (x7 : Int32) (x8 : Int32) (x10 : Int32) (xs0 : Int32) (xs1 : Int32) (σ : k_Mem) (hk39 : ∀ (a0 : Int32) (a1 : Int32) (a2 : Int32) (a3 : Int32) (a4 : Int32) (a5 : k_Mem), k_Fr [68, 78] a5 (k39 a0 a1 a2 a3 a4 a5)) (hk51 : ∀ (a0 : Int32) (a1 : Int32) (a2 : Int32) (a3 : Int32) (a4 : Int32) (a5 : Int32) (a6 : Int32) (a7 : k_Mem), k_Fr [68, 78] a7 (k51 a0 a1 a2 a3 a4 a5 a6 a7)) (hk64 : ∀ (a0 : Int32) (a1 : Int32) (a2 : Int32) (a3 : Int32) (a4 : Int32) (a5 : Int32) (a6 : Int32) (a7 : Int32) (a8 : Int32) (a9 : k_Mem), k_Fr [68, 78] a9 (k64 a0 a1 a2 a3 a4 a5 a6 a7 a8 a9)) : k_Fr [68, 78] σ (j_X7_look_125 k39 k51 k64 x2 x3 x4 x5 x6 x7 x8 x10 xs0 xs1 σ) := by
  unfold j_X7_look_125
  exact fr_to sm_rf (hk64 _ _ _ _ _ _ _ _ _ _) (fun _ h => h)
theorem fr_j_X7_look_124 (k39 : Int32 → Int32 → Int32 → Int32 → Int32 → k_Mem → Option (Int32 × k_Mem)) (k51 : Int32 → Int32 → Int32 → Int32 → Int32 → Int32 → Int32 → k_Mem → Option (Int32 × k_Mem)) (k64 : Int32 → Int32 → Int32 → Int32 → Int32 → Int32 → Int32 → Int32 → Int32 → k_Mem → Option (Int32 × k_Mem)) (x2 : Int32) (x3 : Int32) (x4 : Int32) (x5 : Int32) (x6 : Int32) (x7 : Int32) (x8 : Int32) (x10 : Int32) (xs0 : Int32) (σ : k_Mem) (hk39 : ∀ (a0 : Int32) (a1 : Int32) (a2 : Int32) (a3 : Int32) (a4 : Int32) (a5 : k_Mem), k_Fr [68, 78] a5 (k39 a0 a1 a2 a3 a4 a5)) (hk51 : ∀ (a0 : Int32) (a1 : Int32) (a2 : Int32) (a3 : Int32) (a4 : Int32) (a5 : Int32) (a6 : Int32) (a7 : k_Mem), k_Fr [68, 78] a7 (k51 a0 a1 a2 a3 a4 a5 a6 a7)) (hk64 : ∀ (a0 : Int32) (a1 : Int32) (a2 : Int32) (a3 : Int32) (a4 : Int32) (a5 : Int32) (a6 : Int32) (a7 : Int32) (a8 : Int32) (a9 : k_Mem), k_Fr [68, 78] a9 (k64 a0 a1 a2 a3 a4 a5 a6 a7 a8 a9)) : k_Fr [68, 78] σ (j_X7_look_124 k39 k51 k64 x2 x3 x4 x5 x6 x7 x8 x10 xs0 σ) := by
  unfold j_X7_look_124
  exact fr_to sm_rf (fr_j_X7_look_125 _ _ _ _ _ _ _ _ _ _ _ _ _ _ hk39 hk51 hk64) (fun _ h => h)
theorem fr_l_X7_look_64 (k39 : Int32 → Int32 → Int32 → Int32 → Int32 → k_Mem → Option (Int32 × k_Mem)) (k51 : Int32 → Int32 → Int32 → Int32 → Int32 → Int32 → Int32 → k_Mem → Option (Int32 × k_Mem)) (hk39 : ∀ (a0 : Int32) (a1 : Int32) (a2 : Int32) (a3 : Int32) (a4 : Int32) (a5 : k_Mem), k_Fr [68, 78] a5 (k39 a0 a1 a2 a3 a4 a5)) (hk51 : ∀ (a0 : Int32) (a1 : Int32) (a2 : Int32) (a3 : Int32) (a4 : Int32) (a5 : Int32) (a6 : Int32) (a7 : k_Mem), k_Fr [68, 78] a7 (k51 a0 a1 a2 a3 a4 a5 a6 a7)) : ∀ (n : Nat) (x2 : Int32) (x3 : Int32) (x4 : Int32) (x5 : Int32) (x6 : Int32) (x7 : Int32) (x8 : Int32) (x9 : Int32) (x10 : Int32) (σ : k_Mem), k_Fr [68, 78] σ (l_X7_look_64 k39 k51 n x2 x3 x4 x5 x6 x7 x8 x9 x10 σ) := by
  intro n
  induction n with
  | zero => intro x2 x3 x4 x5 x6 x7 x8 x9 x10 σ; exact fr_none
  | succ n ih =>
    intro x2 x3 x4 x5 x6 x7 x8 x9 x10 σ
    rw [l_X7_look_64]
    refine fr_ite (fun c1 => ?_) (fun c1 => ?_)
    · exact fr_to sm_rf (fr_j_X7_look_134 _ _ _ _ _ _ _ _ _ _ _ hk39 hk51) (fun _ h => h)
    · refine fr_ite (fun c2 => ?_) (fun c2 => ?_)
      · refine fr_ite (fun c3 => ?_) (fun c3 => ?_)
        · refine fr_ite (fun c4 => ?_) (fun c4 => ?_)
          · refine fr_ite (fun c5 => ?_) (fun c5 => ?_)
            · refine fr_ite (fun c6 => ?_) (fun c6 => ?_)
              · exact fr_to sm_rf (fr_j_X7_look_125 _ _ _ _ _ _ _ _ _ _ _ _ _ _ hk39 hk51 (fun x2 x3 x4 x5 x6 x7 x8 x9 x10 σ => ih x2 x3 x4 x5 x6 x7 x8 x9 x10 σ)) (fun _ h => h)
              · exact fr_to sm_rf (fr_j_X7_look_124 _ _ _ _ _ _ _ _ _ _ _ _ _ hk39 hk51 (fun x2 x3 x4 x5 x6 x7 x8 x9 x10 σ => ih x2 x3 x4 x5 x6 x7 x8 x9 x10 σ)) (fun _ h => h)
            · exact fr_none
          · exact fr_none
        · exact fr_to sm_rf (fr_j_X7_look_124 _ _ _ _ _ _ _ _ _ _ _ _ _ hk39 hk51 (fun x2 x3 x4 x5 x6 x7 x8 x9 x10 σ => ih x2 x3 x4 x5 x6 x7 x8 x9 x10 σ)) (fun _ h => h)
      · exact fr_to sm_rf (fr_j_X7_look_134 _ _ _ _ _ _ _ _ _ _ _ hk39 hk51) (fun _ h => h)
theorem fr_l_X7_look_51 (k39 : Int32 → Int32 → Int32 → Int32 → Int32 → k_Mem → Option (Int32 × k_Mem)) (hk39 : ∀ (a0 : Int32) (a1 : Int32) (a2 : Int32) (a3 : Int32) (a4 : Int32) (a5 : k_Mem), k_Fr [68, 78] a5 (k39 a0 a1 a2 a3 a4 a5)) : ∀ (n : Nat) (x2 : Int32) (x3 : Int32) (x4 : Int32) (x5 : Int32) (x6 : Int32) (x7 : Int32) (x8 : Int32) (σ : k_Mem), k_Fr [68, 78] σ (l_X7_look_51 k39 n x2 x3 x4 x5 x6 x7 x8 σ) := by
  intro n
  induction n with
  | zero => intro x2 x3 x4 x5 x6 x7 x8 σ; exact fr_none
  | succ n ih =>
    intro x2 x3 x4 x5 x6 x7 x8 σ
    rw [l_X7_look_51]
    refine fr_ite (fun c1 => ?_) (fun c1 => ?_)
    · refine fr_ite (fun c2 => ?_) (fun c2 => ?_)
      · exact fr_to sm_rf (fr_j_X7_look_170 _ _ _ _ _ _ _ _ hk39) (fun _ h => h)
      · exact fr_to sm_rf (fr_j_X7_look_170 _ _ _ _ _ _ _ _ hk39) (fun _ h => h)
    · exact fr_to sm_rf (fr_l_X7_look_64 _ _ hk39 (fun x2 x3 x4 x5 x6 x7 x8 σ => ih x2 x3 x4 x5 x6 x7 x8 σ) _ _ _ _ _ _ _ _ _ _ _) (fun _ h => h)
theorem fr_l_X7_look_39  : ∀ (n : Nat) (x2 : Int32) (x3 : Int32) (x4 : Int32) (x5 : Int32) (x6 : Int32) (σ : k_Mem), k_Fr [68, 78] σ (l_X7_look_39  n x2 x3 x4 x5 x6 σ) := by
  intro n
  induction n with
  | zero => intro x2 x3 x4 x5 x6 σ; exact fr_none
  | succ n ih =>
    intro x2 x3 x4 x5 x6 σ
    rw [l_X7_look_39]
    refine fr_ite (fun c1 => ?_) (fun c1 => ?_)
    · refine fr_ite (fun c2 => ?_) (fun c2 => ?_)
      · exact fr_some sm_rf
      · refine fr_ite (fun c3 => ?_) (fun c3 => ?_)
        · exact fr_some sm_rf
        · exact fr_some sm_rf
    · exact fr_to sm_rf (fr_l_X7_look_51 _ (fun x2 x3 x4 x5 x6 σ => ih x2 x3 x4 x5 x6 σ) _ _ _ _ _ _ _ _ _) (fun _ h => h)
theorem fr_f_X7_look (x1 : Int32) (x2 : Int32) (σ : k_Mem) : k_Fr [68, 78] σ (f_X7_look x1 x2 σ) := by
  unfold f_X7_look
  refine fr_bd sm_rf (fr_f_X7_isHand _ _) (fun _ _ => List.not_mem_nil) (fun r1 σ1 hσ1 => ?_)
  refine fr_ite (fun c1 => ?_) (fun c1 => ?_)
  · exact fr_some hσ1
  · refine fr_bd hσ1 (fr_f_X7_in _ _ _ _) (fun _ _ => List.not_mem_nil) (fun r3 σ3 hσ3 => ?_)
    refine fr_ite (fun c2 => ?_) (fun c2 => ?_)
    · exact fr_some hσ3
    · refine fr_bd hσ3 (fr_f_X7_pensFor _ _) (fun _ h => h) (fun r5 σ5 hσ5 => ?_)
      refine fr_bd hσ5 (fr_f_X7_bitsOf _ _) (fun _ _ => List.not_mem_nil) (fun r6 σ6 hσ6 => ?_)
      exact fr_to hσ6 (fr_l_X7_look_39   _ _ _ _ _ _ _) (fun _ h => h)
theorem fr_f_X7_drawsHand (σ : k_Mem) : k_Fr [67] σ (f_X7_drawsHand σ) := by
  unfold f_X7_drawsHand
  refine fr_ite (fun c1 => ?_) (fun c1 => ?_)
  · exact fr_none
  · refine fr_lt ?_
    refine fr_ite (fun c2 => ?_) (fun c2 => ?_)
    · exact fr_some (sm_set (by decide) sm_rf)
    · exact fr_some (sm_set (by decide) sm_rf)
theorem fr_l_X7_drift_58  : ∀ (n : Nat) (x2 : Int32) (x3 : Int32) (x4 : Int32) (x5 : Int32) (σ : k_Mem), k_Fr [67, 68, 73, 74, 75] σ (l_X7_drift_58  n x2 x3 x4 x5 σ) := by
  intro n
  induction n with
  | zero => intro x2 x3 x4 x5 σ; exact fr_none
  | succ n ih =>
    intro x2 x3 x4 x5 σ
    rw [l_X7_drift_58]
    refine fr_ite (fun c1 => ?_) (fun c1 => ?_)
    · refine fr_bd sm_rf (fr_f_X7_copies _ _ _) (k_sub (by decide)) (fun _ σ8 hσ8 => ?_)
      refine fr_ite (fun c2 => ?_) (fun c2 => ?_)
      · refine fr_bd hσ8 (fr_f_X7_pairMany _) (fun _ _ => List.not_mem_nil) (fun r10 σ10 hσ10 => ?_)
        exact fr_some hσ10
      · exact fr_some hσ8
    · refine fr_bd sm_rf (fr_f_X7_drawsHand _) (k_sub (by decide)) (fun r11 σ11 hσ11 => ?_)
      refine fr_bd hσ11 (fr_f_X7_drawsHand _) (k_sub (by decide)) (fun r12 σ12 hσ12 => ?_)
      refine fr_bd hσ12 (fr_f_X7_pens _ _ _) (k_sub (by decide)) (fun r13 σ13 hσ13 => ?_)
      refine fr_bd hσ13 (fr_f_X7_askingNow _ _) (k_sub (by decide)) (fun _ σ14 hσ14 => ?_)
      refine fr_bd hσ14 (fr_f_X7_likesInAll _) (fun _ _ => List.not_mem_nil) (fun r15 σ15 hσ15 => ?_)
      exact fr_to hσ15 (ih _ _ _ _ _) (fun _ h => h)
theorem fr_f_X7_drift (x1 : Int32) (x2 : Int32) (x3 : Int32) (σ : k_Mem) : k_Fr [67, 68, 73, 74, 75] σ (f_X7_drift x1 x2 x3 σ) := by
  unfold f_X7_drift
  refine fr_bd sm_rf (fr_f_X7_in _ _ _ _) (fun _ _ => List.not_mem_nil) (fun r1 σ1 hσ1 => ?_)
  refine fr_ite (fun c1 => ?_) (fun c1 => ?_)
  · exact fr_some hσ1
  · refine fr_bd hσ1 (fr_f_X7_in _ _ _ _) (fun _ _ => List.not_mem_nil) (fun r3 σ3 hσ3 => ?_)
    refine fr_ite (fun c2 => ?_) (fun c2 => ?_)
    · exact fr_some hσ3
    · refine fr_ite (fun c3 => ?_) (fun c3 => ?_)
      · exact fr_some hσ3
      · refine fr_bd hσ3 (fr_f_X7_copies _ _ _) (k_sub (by decide)) (fun _ σ6 hσ6 => ?_)
        exact fr_to (sm_set (by decide) hσ6) (fr_l_X7_drift_58   _ _ _ _ _ _) (fun _ h => h)
theorem fr_j_X7_keep_37 (x1 : Int32) (xs0 : Int32) (σ : k_Mem) : k_Fr [68, 79] σ (j_X7_keep_37 x1 xs0 σ) := by
  unfold j_X7_keep_37
  refine fr_ite (fun c1 => ?_) (fun c1 => ?_)
  · exact fr_some (sm_set (by decide) sm_rf)
  · exact fr_none
theorem fr_f_X7_keep (x1 : Int32) (σ : k_Mem) : k_Fr [68, 79] σ (f_X7_keep x1 σ) := by
  unfold f_X7_keep
  refine fr_bd sm_rf (fr_f_X7_in _ _ _ _) (fun _ _ => List.not_mem_nil) (fun r1 σ1 hσ1 => ?_)
  refine fr_ite (fun c1 => ?_) (fun c1 => ?_)
  · exact fr_some hσ1
  · refine fr_bd hσ1 (fr_f_X7_copies _ _ _) (k_sub (by decide)) (fun _ σ3 hσ3 => ?_)
    refine fr_ite (fun c2 => ?_) (fun c2 => ?_)
    · refine fr_ite (fun c3 => ?_) (fun c3 => ?_)
      · exact fr_to hσ3 (fr_j_X7_keep_37 _ _ _ ) (fun _ h => h)
      · exact fr_to hσ3 (fr_j_X7_keep_37 _ _ _ ) (fun _ h => h)
    · exact fr_none
theorem fr_f_X7_back (x1 : Int32) (σ : k_Mem) : k_Fr [68] σ (f_X7_back x1 σ) := by
  unfold f_X7_back
  refine fr_bd sm_rf (fr_f_X7_in _ _ _ _) (fun _ _ => List.not_mem_nil) (fun r1 σ1 hσ1 => ?_)
  refine fr_ite (fun c1 => ?_) (fun c1 => ?_)
  · exact fr_some hσ1
  · refine fr_ite (fun c2 => ?_) (fun c2 => ?_)
    · refine fr_ite (fun c3 => ?_) (fun c3 => ?_)
      · exact fr_some hσ1
      · refine fr_bd hσ1 (fr_f_X7_copies _ _ _) (fun _ h => h) (fun _ σ4 hσ4 => ?_)
        refine fr_ite (fun c4 => ?_) (fun c4 => ?_)
        · exact fr_some hσ4
        · exact fr_none
    · exact fr_none
theorem fr_l_X7_sheet_56  : ∀ (n : Nat) (x1 : Int32) (x4 : Int32) (σ : k_Mem), k_Fr [80, 81, 82] σ (l_X7_sheet_56  n x1 x4 σ) := by
  intro n
  induction n with
  | zero => intro x1 x4 σ; exact fr_none
  | succ n ih =>
    intro x1 x4 σ
    rw [l_X7_sheet_56]
    refine fr_ite (fun c1 => ?_) (fun c1 => ?_)
    · exact fr_some sm_rf
    · refine fr_ite (fun c2 => ?_) (fun c2 => ?_)
      · exact fr_to (sm_set (by decide) sm_rf) (ih _ _ _) (fun _ h => h)
      · exact fr_none
theorem fr_f_X7_sheet (x1 : Int32) (x2 : Int32) (x3 : Int32) (σ : k_Mem) : k_Fr [80, 81, 82] σ (f_X7_sheet x1 x2 x3 σ) := by
  unfold f_X7_sheet
  refine fr_bd sm_rf (fr_f_X7_in _ _ _ _) (fun _ _ => List.not_mem_nil) (fun r1 σ1 hσ1 => ?_)
  refine fr_ite (fun c1 => ?_) (fun c1 => ?_)
  · exact fr_some hσ1
  · refine fr_bd hσ1 (fr_f_X7_in _ _ _ _) (fun _ _ => List.not_mem_nil) (fun r3 σ3 hσ3 => ?_)
    refine fr_ite (fun c2 => ?_) (fun c2 => ?_)
    · exact fr_some hσ3
    · refine fr_ite (fun c3 => ?_) (fun c3 => ?_)
      · refine fr_ite (fun c4 => ?_) (fun c4 => ?_)
        · refine fr_ite (fun c5 => ?_) (fun c5 => ?_)
          · refine fr_ite (fun c6 => ?_) (fun c6 => ?_)
            · exact fr_to (sm_set (by decide) (sm_set (by decide) hσ3)) (fr_l_X7_sheet_56   _ _ _ _) (fun _ h => h)
            · exact fr_none
          · exact fr_none
        · exact fr_some hσ3
      · exact fr_some hσ3
theorem fr_j_X7_lay_99 (xs1 : Int32) (xs2 : Int32) (σ : k_Mem) : k_Fr [82] σ (j_X7_lay_99 xs1 xs2 σ) := by
  unfold j_X7_lay_99
  refine fr_ite (fun c1 => ?_) (fun c1 => ?_)
  · exact fr_some (sm_set (by decide) sm_rf)
  · exact fr_none
theorem fr_f_X7_lay (x1 : Int32) (x2 : Int32) (x3 : Int32) (σ : k_Mem) : k_Fr [82] σ (f_X7_lay x1 x2 x3 σ) := by
  unfold f_X7_lay
  refine fr_bd sm_rf (fr_f_X7_in _ _ _ _) (fun _ _ => List.not_mem_nil) (fun r1 σ1 hσ1 => ?_)
  refine fr_ite (fun c1 => ?_) (fun c1 => ?_)
  · exact fr_some hσ1
  · refine fr_ite (fun c2 => ?_) (fun c2 => ?_)
    · refine fr_ite (fun c3 => ?_) (fun c3 => ?_)
      · exact fr_some hσ1
      · refine fr_ite (fun c4 => ?_) (fun c4 => ?_)
        · refine fr_bd hσ1 (fr_f_X7_in _ _ _ _) (fun _ _ => List.not_mem_nil) (fun r4 σ4 hσ4 => ?_)
          refine fr_ite (fun c5 => ?_) (fun c5 => ?_)
          · exact fr_some hσ4
          · refine fr_ite (fun c6 => ?_) (fun c6 => ?_)
            · refine fr_ite (fun c7 => ?_) (fun c7 => ?_)
              · exact fr_to hσ4 (fr_j_X7_lay_99 _ _ _ ) (fun _ h => h)
              · refine fr_ite (fun c8 => ?_) (fun c8 => ?_)
                · refine fr_ite (fun c9 => ?_) (fun c9 => ?_)
                  · exact fr_to hσ4 (fr_j_X7_lay_99 _ _ _ ) (fun _ h => h)
                  · exact fr_to hσ4 (fr_j_X7_lay_99 _ _ _ ) (fun _ h => h)
                · exact fr_none
            · exact fr_none
        · exact fr_none
    · exact fr_none
theorem fr_j_X7_read_198 (x5 : Int32) (x6 : Int32) (σ : k_Mem) : k_Fr [67, 68] σ (j_X7_read_198 x5 x6 σ) := by
  unfold j_X7_read_198
  exact fr_some (sm_set (by decide) sm_rf)
theorem fr_j_X7_read_192 (k56 : Int32 → Int32 → Int32 → Int32 → Int32 → Int32 → Int32 → k_Mem → Option (Int32 × k_Mem)) (x1 : Int32) (x2 : Int32) (x3 : Int32) (x4 : Int32) (x5 : Int32) (x6 : Int32) (x7 : Int32) (σ : k_Mem) (hk56 : ∀ (a0 : Int32) (a1 : Int32) (a2 : Int32) (a3 : Int32) (a4 : Int32) (a5 : Int32) (a6 : Int32) (a7 : k_Mem), k_Fr [67, 68] a7 (k56 a0 a1 a2 a3 a4 a5 a6 a7)) : k_Fr [67, 68] σ (j_X7_read_192 k56 x1 x2 x3 x4 x5 x6 x7 σ) := by
  unfold j_X7_read_192
  exact fr_to sm_rf (hk56 _ _ _ _ _ _ _ _) (fun _ h => h)
theorem fr_j_X7_read_126 (k56 : Int32 → Int32 → Int32 → Int32 → Int32 → Int32 → Int32 → k_Mem → Option (Int32 × k_Mem)) (x1 : Int32) (x2 : Int32) (x3 : Int32) (x4 : Int32) (x6 : Int32) (x7 : Int32) (xs0 : Int32) (σ : k_Mem) (hk56 : ∀ (a0 : Int32) (a1 : Int32) (a2 : Int32) (a3 : Int32) (a4 : Int32) (a5 : Int32) (a6 : Int32) (a7 : k_Mem), k_Fr [67, 68] a7 (k56 a0 a1 a2 a3 a4 a5 a6 a7)) : k_Fr [67, 68] σ (j_X7_read_126 k56 x1 x2 x3 x4 x6 x7 xs0 σ) := by
  unfold j_X7_read_126
  refine fr_ite (fun c1 => ?_) (fun c1 => ?_)
  · refine fr_ite (fun c2 => ?_) (fun c2 => ?_)
    · refine fr_ite (fun c3 => ?_) (fun c3 => ?_)
      · refine fr_ite (fun c4 => ?_) (fun c4 => ?_)
        · refine fr_bd sm_rf (fr_f_X7_pens _ _ _) (k_sub (by decide)) (fun r13 σ13 hσ13 => ?_)
          refine fr_ite (fun c5 => ?_) (fun c5 => ?_)
          · exact fr_to hσ13 (fr_j_X7_read_192 _ _ _ _ _ _ _ _ _ hk56) (fun _ h => h)
          · refine fr_bd hσ13 (fr_f_X7_copies _ _ _) (k_sub (by decide)) (fun _ σ15 hσ15 => ?_)
            exact fr_some hσ15
        · exact fr_none
      · exact fr_none
    · exact fr_to sm_rf (fr_j_X7_read_192 _ _ _ _ _ _ _ _ _ hk56) (fun _ h => h)
  · exact fr_to sm_rf (fr_j_X7_read_192 _ _ _ _ _ _ _ _ _ hk56) (fun _ h => h)
theorem fr_l_X7_read_56  : ∀ (n : Nat) (x1 : Int32) (x2 : Int32) (x3 : Int32) (x4 : Int32) (x5 : Int32) (x6 : Int32) (x7 : Int32) (σ : k_Mem), k_Fr [67, 68] σ (l_X7_read_56  n x1 x2 x3 x4 x5 x6 x7 σ) := by
  intro n
  induction n with
  | zero => intro x1 x2 x3 x4 x5 x6 x7 σ; exact fr_none
  | succ n ih =>
    intro x1 x2 x3 x4 x5 x6 x7 σ
    rw [l_X7_read_56]
    refine fr_ite (fun c1 => ?_) (fun c1 => ?_)
    · exact fr_to sm_rf (fr_j_X7_read_198 _ _ _ ) (fun _ h => h)
    · refine fr_ite (fun c2 => ?_) (fun c2 => ?_)
      · refine fr_ite (fun c3 => ?_) (fun c3 => ?_)
        · refine fr_ite (fun c4 => ?_) (fun c4 => ?_)
          · exact fr_to sm_rf (fr_j_X7_read_126 _ _ _ _ _ _ _ _ _ (fun x1 x2 x3 x4 x5 x6 x7 σ => ih x1 x2 x3 x4 x5 x6 x7 σ)) (fun _ h => h)
          · refine fr_ite (fun c5 => ?_) (fun c5 => ?_)
            · refine fr_ite (fun c6 => ?_) (fun c6 => ?_)
              · refine fr_ite (fun c7 => ?_) (fun c7 => ?_)
                · refine fr_bd sm_rf (fr_f_X7_in _ _ _ _) (fun _ _ => List.not_mem_nil) (fun r17 σ17 hσ17 => ?_)
                  refine fr_ite (fun c8 => ?_) (fun c8 => ?_)
                  · exact fr_to hσ17 (fr_j_X7_read_126 _ _ _ _ _ _ _ _ _ (fun x1 x2 x3 x4 x5 x6 x7 σ => ih x1 x2 x3 x4 x5 x6 x7 σ)) (fun _ h => h)
                  · exact fr_to hσ17 (fr_j_X7_read_126 _ _ _ _ _ _ _ _ _ (fun x1 x2 x3 x4 x5 x6 x7 σ => ih x1 x2 x3 x4 x5 x6 x7 σ)) (fun _ h => h)
                · exact fr_none
              · exact fr_to sm_rf (fr_j_X7_read_126 _ _ _ _ _ _ _ _ _ (fun x1 x2 x3 x4 x5 x6 x7 σ => ih x1 x2 x3 x4 x5 x6 x7 σ)) (fun _ h => h)
            · exact fr_none
        · exact fr_none
      · exact fr_to sm_rf (fr_j_X7_read_198 _ _ _ ) (fun _ h => h)
theorem fr_f_X7_read (x1 : Int32) (x2 : Int32) (x3 : Int32) (x4 : Int32) (σ : k_Mem) : k_Fr [67, 68] σ (f_X7_read x1 x2 x3 x4 σ) := by
  unfold f_X7_read
  refine fr_bd sm_rf (fr_f_X7_in _ _ _ _) (fun _ _ => List.not_mem_nil) (fun r1 σ1 hσ1 => ?_)
  refine fr_ite (fun c1 => ?_) (fun c1 => ?_)
  · exact fr_some hσ1
  · refine fr_bd hσ1 (fr_f_X7_in _ _ _ _) (fun _ _ => List.not_mem_nil) (fun r3 σ3 hσ3 => ?_)
    refine fr_ite (fun c2 => ?_) (fun c2 => ?_)
    · exact fr_some hσ3
    · refine fr_bd hσ3 (fr_f_X7_in _ _ _ _) (fun _ _ => List.not_mem_nil) (fun r5 σ5 hσ5 => ?_)
      refine fr_ite (fun c3 => ?_) (fun c3 => ?_)
      · exact fr_some hσ5
      · refine fr_bd hσ5 (fr_f_X7_copies _ _ _) (k_sub (by decide)) (fun _ σ7 hσ7 => ?_)
        exact fr_to hσ7 (fr_l_X7_read_56   _ _ _ _ _ _ _ _ _) (fun _ h => h)
theorem fr_f_X7_torn (σ : k_Mem) : k_Fr [] σ (f_X7_torn σ) := by
  unfold f_X7_torn
  exact fr_some sm_rf
theorem fr_j_X7_count_87 (xs0 : Int32) (σ : k_Mem) : k_Fr [] σ (j_X7_count_87 xs0 σ) := by
  unfold j_X7_count_87
  refine fr_ite (fun c1 => ?_) (fun c1 => ?_)
  · refine fr_ite (fun c2 => ?_) (fun c2 => ?_)
    · exact fr_some sm_rf
    · exact fr_some sm_rf
  · exact fr_none
theorem fr_l_X7_count_4  : ∀ (n : Nat) (x1 : Int32) (x2 : Int32) (x3 : Int32) (σ : k_Mem), k_Fr [] σ (l_X7_count_4  n x1 x2 x3 σ) := by
  intro n
  induction n with
  | zero => intro x1 x2 x3 σ; exact fr_none
  | succ n ih =>
    intro x1 x2 x3 σ
    rw [l_X7_count_4]
    refine fr_ite (fun c1 => ?_) (fun c1 => ?_)
    · refine fr_ite (fun c2 => ?_) (fun c2 => ?_)
      · exact fr_some sm_rf
      · refine fr_ite (fun c3 => ?_) (fun c3 => ?_)
        · refine fr_ite (fun c4 => ?_) (fun c4 => ?_)
          · refine fr_ite (fun c5 => ?_) (fun c5 => ?_)
            · exact fr_to sm_rf (fr_j_X7_count_87 _ _ ) (fun _ h => h)
            · exact fr_to sm_rf (fr_j_X7_count_87 _ _ ) (fun _ h => h)
          · exact fr_none
        · refine fr_ite (fun c6 => ?_) (fun c6 => ?_)
          · exact fr_some sm_rf
          · refine fr_ite (fun c7 => ?_) (fun c7 => ?_)
            · refine fr_ite (fun c8 => ?_) (fun c8 => ?_)
              · refine fr_ite (fun c9 => ?_) (fun c9 => ?_)
                · exact fr_some sm_rf
                · refine fr_ite (fun c10 => ?_) (fun c10 => ?_)
                  · exact fr_some sm_rf
                  · exact fr_none
              · exact fr_none
            · refine fr_ite (fun c11 => ?_) (fun c11 => ?_)
              · refine fr_bd sm_rf (fr_f_X7_wedOnes _) (fun _ _ => List.not_mem_nil) (fun r10 σ10 hσ10 => ?_)
                refine fr_bd hσ10 (fr_f_X7_bitsOf _ _) (fun _ _ => List.not_mem_nil) (fun r11 σ11 hσ11 => ?_)
                exact fr_some hσ11
              · refine fr_ite (fun c12 => ?_) (fun c12 => ?_)
                · exact fr_some sm_rf
                · exact fr_some sm_rf
    · refine fr_ite (fun c13 => ?_) (fun c13 => ?_)
      · refine fr_bd sm_rf (fr_f_X7_bitsOf _ _) (fun _ _ => List.not_mem_nil) (fun r13 σ13 hσ13 => ?_)
        exact fr_to hσ13 (ih _ _ _ _) (fun _ h => h)
      · exact fr_none
theorem fr_f_X7_count (x1 : Int32) (σ : k_Mem) : k_Fr [] σ (f_X7_count x1 σ) := by
  unfold f_X7_count
  exact fr_to sm_rf (fr_l_X7_count_4   _ _ _ _ _) (fun _ h => h)
