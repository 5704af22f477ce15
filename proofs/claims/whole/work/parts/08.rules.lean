/-! THE RULES: an instruction each; X is what the method does from there on -/
def k_in (i : Int32) (n : Nat) : Bool := !(decide (i < 0)) && decide (i.toNatClampNeg < n)
abbrev k_n (i : Int32) : Nat := i.toNatClampNeg
theorem k_in_iff {i : Int32} {n : Nat} : k_in i n = true ↔ vp_in i n := by
  simp only [k_in, vp_in, Bool.and_eq_true, Bool.not_eq_true', decide_eq_false_iff_not, decide_eq_true_eq, not_or, Nat.not_le]
def k_bd {α β : Type} (Y : Option (α × k_Mem)) (K : α → k_Mem → Option β) : Option β := match Y with
  | none => none
  | some z => K z.1 z.2
theorem k_bd_some {α β : Type} {Y : Option (α × k_Mem)} {K : α → k_Mem → Option β} {b : β} (h : k_bd Y K = some b) : ∃ (r : α) (σ : k_Mem), Y = some (r, σ) ∧ K r σ = some b := by
  cases Y with
  | none => cases h
  | some z => exact ⟨z.1, z.2, rfl, h⟩
def k_ct {β : Type} (s : k_Mem) (K : k_Mem → β) : β := K s
def k_lt {α β : Type} (x : α) (K : α → β) : β := K x
def k_abs (x : Int32) : Int32 := if 0 ≤ x then x else 0 - x
def k_max (x y : Int32) : Int32 := if x < y then y else x
def k_min (x y : Int32) : Int32 := if y < x then y else x
def k_shl (x y : Int32) : Int32 := x <<< (y &&& 31)
def k_shr (x y : Int32) : Int32 := x >>> (y &&& 31)
def k_ushr (x y : Int32) : Int32 := (x.toUInt32 >>> (y.toUInt32 &&& Int32.toUInt32 31)).toInt32
def k_rem (x y : Int32) : Int32 := x - x / y * y
def k_lrem (x y : Int64) : Int64 := x - x / y * y
def k_vi : Int32 → Option Value := fun r => some (.int r)
def k_vl : Int64 → Option Value := fun r => some (.long r)
def k_vv : Unit → Option Value := fun _ => none
def k_vr (E : k_EV) : Nat → Option Value := fun k => some (k_rf E k)
theorem k_good : k_tbl.all goodWord = true := List.all_eq_true.mpr (fun _ h => (List.mem_filter.mp h).2)
/-- the words of a method that is called, of a call, of a field -/
def k_CW (N : k_MI) (n : Nat) : Prop := Cond.code N.1 N.2.1 N.2.2.1 N.2.2.2.1 ∈ k_tbl ∧ Cond.initialized N.1.cls ∈ k_tbl ∧ (N.1.cls ≠ "java/lang/invoke/MethodHandle" ∧ N.1.cls ≠ "java/lang/invoke/VarHandle" ∧ (parseMethodDescriptor N.1.desc).map (fun d => d.parameters.length) = some n)
def k_VW (N : k_MI) : Prop := Cond.instanceMethod N.1 ∈ k_tbl ∧ Cond.selects N.1.cls N.1 N.1 ∈ k_tbl
def k_rk (M N : k_MI) : Bool := decide (N.2.2.2.2 + 1 ≤ M.2.2.2.2) && decide (8 + (N.2.2.1 + 11) + 36 * N.2.2.2.2 ≤ 36 * M.2.2.2.2)
def k_FL (own : String) (idx ci k : Nat) : Prop := ∃ (C : String) (T : u_T) (N : Nat), vwCl[ci]? = some (C, T, N) ∧ k < N ∧ (∀ w ∈ u_ws C T N, w ∈ k_tbl) ∧ Cond.fieldLink own idx (T k).1 (T k).2.1 (T k).2.2.1 ∈ k_tbl
def k_FP (own : String) (idx ci k : Nat) : Prop := ∃ (C : String) (T : u_T) (N : Nat) (ty0 : Nat → FieldType), vwCl[ci]? = some (C, T, N) ∧ k < N ∧ (∀ w ∈ u_ws C T N, w ∈ k_tbl) ∧ Cond.fieldLink own idx (T k).1 (T k).2.1 (T k).2.2.1 ∈ k_tbl ∧ (∀ k, k < N → parseFieldDescriptor (T k).2.2.1 = some (ty0 k)) ∧ (∀ a, a < N → ∀ b, b < N → a ≠ b → (T a).2.1 ≠ (T b).2.1) ∧ (T k).2.2.2 = false ∧ parseFieldDescriptor (T k).2.2.1 = some .int
section RULES
variable {ρ : Type} {M : k_MI} {E : k_EV} {em : ρ → Option Value} {pc : Nat} {lv : List (Nat × Value)} {st : List Value} {σ : k_Mem} {X A B : Option (ρ × k_Mem)}
theorem k_wt {s : State} {m : MethodId} {p : Program} {args : Array Value} {meth : Method} {c : Code} (F : k_Fx M E p s m args meth c) {w : Cond} (h : w ∈ k_tbl) : w.before args s = true := F.2.2.2.2.2.1 w h
theorem r_sub {lv' : List (Nat × Value)} (ks : List Nat) (h : lv_pick lv ks = lv') (k : k_GO M E em pc lv' st σ X) : k_GO M E em pc lv st σ X := by
  intro r σ' hX p l e R s m args below meth c cells slots Q F hR hQ H locs ls hP hS hl
  exact k r σ' hX p l e R s m args below meth c cells slots Q F hR hQ H locs ls hP hS (lv_sub hl ks h)
theorem r_none : k_GO M E em pc lv st σ none := fun r σ' hX => by cases hX
theorem r_grd {P : Prop} [Decidable P] (k : P → k_GO M E em pc lv st σ A) : k_GO M E em pc lv st σ (if P then A else none) := by
  intro r σ' hX
  by_cases h : P
  · rw [if_pos h] at hX
    exact k h r σ' hX
  · rw [if_neg h] at hX
    cases hX
theorem r_split {P : Prop} [Decidable P] (kt : P → k_GO M E em pc lv st σ A) (kf : ¬ P → k_GO M E em pc lv st σ B) : k_GO M E em pc lv st σ (if P then A else B) := by
  intro r σ' hX
  by_cases h : P
  · rw [if_pos h] at hX
    exact kt h r σ' hX
  · rw [if_neg h] at hX
    exact kf h r σ' hX

theorem r_iconst {n : Int} (v : Int32) (hv : Int32.ofInt n = v) (q : Nat) (hq : pc + 1 = q) (d : decode M.2.1 pc = .ok (.iconst n, 1)) (k : k_GO M E em q lv (.int v :: st) σ X) : k_GO M E em pc lv st σ X := by
  intro r σ' hX p l e R s m args below meth c cells slots Q F hR hQ H locs ls hP hS hl
  subst hq
  exact lv_iconst F.1 F.2.1 d hv (k r σ' hX p l e R s m args below meth c cells slots Q F hR hQ H locs ls hP hS hl)
theorem r_bipush {n : Int} (v : Int32) (hv : (Int8.ofInt n).toInt32 = v) (q : Nat) (hq : pc + 2 = q) (d : decode M.2.1 pc = .ok (.bipush n, 2)) (k : k_GO M E em q lv (.int v :: st) σ X) : k_GO M E em pc lv st σ X := by
  intro r σ' hX p l e R s m args below meth c cells slots Q F hR hQ H locs ls hP hS hl
  subst hq
  exact lv_bipush F.1 F.2.1 d hv (k r σ' hX p l e R s m args below meth c cells slots Q F hR hQ H locs ls hP hS hl)
theorem r_sipush {n : Int} (v : Int32) (hv : (Int16.ofInt n).toInt32 = v) (q : Nat) (hq : pc + 3 = q) (d : decode M.2.1 pc = .ok (.sipush n, 3)) (k : k_GO M E em q lv (.int v :: st) σ X) : k_GO M E em pc lv st σ X := by
  intro r σ' hX p l e R s m args below meth c cells slots Q F hR hQ H locs ls hP hS hl
  subst hq
  exact lv_sipush F.1 F.2.1 d hv (k r σ' hX p l e R s m args below meth c cells slots Q F hR hQ H locs ls hP hS hl)
theorem r_lconst {n : Fin 2} (v : Int64) (hv : Int64.ofNat (n : Nat) = v) (q : Nat) (hq : pc + 1 = q) (d : decode M.2.1 pc = .ok (.lconst n, 1)) (k : k_GO M E em q lv (.long v :: st) σ X) : k_GO M E em pc lv st σ X := by
  intro r σ' hX p l e R s m args below meth c cells slots Q F hR hQ H locs ls hP hS hl
  subst hq
  exact lv_lconst F.1 F.2.1 d hv (k r σ' hX p l e R s m args below meth c cells slots Q F hR hQ H locs ls hP hS hl)
theorem r_ldc {i : Nat} {v : Int32} (h : Cond.constant M.1.cls i v ∈ k_tbl) (q : Nat) (hq : pc + 2 = q) (d : decode M.2.1 pc = .ok (.ldc i, 2)) (k : k_GO M E em q lv (.int v :: st) σ X) : k_GO M E em pc lv st σ X := by
  intro r σ' hX p l e R s m args below meth c cells slots Q F hR hQ H locs ls hP hS hl
  subst hq
  exact lv_ldc F.1 F.2.1 F.2.2.2.2.1 (k_wt F h) d (k r σ' hX p l e R s m args below meth c cells slots Q F hR hQ H locs ls hP hS hl)
theorem r_ldcw {i : Nat} {v : Int32} (h : Cond.constant M.1.cls i v ∈ k_tbl) (q : Nat) (hq : pc + 3 = q) (d : decode M.2.1 pc = .ok (.ldc_w i, 3)) (k : k_GO M E em q lv (.int v :: st) σ X) : k_GO M E em pc lv st σ X := by
  intro r σ' hX p l e R s m args below meth c cells slots Q F hR hQ H locs ls hP hS hl
  subst hq
  exact lv_ldcw F.1 F.2.1 F.2.2.2.2.1 (k_wt F h) d (k r σ' hX p l e R s m args below meth c cells slots Q F hR hQ H locs ls hP hS hl)
theorem r_ldc2 {i : Nat} {v : Int64} (h : Cond.constantLong M.1.cls i v ∈ k_tbl) (q : Nat) (hq : pc + 3 = q) (d : decode M.2.1 pc = .ok (.ldc2_w i, 3)) (k : k_GO M E em q lv (.long v :: st) σ X) : k_GO M E em pc lv st σ X := by
  intro r σ' hX p l e R s m args below meth c cells slots Q F hR hQ H locs ls hP hS hl
  subst hq
  exact lv_ldc2 F.1 F.2.1 F.2.2.2.2.1 (k_wt F h) d (k r σ' hX p l e R s m args below meth c cells slots Q F hR hQ H locs ls hP hS hl)
theorem r_ldcs {j : Nat} {tx : String} (i : Nat) (h : (j, tx, i) ∈ k_spool) (hc : M.1.cls = RX1) (q : Nat) (hq : pc + 2 = q) (d : decode M.2.1 pc = .ok (.ldc j, 2)) (k : k_GO M E em q lv (k_rs E i :: st) σ X) : k_GO M E em pc lv st σ X := by
  intro r σ' hX p l e R s m args below meth c cells slots Q F hR hQ H locs ls hP hS hl
  subst hq
  exact va_ldcS F.1 F.2.1 F.2.2.2.2.1 (by rw [hc]; exact F.2.2.2.2.2.2.2.2.1.2.2.1 _ h) d (k r σ' hX p l e R s m args below meth c cells slots Q F hR hQ H locs ls hP hS hl)
theorem r_iload_n {f : Fin 4} {i : Nat} {x : Int32} (j : Nat) (hj : lv[j]? = some (i, .int x)) (hi : (f : Nat) = i) (q : Nat) (hq : pc + 1 = q) (d : decode M.2.1 pc = .ok (.iload_n f, 1)) (k : k_GO M E em q lv (.int x :: st) σ X) : k_GO M E em pc lv st σ X := by
  intro r σ' hX p l e R s m args below meth c cells slots Q F hR hQ H locs ls hP hS hl
  subst hq
  exact lv_iload_n F.1 F.2.1 d hi (lv_at hl j hj) (k r σ' hX p l e R s m args below meth c cells slots Q F hR hQ H locs ls hP hS hl)
theorem r_iload {i : Nat} {x : Int32} (j : Nat) (hj : lv[j]? = some (i, .int x)) (q : Nat) (hq : pc + 2 = q) (d : decode M.2.1 pc = .ok (.iload i, 2)) (k : k_GO M E em q lv (.int x :: st) σ X) : k_GO M E em pc lv st σ X := by
  intro r σ' hX p l e R s m args below meth c cells slots Q F hR hQ H locs ls hP hS hl
  subst hq
  exact lv_iload F.1 F.2.1 d (lv_at hl j hj) (k r σ' hX p l e R s m args below meth c cells slots Q F hR hQ H locs ls hP hS hl)
theorem r_lload_n {f : Fin 4} {i : Nat} {x : Int64} (j : Nat) (hj : lv[j]? = some (i, .long x)) (hi : (f : Nat) = i) (q : Nat) (hq : pc + 1 = q) (d : decode M.2.1 pc = .ok (.lload_n f, 1)) (k : k_GO M E em q lv (.long x :: st) σ X) : k_GO M E em pc lv st σ X := by
  intro r σ' hX p l e R s m args below meth c cells slots Q F hR hQ H locs ls hP hS hl
  subst hq
  exact lv_lload_n F.1 F.2.1 d hi (lv_at hl j hj) (k r σ' hX p l e R s m args below meth c cells slots Q F hR hQ H locs ls hP hS hl)
theorem r_lload {i : Nat} {x : Int64} (j : Nat) (hj : lv[j]? = some (i, .long x)) (q : Nat) (hq : pc + 2 = q) (d : decode M.2.1 pc = .ok (.lload i, 2)) (k : k_GO M E em q lv (.long x :: st) σ X) : k_GO M E em pc lv st σ X := by
  intro r σ' hX p l e R s m args below meth c cells slots Q F hR hQ H locs ls hP hS hl
  subst hq
  exact lv_lload F.1 F.2.1 d (lv_at hl j hj) (k r σ' hX p l e R s m args below meth c cells slots Q F hR hQ H locs ls hP hS hl)
theorem r_aload_n {f : Fin 4} {i : Nat} {x : Nat} (j : Nat) (hj : lv[j]? = some (i, .ref x)) (hi : (f : Nat) = i) (q : Nat) (hq : pc + 1 = q) (d : decode M.2.1 pc = .ok (.aload_n f, 1)) (k : k_GO M E em q lv (.ref x :: st) σ X) : k_GO M E em pc lv st σ X := by
  intro r σ' hX p l e R s m args below meth c cells slots Q F hR hQ H locs ls hP hS hl
  subst hq
  exact lv_aload_n F.1 F.2.1 d hi (lv_at hl j hj) (k r σ' hX p l e R s m args below meth c cells slots Q F hR hQ H locs ls hP hS hl)
theorem r_aload {i : Nat} {x : Nat} (j : Nat) (hj : lv[j]? = some (i, .ref x)) (q : Nat) (hq : pc + 2 = q) (d : decode M.2.1 pc = .ok (.aload i, 2)) (k : k_GO M E em q lv (.ref x :: st) σ X) : k_GO M E em pc lv st σ X := by
  intro r σ' hX p l e R s m args below meth c cells slots Q F hR hQ H locs ls hP hS hl
  subst hq
  exact lv_aload F.1 F.2.1 d (lv_at hl j hj) (k r σ' hX p l e R s m args below meth c cells slots Q F hR hQ H locs ls hP hS hl)
theorem r_istore_n {f : Fin 4} {i : Nat} {x : Int32} (lv' : List (Nat × Value)) (hl' : (i, Value.int x) :: lv.filter (fun q => !(q.1 == i) && !(q.1 + 1 == i && q.2.category == 2)) = lv') (hi : (f : Nat) = i) (hn : i < M.2.2.1) (q : Nat) (hq : pc + 1 = q) (d : decode M.2.1 pc = .ok (.istore_n f, 1)) (k : k_GO M E em q lv' st σ X) : k_GO M E em pc lv (.int x :: st) σ X := by
  intro r σ' hX p l e R s m args below meth c cells slots Q F hR hQ H locs ls hP hS hl
  subst hq
  exact lv_istore_n F.1 F.2.1 d hi hl hn hl' (fun ls hl => k r σ' hX p l e R s m args below meth c cells slots Q F hR hQ H locs ls hP hS hl)
theorem r_istore {i : Nat} {x : Int32} (lv' : List (Nat × Value)) (hl' : (i, Value.int x) :: lv.filter (fun q => !(q.1 == i) && !(q.1 + 1 == i && q.2.category == 2)) = lv') (hn : i < M.2.2.1) (q : Nat) (hq : pc + 2 = q) (d : decode M.2.1 pc = .ok (.istore i, 2)) (k : k_GO M E em q lv' st σ X) : k_GO M E em pc lv (.int x :: st) σ X := by
  intro r σ' hX p l e R s m args below meth c cells slots Q F hR hQ H locs ls hP hS hl
  subst hq
  exact lv_istore F.1 F.2.1 d hl hn hl' (fun ls hl => k r σ' hX p l e R s m args below meth c cells slots Q F hR hQ H locs ls hP hS hl)
theorem r_lstore_n {f : Fin 4} {i : Nat} {x : Int64} (lv' : List (Nat × Value)) (hl' : (i, Value.long x) :: lv.filter (fun q => !(q.1 == i) && (!(q.1 == i + 1) && !(q.1 + 1 == i && q.2.category == 2))) = lv') (hi : (f : Nat) = i) (hn : i + 1 < M.2.2.1) (q : Nat) (hq : pc + 1 = q) (d : decode M.2.1 pc = .ok (.lstore_n f, 1)) (k : k_GO M E em q lv' st σ X) : k_GO M E em pc lv (.long x :: st) σ X := by
  intro r σ' hX p l e R s m args below meth c cells slots Q F hR hQ H locs ls hP hS hl
  subst hq
  exact lv_lstore_n F.1 F.2.1 d hi hl hn hl' (fun ls hl => k r σ' hX p l e R s m args below meth c cells slots Q F hR hQ H locs ls hP hS hl)
theorem r_lstore {i : Nat} {x : Int64} (lv' : List (Nat × Value)) (hl' : (i, Value.long x) :: lv.filter (fun q => !(q.1 == i) && (!(q.1 == i + 1) && !(q.1 + 1 == i && q.2.category == 2))) = lv') (hn : i + 1 < M.2.2.1) (q : Nat) (hq : pc + 2 = q) (d : decode M.2.1 pc = .ok (.lstore i, 2)) (k : k_GO M E em q lv' st σ X) : k_GO M E em pc lv (.long x :: st) σ X := by
  intro r σ' hX p l e R s m args below meth c cells slots Q F hR hQ H locs ls hP hS hl
  subst hq
  exact lv_lstore F.1 F.2.1 d hl hn hl' (fun ls hl => k r σ' hX p l e R s m args below meth c cells slots Q F hR hQ H locs ls hP hS hl)
theorem r_astore_n {f : Fin 4} {i : Nat} {x : Nat} (lv' : List (Nat × Value)) (hl' : (i, Value.ref x) :: lv.filter (fun q => !(q.1 == i) && !(q.1 + 1 == i && q.2.category == 2)) = lv') (hi : (f : Nat) = i) (hn : i < M.2.2.1) (q : Nat) (hq : pc + 1 = q) (d : decode M.2.1 pc = .ok (.astore_n f, 1)) (k : k_GO M E em q lv' st σ X) : k_GO M E em pc lv (.ref x :: st) σ X := by
  intro r σ' hX p l e R s m args below meth c cells slots Q F hR hQ H locs ls hP hS hl
  subst hq
  exact lv_astore_n F.1 F.2.1 d hi hl hn hl' (fun ls hl => k r σ' hX p l e R s m args below meth c cells slots Q F hR hQ H locs ls hP hS hl)
theorem r_astore {i : Nat} {x : Nat} (lv' : List (Nat × Value)) (hl' : (i, Value.ref x) :: lv.filter (fun q => !(q.1 == i) && !(q.1 + 1 == i && q.2.category == 2)) = lv') (hn : i < M.2.2.1) (q : Nat) (hq : pc + 2 = q) (d : decode M.2.1 pc = .ok (.astore i, 2)) (k : k_GO M E em q lv' st σ X) : k_GO M E em pc lv (.ref x :: st) σ X := by
  intro r σ' hX p l e R s m args below meth c cells slots Q F hR hQ H locs ls hP hS hl
  subst hq
  exact lv_astore F.1 F.2.1 d hl hn hl' (fun ls hl => k r σ' hX p l e R s m args below meth c cells slots Q F hR hQ H locs ls hP hS hl)
theorem r_iinc {i : Nat} {n : Int} {x : Int32} (v : Int32) (hv : Int32.ofInt n = v) (j : Nat) (hj : lv[j]? = some (i, .int x)) (lv' : List (Nat × Value)) (hl' : (i, Value.int (x + v)) :: lv.filter (fun q => !(q.1 == i) && !(q.1 + 1 == i && q.2.category == 2)) = lv') (hn : i < M.2.2.1) (q : Nat) (hq : pc + 3 = q) (d : decode M.2.1 pc = .ok (.iinc i n, 3)) (k : k_GO M E em q lv' st σ X) : k_GO M E em pc lv st σ X := by
  intro r σ' hX p l e R s m args below meth c cells slots Q F hR hQ H locs ls hP hS hl
  subst hq
  exact lv_iinc F.1 F.2.1 d hl hj (by rw [hv]) hn hl' (fun ls hl => k r σ' hX p l e R s m args below meth c cells slots Q F hR hQ H locs ls hP hS hl)
theorem r_iadd {x y : Int32} (q : Nat) (hq : pc + 1 = q) (d : decode M.2.1 pc = .ok (.iadd, 1)) (k : k_GO M E em q lv (.int (x + y) :: st) σ X) : k_GO M E em pc lv (.int y :: .int x :: st) σ X := by
  intro r σ' hX p l e R s m args below meth c cells slots Q F hR hQ H locs ls hP hS hl
  subst hq
  exact lv_iadd F.1 F.2.1 d (k r σ' hX p l e R s m args below meth c cells slots Q F hR hQ H locs ls hP hS hl)
theorem r_isub {x y : Int32} (q : Nat) (hq : pc + 1 = q) (d : decode M.2.1 pc = .ok (.isub, 1)) (k : k_GO M E em q lv (.int (x - y) :: st) σ X) : k_GO M E em pc lv (.int y :: .int x :: st) σ X := by
  intro r σ' hX p l e R s m args below meth c cells slots Q F hR hQ H locs ls hP hS hl
  subst hq
  exact lv_isub F.1 F.2.1 d (k r σ' hX p l e R s m args below meth c cells slots Q F hR hQ H locs ls hP hS hl)
theorem r_imul {x y : Int32} (q : Nat) (hq : pc + 1 = q) (d : decode M.2.1 pc = .ok (.imul, 1)) (k : k_GO M E em q lv (.int (x * y) :: st) σ X) : k_GO M E em pc lv (.int y :: .int x :: st) σ X := by
  intro r σ' hX p l e R s m args below meth c cells slots Q F hR hQ H locs ls hP hS hl
  subst hq
  exact lv_imul F.1 F.2.1 d (k r σ' hX p l e R s m args below meth c cells slots Q F hR hQ H locs ls hP hS hl)
theorem r_iand {x y : Int32} (q : Nat) (hq : pc + 1 = q) (d : decode M.2.1 pc = .ok (.iand, 1)) (k : k_GO M E em q lv (.int (x &&& y) :: st) σ X) : k_GO M E em pc lv (.int y :: .int x :: st) σ X := by
  intro r σ' hX p l e R s m args below meth c cells slots Q F hR hQ H locs ls hP hS hl
  subst hq
  exact lv_iand F.1 F.2.1 d (k r σ' hX p l e R s m args below meth c cells slots Q F hR hQ H locs ls hP hS hl)
theorem r_ior {x y : Int32} (q : Nat) (hq : pc + 1 = q) (d : decode M.2.1 pc = .ok (.ior, 1)) (k : k_GO M E em q lv (.int (x ||| y) :: st) σ X) : k_GO M E em pc lv (.int y :: .int x :: st) σ X := by
  intro r σ' hX p l e R s m args below meth c cells slots Q F hR hQ H locs ls hP hS hl
  subst hq
  exact lv_ior F.1 F.2.1 d (k r σ' hX p l e R s m args below meth c cells slots Q F hR hQ H locs ls hP hS hl)
theorem r_ixor {x y : Int32} (q : Nat) (hq : pc + 1 = q) (d : decode M.2.1 pc = .ok (.ixor, 1)) (k : k_GO M E em q lv (.int (x ^^^ y) :: st) σ X) : k_GO M E em pc lv (.int y :: .int x :: st) σ X := by
  intro r σ' hX p l e R s m args below meth c cells slots Q F hR hQ H locs ls hP hS hl
  subst hq
  exact lv_ixor F.1 F.2.1 d (k r σ' hX p l e R s m args below meth c cells slots Q F hR hQ H locs ls hP hS hl)
theorem r_ishl {x y : Int32} (q : Nat) (hq : pc + 1 = q) (d : decode M.2.1 pc = .ok (.ishl, 1)) (k : k_GO M E em q lv (.int (k_shl x y) :: st) σ X) : k_GO M E em pc lv (.int y :: .int x :: st) σ X := by
  intro r σ' hX p l e R s m args below meth c cells slots Q F hR hQ H locs ls hP hS hl
  subst hq
  exact lv_ishl F.1 F.2.1 d (k r σ' hX p l e R s m args below meth c cells slots Q F hR hQ H locs ls hP hS hl)
theorem r_ishr {x y : Int32} (q : Nat) (hq : pc + 1 = q) (d : decode M.2.1 pc = .ok (.ishr, 1)) (k : k_GO M E em q lv (.int (k_shr x y) :: st) σ X) : k_GO M E em pc lv (.int y :: .int x :: st) σ X := by
  intro r σ' hX p l e R s m args below meth c cells slots Q F hR hQ H locs ls hP hS hl
  subst hq
  exact lv_ishr F.1 F.2.1 d (k r σ' hX p l e R s m args below meth c cells slots Q F hR hQ H locs ls hP hS hl)
theorem r_iushr {x y : Int32} (q : Nat) (hq : pc + 1 = q) (d : decode M.2.1 pc = .ok (.iushr, 1)) (k : k_GO M E em q lv (.int (k_ushr x y) :: st) σ X) : k_GO M E em pc lv (.int y :: .int x :: st) σ X := by
  intro r σ' hX p l e R s m args below meth c cells slots Q F hR hQ H locs ls hP hS hl
  subst hq
  exact lv_iushr F.1 F.2.1 d rfl (k r σ' hX p l e R s m args below meth c cells slots Q F hR hQ H locs ls hP hS hl)
theorem r_ineg {x : Int32} (q : Nat) (hq : pc + 1 = q) (d : decode M.2.1 pc = .ok (.ineg, 1)) (k : k_GO M E em q lv (.int (-x) :: st) σ X) : k_GO M E em pc lv (.int x :: st) σ X := by
  intro r σ' hX p l e R s m args below meth c cells slots Q F hR hQ H locs ls hP hS hl
  subst hq
  exact lv_ineg F.1 F.2.1 d (k r σ' hX p l e R s m args below meth c cells slots Q F hR hQ H locs ls hP hS hl)
theorem r_ladd {x y : Int64} (q : Nat) (hq : pc + 1 = q) (d : decode M.2.1 pc = .ok (.ladd, 1)) (k : k_GO M E em q lv (.long (x + y) :: st) σ X) : k_GO M E em pc lv (.long y :: .long x :: st) σ X := by
  intro r σ' hX p l e R s m args below meth c cells slots Q F hR hQ H locs ls hP hS hl
  subst hq
  exact lv_ladd F.1 F.2.1 d (k r σ' hX p l e R s m args below meth c cells slots Q F hR hQ H locs ls hP hS hl)
theorem r_lmul {x y : Int64} (q : Nat) (hq : pc + 1 = q) (d : decode M.2.1 pc = .ok (.lmul, 1)) (k : k_GO M E em q lv (.long (x * y) :: st) σ X) : k_GO M E em pc lv (.long y :: .long x :: st) σ X := by
  intro r σ' hX p l e R s m args below meth c cells slots Q F hR hQ H locs ls hP hS hl
  subst hq
  exact lv_lmul F.1 F.2.1 d (k r σ' hX p l e R s m args below meth c cells slots Q F hR hQ H locs ls hP hS hl)
theorem r_i2l {x : Int32} (q : Nat) (hq : pc + 1 = q) (d : decode M.2.1 pc = .ok (.i2l, 1)) (k : k_GO M E em q lv (.long x.toInt64 :: st) σ X) : k_GO M E em pc lv (.int x :: st) σ X := by
  intro r σ' hX p l e R s m args below meth c cells slots Q F hR hQ H locs ls hP hS hl
  subst hq
  exact lv_i2l F.1 F.2.1 d rfl (k r σ' hX p l e R s m args below meth c cells slots Q F hR hQ H locs ls hP hS hl)
theorem r_i2b {x : Int32} (q : Nat) (hq : pc + 1 = q) (d : decode M.2.1 pc = .ok (.i2b, 1)) (k : k_GO M E em q lv (.int x.toInt8.toInt32 :: st) σ X) : k_GO M E em pc lv (.int x :: st) σ X := by
  intro r σ' hX p l e R s m args below meth c cells slots Q F hR hQ H locs ls hP hS hl
  subst hq
  exact lv_i2b F.1 F.2.1 d rfl (k r σ' hX p l e R s m args below meth c cells slots Q F hR hQ H locs ls hP hS hl)
theorem r_i2c {x : Int32} (q : Nat) (hq : pc + 1 = q) (d : decode M.2.1 pc = .ok (.i2c, 1)) (k : k_GO M E em q lv (.int (x.toUInt32 % 65536).toInt32 :: st) σ X) : k_GO M E em pc lv (.int x :: st) σ X := by
  intro r σ' hX p l e R s m args below meth c cells slots Q F hR hQ H locs ls hP hS hl
  subst hq
  exact lv_i2c F.1 F.2.1 d rfl (k r σ' hX p l e R s m args below meth c cells slots Q F hR hQ H locs ls hP hS hl)
theorem r_i2s {x : Int32} (q : Nat) (hq : pc + 1 = q) (d : decode M.2.1 pc = .ok (.i2s, 1)) (k : k_GO M E em q lv (.int x.toInt16.toInt32 :: st) σ X) : k_GO M E em pc lv (.int x :: st) σ X := by
  intro r σ' hX p l e R s m args below meth c cells slots Q F hR hQ H locs ls hP hS hl
  subst hq
  exact lv_i2s F.1 F.2.1 d rfl (k r σ' hX p l e R s m args below meth c cells slots Q F hR hQ H locs ls hP hS hl)
theorem r_lcmp {x y : Int64} (q : Nat) (hq : pc + 1 = q) (d : decode M.2.1 pc = .ok (.lcmp, 1)) (k : k_GO M E em q lv (.int (lg_cmp x y) :: st) σ X) : k_GO M E em pc lv (.long y :: .long x :: st) σ X := by
  intro r σ' hX p l e R s m args below meth c cells slots Q F hR hQ H locs ls hP hS hl
  subst hq
  exact W.lcmp F.1 F.2.1 d (k r σ' hX p l e R s m args below meth c cells slots Q F hR hQ H locs ls hP hS hl)
theorem r_dup {v : Value} (q : Nat) (hq : pc + 1 = q) (d : decode M.2.1 pc = .ok (.dup, 1)) (hv : v.category = 1) (k : k_GO M E em q lv (v :: v :: st) σ X) : k_GO M E em pc lv (v :: st) σ X := by
  intro r σ' hX p l e R s m args below meth c cells slots Q F hR hQ H locs ls hP hS hl
  subst hq
  exact lv_dup F.1 F.2.1 d hv (k r σ' hX p l e R s m args below meth c cells slots Q F hR hQ H locs ls hP hS hl)
theorem r_pop {v : Value} (q : Nat) (hq : pc + 1 = q) (d : decode M.2.1 pc = .ok (.pop, 1)) (hv : v.category = 1) (k : k_GO M E em q lv (st) σ X) : k_GO M E em pc lv (v :: st) σ X := by
  intro r σ' hX p l e R s m args below meth c cells slots Q F hR hQ H locs ls hP hS hl
  subst hq
  exact lv_pop F.1 F.2.1 d hv (k r σ' hX p l e R s m args below meth c cells slots Q F hR hQ H locs ls hP hS hl)
theorem r_dup2 {v u : Value} (q : Nat) (hq : pc + 1 = q) (d : decode M.2.1 pc = .ok (.dup2, 1)) (hv : v.category = 1) (hu : u.category = 1) (k : k_GO M E em q lv (v :: u :: v :: u :: st) σ X) : k_GO M E em pc lv (v :: u :: st) σ X := by
  intro r σ' hX p l e R s m args below meth c cells slots Q F hR hQ H locs ls hP hS hl
  subst hq
  exact lv_dup2_11 F.1 F.2.1 d hv hu (k r σ' hX p l e R s m args below meth c cells slots Q F hR hQ H locs ls hP hS hl)
theorem r_idiv {x y : Int32} (hn : ¬ y = 0) (q : Nat) (hq : pc + 1 = q) (d : decode M.2.1 pc = .ok (.idiv, 1)) (k : k_GO M E em q lv (.int (x / y) :: st) σ X) : k_GO M E em pc lv (.int y :: .int x :: st) σ X := by
  intro r σ' hX p l e R s m args below meth c cells slots Q F hR hQ H locs ls hP hS hl
  subst hq
  exact lv_idiv F.1 F.2.1 d hn (k r σ' hX p l e R s m args below meth c cells slots Q F hR hQ H locs ls hP hS hl)
theorem r_irem {x y : Int32} (hn : ¬ y = 0) (q : Nat) (hq : pc + 1 = q) (d : decode M.2.1 pc = .ok (.irem, 1)) (k : k_GO M E em q lv (.int (k_rem x y) :: st) σ X) : k_GO M E em pc lv (.int y :: .int x :: st) σ X := by
  intro r σ' hX p l e R s m args below meth c cells slots Q F hR hQ H locs ls hP hS hl
  subst hq
  exact lv_irem F.1 F.2.1 d hn (k r σ' hX p l e R s m args below meth c cells slots Q F hR hQ H locs ls hP hS hl)
theorem r_ldiv {x y : Int64} (hn : ¬ y = 0) (q : Nat) (hq : pc + 1 = q) (d : decode M.2.1 pc = .ok (.ldiv, 1)) (k : k_GO M E em q lv (.long (x / y) :: st) σ X) : k_GO M E em pc lv (.long y :: .long x :: st) σ X := by
  intro r σ' hX p l e R s m args below meth c cells slots Q F hR hQ H locs ls hP hS hl
  subst hq
  exact lv_ldiv F.1 F.2.1 d hn (k r σ' hX p l e R s m args below meth c cells slots Q F hR hQ H locs ls hP hS hl)
theorem r_lrem {x y : Int64} (hn : ¬ y = 0) (q : Nat) (hq : pc + 1 = q) (d : decode M.2.1 pc = .ok (.lrem, 1)) (k : k_GO M E em q lv (.long (k_lrem x y) :: st) σ X) : k_GO M E em pc lv (.long y :: .long x :: st) σ X := by
  intro r σ' hX p l e R s m args below meth c cells slots Q F hR hQ H locs ls hP hS hl
  subst hq
  exact lv_lrem F.1 F.2.1 d hn (k r σ' hX p l e R s m args below meth c cells slots Q F hR hQ H locs ls hP hS hl)
theorem r_goto {off : Int} (t : Nat) (ht : (pc : Int) + off = (t : Int)) (d : decode M.2.1 pc = .ok (.goto off, 3)) (k : k_GO M E em t lv st σ X) : k_GO M E em pc lv st σ X := by
  intro r σ' hX p l e R s m args below meth c cells slots Q F hR hQ H locs ls hP hS hl
  exact lv_goto F.1 F.2.1 d ht (k r σ' hX p l e R s m args below meth c cells slots Q F hR hQ H locs ls hP hS hl)
theorem r_icmp_eq {x y : Int32} {off : Int} (t q : Nat) (hq : pc + 3 = q) (ht : (pc : Int) + off = (t : Int)) (d : decode M.2.1 pc = .ok (.if_icmp .eq off, 3)) (kt : x = y → k_GO M E em t lv st σ A) (kf : ¬ x = y → k_GO M E em q lv st σ B) : k_GO M E em pc lv (.int y :: .int x :: st) σ (if x = y then A else B) := by
  intro r σ' hX p l e R s m args below meth c cells slots Q F hR hQ H locs ls hP hS hl
  subst hq
  refine lv_icmp_eq F.1 F.2.1 d ht (fun h => ?_) (fun h => ?_)
  · rw [if_pos h] at hX
    exact kt h r σ' hX p l e R s m args below meth c cells slots Q F hR hQ H locs ls hP hS hl
  · rw [if_neg h] at hX
    exact kf h r σ' hX p l e R s m args below meth c cells slots Q F hR hQ H locs ls hP hS hl
theorem r_icmp_ne {x y : Int32} {off : Int} (t q : Nat) (hq : pc + 3 = q) (ht : (pc : Int) + off = (t : Int)) (d : decode M.2.1 pc = .ok (.if_icmp .ne off, 3)) (kt : x = y → k_GO M E em q lv st σ A) (kf : ¬ x = y → k_GO M E em t lv st σ B) : k_GO M E em pc lv (.int y :: .int x :: st) σ (if x = y then A else B) := by
  intro r σ' hX p l e R s m args below meth c cells slots Q F hR hQ H locs ls hP hS hl
  subst hq
  refine lv_icmp_ne F.1 F.2.1 d ht (fun h => ?_) (fun h => ?_)
  · rw [if_neg h] at hX
    exact kf h r σ' hX p l e R s m args below meth c cells slots Q F hR hQ H locs ls hP hS hl
  · rw [if_pos h] at hX
    exact kt h r σ' hX p l e R s m args below meth c cells slots Q F hR hQ H locs ls hP hS hl
theorem r_icmp_lt {x y : Int32} {off : Int} (t q : Nat) (hq : pc + 3 = q) (ht : (pc : Int) + off = (t : Int)) (d : decode M.2.1 pc = .ok (.if_icmp .lt off, 3)) (kt : x < y → k_GO M E em t lv st σ A) (kf : ¬ x < y → k_GO M E em q lv st σ B) : k_GO M E em pc lv (.int y :: .int x :: st) σ (if x < y then A else B) := by
  intro r σ' hX p l e R s m args below meth c cells slots Q F hR hQ H locs ls hP hS hl
  subst hq
  refine lv_icmp_lt F.1 F.2.1 d ht (fun h => ?_) (fun h => ?_)
  · rw [if_pos h] at hX
    exact kt h r σ' hX p l e R s m args below meth c cells slots Q F hR hQ H locs ls hP hS hl
  · rw [if_neg h] at hX
    exact kf h r σ' hX p l e R s m args below meth c cells slots Q F hR hQ H locs ls hP hS hl
theorem r_icmp_ge {x y : Int32} {off : Int} (t q : Nat) (hq : pc + 3 = q) (ht : (pc : Int) + off = (t : Int)) (d : decode M.2.1 pc = .ok (.if_icmp .ge off, 3)) (kt : y ≤ x → k_GO M E em t lv st σ A) (kf : ¬ y ≤ x → k_GO M E em q lv st σ B) : k_GO M E em pc lv (.int y :: .int x :: st) σ (if y ≤ x then A else B) := by
  intro r σ' hX p l e R s m args below meth c cells slots Q F hR hQ H locs ls hP hS hl
  subst hq
  refine lv_icmp_ge F.1 F.2.1 d ht (fun h => ?_) (fun h => ?_)
  · rw [if_pos h] at hX
    exact kt h r σ' hX p l e R s m args below meth c cells slots Q F hR hQ H locs ls hP hS hl
  · rw [if_neg h] at hX
    exact kf h r σ' hX p l e R s m args below meth c cells slots Q F hR hQ H locs ls hP hS hl
theorem r_icmp_gt {x y : Int32} {off : Int} (t q : Nat) (hq : pc + 3 = q) (ht : (pc : Int) + off = (t : Int)) (d : decode M.2.1 pc = .ok (.if_icmp .gt off, 3)) (kt : y < x → k_GO M E em t lv st σ A) (kf : ¬ y < x → k_GO M E em q lv st σ B) : k_GO M E em pc lv (.int y :: .int x :: st) σ (if y < x then A else B) := by
  intro r σ' hX p l e R s m args below meth c cells slots Q F hR hQ H locs ls hP hS hl
  subst hq
  refine lv_icmp_gt F.1 F.2.1 d ht (fun h => ?_) (fun h => ?_)
  · rw [if_pos h] at hX
    exact kt h r σ' hX p l e R s m args below meth c cells slots Q F hR hQ H locs ls hP hS hl
  · rw [if_neg h] at hX
    exact kf h r σ' hX p l e R s m args below meth c cells slots Q F hR hQ H locs ls hP hS hl
theorem r_icmp_le {x y : Int32} {off : Int} (t q : Nat) (hq : pc + 3 = q) (ht : (pc : Int) + off = (t : Int)) (d : decode M.2.1 pc = .ok (.if_icmp .le off, 3)) (kt : x ≤ y → k_GO M E em t lv st σ A) (kf : ¬ x ≤ y → k_GO M E em q lv st σ B) : k_GO M E em pc lv (.int y :: .int x :: st) σ (if x ≤ y then A else B) := by
  intro r σ' hX p l e R s m args below meth c cells slots Q F hR hQ H locs ls hP hS hl
  subst hq
  refine lv_icmp_le F.1 F.2.1 d ht (fun h => ?_) (fun h => ?_)
  · rw [if_pos h] at hX
    exact kt h r σ' hX p l e R s m args below meth c cells slots Q F hR hQ H locs ls hP hS hl
  · rw [if_neg h] at hX
    exact kf h r σ' hX p l e R s m args below meth c cells slots Q F hR hQ H locs ls hP hS hl
theorem r_if_eq {x : Int32} {off : Int} (t q : Nat) (hq : pc + 3 = q) (ht : (pc : Int) + off = (t : Int)) (d : decode M.2.1 pc = .ok (.ifCond .eq off, 3)) (kt : x = 0 → k_GO M E em t lv st σ A) (kf : ¬ x = 0 → k_GO M E em q lv st σ B) : k_GO M E em pc lv (.int x :: st) σ (if x = 0 then A else B) := by
  intro r σ' hX p l e R s m args below meth c cells slots Q F hR hQ H locs ls hP hS hl
  subst hq
  refine lv_if_eq F.1 F.2.1 d ht (fun h => ?_) (fun h => ?_)
  · rw [if_pos h] at hX
    exact kt h r σ' hX p l e R s m args below meth c cells slots Q F hR hQ H locs ls hP hS hl
  · rw [if_neg h] at hX
    exact kf h r σ' hX p l e R s m args below meth c cells slots Q F hR hQ H locs ls hP hS hl
theorem r_if_ne {x : Int32} {off : Int} (t q : Nat) (hq : pc + 3 = q) (ht : (pc : Int) + off = (t : Int)) (d : decode M.2.1 pc = .ok (.ifCond .ne off, 3)) (kt : x = 0 → k_GO M E em q lv st σ A) (kf : ¬ x = 0 → k_GO M E em t lv st σ B) : k_GO M E em pc lv (.int x :: st) σ (if x = 0 then A else B) := by
  intro r σ' hX p l e R s m args below meth c cells slots Q F hR hQ H locs ls hP hS hl
  subst hq
  refine lv_if_ne F.1 F.2.1 d ht (fun h => ?_) (fun h => ?_)
  · rw [if_neg h] at hX
    exact kf h r σ' hX p l e R s m args below meth c cells slots Q F hR hQ H locs ls hP hS hl
  · rw [if_pos h] at hX
    exact kt h r σ' hX p l e R s m args below meth c cells slots Q F hR hQ H locs ls hP hS hl
theorem r_if_lt {x : Int32} {off : Int} (t q : Nat) (hq : pc + 3 = q) (ht : (pc : Int) + off = (t : Int)) (d : decode M.2.1 pc = .ok (.ifCond .lt off, 3)) (kt : x < 0 → k_GO M E em t lv st σ A) (kf : ¬ x < 0 → k_GO M E em q lv st σ B) : k_GO M E em pc lv (.int x :: st) σ (if x < 0 then A else B) := by
  intro r σ' hX p l e R s m args below meth c cells slots Q F hR hQ H locs ls hP hS hl
  subst hq
  refine lv_if_lt F.1 F.2.1 d ht (fun h => ?_) (fun h => ?_)
  · rw [if_pos h] at hX
    exact kt h r σ' hX p l e R s m args below meth c cells slots Q F hR hQ H locs ls hP hS hl
  · rw [if_neg h] at hX
    exact kf h r σ' hX p l e R s m args below meth c cells slots Q F hR hQ H locs ls hP hS hl
theorem r_if_ge {x : Int32} {off : Int} (t q : Nat) (hq : pc + 3 = q) (ht : (pc : Int) + off = (t : Int)) (d : decode M.2.1 pc = .ok (.ifCond .ge off, 3)) (kt : 0 ≤ x → k_GO M E em t lv st σ A) (kf : ¬ 0 ≤ x → k_GO M E em q lv st σ B) : k_GO M E em pc lv (.int x :: st) σ (if 0 ≤ x then A else B) := by
  intro r σ' hX p l e R s m args below meth c cells slots Q F hR hQ H locs ls hP hS hl
  subst hq
  refine lv_if_ge F.1 F.2.1 d ht (fun h => ?_) (fun h => ?_)
  · rw [if_pos h] at hX
    exact kt h r σ' hX p l e R s m args below meth c cells slots Q F hR hQ H locs ls hP hS hl
  · rw [if_neg h] at hX
    exact kf h r σ' hX p l e R s m args below meth c cells slots Q F hR hQ H locs ls hP hS hl
theorem r_if_gt {x : Int32} {off : Int} (t q : Nat) (hq : pc + 3 = q) (ht : (pc : Int) + off = (t : Int)) (d : decode M.2.1 pc = .ok (.ifCond .gt off, 3)) (kt : 0 < x → k_GO M E em t lv st σ A) (kf : ¬ 0 < x → k_GO M E em q lv st σ B) : k_GO M E em pc lv (.int x :: st) σ (if 0 < x then A else B) := by
  intro r σ' hX p l e R s m args below meth c cells slots Q F hR hQ H locs ls hP hS hl
  subst hq
  refine lv_if_gt F.1 F.2.1 d ht (fun h => ?_) (fun h => ?_)
  · rw [if_pos h] at hX
    exact kt h r σ' hX p l e R s m args below meth c cells slots Q F hR hQ H locs ls hP hS hl
  · rw [if_neg h] at hX
    exact kf h r σ' hX p l e R s m args below meth c cells slots Q F hR hQ H locs ls hP hS hl
theorem r_if_le {x : Int32} {off : Int} (t q : Nat) (hq : pc + 3 = q) (ht : (pc : Int) + off = (t : Int)) (d : decode M.2.1 pc = .ok (.ifCond .le off, 3)) (kt : x ≤ 0 → k_GO M E em t lv st σ A) (kf : ¬ x ≤ 0 → k_GO M E em q lv st σ B) : k_GO M E em pc lv (.int x :: st) σ (if x ≤ 0 then A else B) := by
  intro r σ' hX p l e R s m args below meth c cells slots Q F hR hQ H locs ls hP hS hl
  subst hq
  refine lv_if_le F.1 F.2.1 d ht (fun h => ?_) (fun h => ?_)
  · rw [if_pos h] at hX
    exact kt h r σ' hX p l e R s m args below meth c cells slots Q F hR hQ H locs ls hP hS hl
  · rw [if_neg h] at hX
    exact kf h r σ' hX p l e R s m args below meth c cells slots Q F hR hQ H locs ls hP hS hl
theorem r_tin {x : Int32} {dflt lo hi : Int} {offs : Array Int} {len : Nat} (v : Int32) (hx : x = v) (off : Int) (t : Nat) (h1 : ¬ v.toInt < lo) (h2 : ¬ hi < v.toInt) (ho : offs[(v.toInt - lo).toNat]? = some off) (ht : (pc : Int) + off = (t : Int)) (d : decode M.2.1 pc = .ok (.tableswitch dflt lo hi offs, len)) (k : k_GO M E em t lv st σ X) : k_GO M E em pc lv (.int x :: st) σ X := by
  intro r σ' hX p l e R s m args below meth c cells slots Q F hR hQ H locs ls hP hS hl
  subst hx
  exact lv_tableIn F.1 F.2.1 d h1 h2 ho ht (k r σ' hX p l e R s m args below meth c cells slots Q F hR hQ H locs ls hP hS hl)
theorem r_tout {x : Int32} {dflt lo hi : Int} {offs : Array Int} {len : Nat} (t : Nat) (h : x.toInt < lo ∨ hi < x.toInt) (ht : (pc : Int) + dflt = (t : Int)) (d : decode M.2.1 pc = .ok (.tableswitch dflt lo hi offs, len)) (k : k_GO M E em t lv st σ X) : k_GO M E em pc lv (.int x :: st) σ X := by
  intro r σ' hX p l e R s m args below meth c cells slots Q F hR hQ H locs ls hP hS hl
  exact lv_tableOut F.1 F.2.1 d h ht (k r σ' hX p l e R s m args below meth c cells slots Q F hR hQ H locs ls hP hS hl)
theorem r_geti {o ci j idx : Nat} {fs : List (Option Nat)} (L : k_FL M.1.cls idx ci j) (hs : k_SH o = .inr (ci, fs)) (hf : fs[j]? = some none) (q : Nat) (hq : pc + 3 = q) (d : decode M.2.1 pc = .ok (.getfield idx, 3)) (k : k_GO M E em q lv (.int (σ o j) :: st) σ X) : k_GO M E em pc lv (k_rf E o :: st) σ X := by
  intro r σ' hX p l e R s m args below meth c cells slots Q F hR hQ H locs ls hP hS hl
  subst hq
  obtain ⟨C, T, N, h1, h2, h3, h4⟩ := L
  have ho : o < k_NC := k_lt_r hs (by have := (List.getElem?_eq_some_iff.mp h1).1; simp [vwCl] at this; omega)
  have he := k_lay_at (E := E) (σ := σ) ho
  rw [k_cell, hs] at he
  exact va_get (ci := ci) F.1 F.2.1 (fun w hw => k_wt F hw) h3 F.2.2.2.2.1 F.2.2.2.2.2.2.1 hP o he h1 j h2 (k_wt F h4) (fun _ h9 => h9) (v := .int (σ o j)) (by rw [k_fl_at, hf]; simp) d (k r σ' hX p l e R s m args below meth c cells slots Q F hR hQ H locs ls hP hS hl)
theorem r_getr {o ci j idx z : Nat} {fs : List (Option Nat)} (L : k_FL M.1.cls idx ci j) (hs : k_SH o = .inr (ci, fs)) (hf : fs[j]? = some (some z)) (q : Nat) (hq : pc + 3 = q) (d : decode M.2.1 pc = .ok (.getfield idx, 3)) (k : k_GO M E em q lv (k_rf E z :: st) σ X) : k_GO M E em pc lv (k_rf E o :: st) σ X := by
  intro r σ' hX p l e R s m args below meth c cells slots Q F hR hQ H locs ls hP hS hl
  subst hq
  obtain ⟨C, T, N, h1, h2, h3, h4⟩ := L
  have ho : o < k_NC := k_lt_r hs (by have := (List.getElem?_eq_some_iff.mp h1).1; simp [vwCl] at this; omega)
  have he := k_lay_at (E := E) (σ := σ) ho
  rw [k_cell, hs] at he
  exact va_get (ci := ci) F.1 F.2.1 (fun w hw => k_wt F hw) h3 F.2.2.2.2.1 F.2.2.2.2.2.2.1 hP o he h1 j h2 (k_wt F h4) (fun _ h9 => h9) (v := k_rf E z) (by rw [k_fl_at, hf]; simp) d (k r σ' hX p l e R s m args below meth c cells slots Q F hR hQ H locs ls hP hS hl)
theorem r_puti {o ci j idx : Nat} {v : Int32} {fs : List (Option Nat)} (L : k_FP M.1.cls idx ci j) (hs : k_SH o = .inr (ci, fs)) (hf : fs[j]? = some none) (q : Nat) (hq : pc + 3 = q) (d : decode M.2.1 pc = .ok (.putfield idx, 3)) (k : k_GO M E em q lv st (k_mset σ o j v) X) : k_GO M E em pc lv (.int v :: k_rf E o :: st) σ X := by
  intro r σ' hX p l e R s m args below meth c cells slots Q F hR hQ H locs ls hP hS hl
  subst hq
  obtain ⟨C, T, N, ty0, h1, h2, h3, h4, h5, h6, h7, h8⟩ := L
  have ho : o < k_NC := k_lt_r hs (by have := (List.getElem?_eq_some_iff.mp h1).1; simp [vwCl] at this; omega)
  have he := k_lay_at (E := E) (σ := σ) ho
  have e2 : k_cell E (k_mset σ o j v) o = .inr (ci, (k_fl E.2.1 (σ o) 0 fs).set j (.int v)) := by
    rw [k_cell, hs, k_mset, k_row_self, k_fl_set hf]
  have e3 := k_lay_set (E := E) (σ := σ) (k := o) (upd (σ o) j v)
  rw [show k_mrow σ o (upd (σ o) j v) = k_mset σ o j v from rfl, e2] at e3
  rw [k_cell, hs] at he
  refine va_put (ci := ci) F.1 F.2.1 (fun w hw => k_wt F hw) h3 ty0 h5 h6 F.2.2.2.2.1 F.2.2.2.2.2.2.1 hP (k_D F.2.2.2.2.2.2.2.1 σ s.heap.size) hS o he h1 j h2 (k_wt F h4) (fun _ h9 => h9) h7 (v := .int v) h8 rfl rfl (by rw [k_fl_len]; exact (List.getElem?_eq_some_iff.mp hf).1) d (fun H1 locs1 hP1 _ hS1 => ?_)
  rw [e3] at hP1
  exact k r σ' hX p l e R s m args below meth c cells slots Q F hR hQ H1 locs1 ls hP1 hS1 hl
theorem r_iald {o n : Nat} {i : Int32} (hs : k_SH o = .inl (.int, n, none)) (q : Nat) (hq : pc + 1 = q) (d : decode M.2.1 pc = .ok (.iaload, 1)) (k : k_GO M E em q lv (.int (σ o (k_n i)) :: st) σ A) : k_GO M E em pc lv (.int i :: k_rf E o :: st) σ (if k_in i n then A else none) := by
  refine r_grd (fun hin => ?_)
  intro r σ' hX p l e R s m args below meth c cells slots Q F hR hQ H locs ls hP hS hl
  subst hq
  have he := k_lay_at (E := E) (σ := σ) (k_lt_l hs)
  rw [k_cell, hs] at he
  exact va_iald F.1 F.2.1 F.2.2.2.2.2.2.1 hP o 0 he rfl (k_in_iff.mp hin) d (k r σ' hX p l e R s m args below meth c cells slots Q F hR hQ H locs ls hP hS hl)
theorem r_bald {o n : Nat} {i : Int32} (hs : k_SH o = .inl (.byte, n, none)) (q : Nat) (hq : pc + 1 = q) (d : decode M.2.1 pc = .ok (.baload, 1)) (k : k_GO M E em q lv (.int (σ o (k_n i)) :: st) σ A) : k_GO M E em pc lv (.int i :: k_rf E o :: st) σ (if k_in i n then A else none) := by
  refine r_grd (fun hin => ?_)
  intro r σ' hX p l e R s m args below meth c cells slots Q F hR hQ H locs ls hP hS hl
  subst hq
  have he := k_lay_at (E := E) (σ := σ) (k_lt_l hs)
  rw [k_cell, hs] at he
  exact va_bald F.1 F.2.1 F.2.2.2.2.2.2.1 hP o 1 he rfl (k_in_iff.mp hin) d (k r σ' hX p l e R s m args below meth c cells slots Q F hR hQ H locs ls hP hS hl)
theorem r_zald {o n : Nat} {i : Int32} (hs : k_SH o = .inl (.boolean, n, none)) (q : Nat) (hq : pc + 1 = q) (d : decode M.2.1 pc = .ok (.baload, 1)) (k : k_GO M E em q lv (.int (σ o (k_n i)) :: st) σ A) : k_GO M E em pc lv (.int i :: k_rf E o :: st) σ (if k_in i n then A else none) := by
  refine r_grd (fun hin => ?_)
  intro r σ' hX p l e R s m args below meth c cells slots Q F hR hQ H locs ls hP hS hl
  subst hq
  have he := k_lay_at (E := E) (σ := σ) (k_lt_l hs)
  rw [k_cell, hs] at he
  exact va_zald F.1 F.2.1 F.2.2.2.2.2.2.1 hP o 2 he rfl (k_in_iff.mp hin) d (k r σ' hX p l e R s m args below meth c cells slots Q F hR hQ H locs ls hP hS hl)
theorem r_iast {o n : Nat} {i x : Int32} (hs : k_SH o = .inl (.int, n, none)) (q : Nat) (hq : pc + 1 = q) (d : decode M.2.1 pc = .ok (.iastore, 1)) (k : k_GO M E em q lv st (k_mset σ o (k_n i) x) A) : k_GO M E em pc lv (.int x :: .int i :: k_rf E o :: st) σ (if k_in i n then A else none) := by
  refine r_grd (fun hin => ?_)
  intro r σ' hX p l e R s m args below meth c cells slots Q F hR hQ H locs ls hP hS hl
  subst hq
  have he := k_lay_at (E := E) (σ := σ) (k_lt_l hs)
  have e2 : k_cell E (k_mset σ o (k_n i) x) o = .inl (E.1 .int, n, .inl (upd (σ o) (k_n i) x)) := by
    rw [k_cell, hs, k_mset, k_row_self]
  have e3 := k_lay_set (E := E) (σ := σ) (k := o) (upd (σ o) (k_n i) x)
  rw [show k_mrow σ o (upd (σ o) (k_n i) x) = k_mset σ o (k_n i) x from rfl, e2] at e3
  rw [k_cell, hs] at he
  refine va_iast F.1 F.2.1 F.2.2.2.2.2.2.1 hP (k_D F.2.2.2.2.2.2.2.1 σ s.heap.size) hS o 0 he rfl (k_in_iff.mp hin) d (fun H1 locs1 hP1 _ hS1 => ?_)
  rw [e3] at hP1
  exact k r σ' hX p l e R s m args below meth c cells slots Q F hR hQ H1 locs1 ls hP1 hS1 hl
theorem r_bast {o n : Nat} {i x : Int32} (hs : k_SH o = .inl (.byte, n, none)) (q : Nat) (hq : pc + 1 = q) (d : decode M.2.1 pc = .ok (.bastore, 1)) (k : k_GO M E em q lv st (k_mset σ o (k_n i) (vp_nar .byte x)) A) : k_GO M E em pc lv (.int x :: .int i :: k_rf E o :: st) σ (if k_in i n then A else none) := by
  refine r_grd (fun hin => ?_)
  intro r σ' hX p l e R s m args below meth c cells slots Q F hR hQ H locs ls hP hS hl
  subst hq
  have he := k_lay_at (E := E) (σ := σ) (k_lt_l hs)
  have e2 : k_cell E (k_mset σ o (k_n i) (vp_nar .byte x)) o = .inl (E.1 .byte, n, .inl (upd (σ o) (k_n i) (vp_nar .byte x))) := by
    rw [k_cell, hs, k_mset, k_row_self]
  have e3 := k_lay_set (E := E) (σ := σ) (k := o) (upd (σ o) (k_n i) (vp_nar .byte x))
  rw [show k_mrow σ o (upd (σ o) (k_n i) (vp_nar .byte x)) = k_mset σ o (k_n i) (vp_nar .byte x) from rfl, e2] at e3
  rw [k_cell, hs] at he
  refine va_bast F.1 F.2.1 F.2.2.2.2.2.2.1 hP (k_D F.2.2.2.2.2.2.2.1 σ s.heap.size) hS o 1 he rfl (k_in_iff.mp hin) d (fun H1 locs1 hP1 _ hS1 => ?_)
  rw [e3] at hP1
  exact k r σ' hX p l e R s m args below meth c cells slots Q F hR hQ H1 locs1 ls hP1 hS1 hl
theorem r_zast {o n : Nat} {i x : Int32} (hs : k_SH o = .inl (.boolean, n, none)) (q : Nat) (hq : pc + 1 = q) (d : decode M.2.1 pc = .ok (.bastore, 1)) (k : k_GO M E em q lv st (k_mset σ o (k_n i) (vp_nar .boolean x)) A) : k_GO M E em pc lv (.int x :: .int i :: k_rf E o :: st) σ (if k_in i n then A else none) := by
  refine r_grd (fun hin => ?_)
  intro r σ' hX p l e R s m args below meth c cells slots Q F hR hQ H locs ls hP hS hl
  subst hq
  have he := k_lay_at (E := E) (σ := σ) (k_lt_l hs)
  have e2 : k_cell E (k_mset σ o (k_n i) (vp_nar .boolean x)) o = .inl (E.1 .boolean, n, .inl (upd (σ o) (k_n i) (vp_nar .boolean x))) := by
    rw [k_cell, hs, k_mset, k_row_self]
  have e3 := k_lay_set (E := E) (σ := σ) (k := o) (upd (σ o) (k_n i) (vp_nar .boolean x))
  rw [show k_mrow σ o (upd (σ o) (k_n i) (vp_nar .boolean x)) = k_mset σ o (k_n i) (vp_nar .boolean x) from rfl, e2] at e3
  rw [k_cell, hs] at he
  refine va_zast F.1 F.2.1 F.2.2.2.2.2.2.1 hP (k_D F.2.2.2.2.2.2.2.1 σ s.heap.size) hS o 2 he rfl (k_in_iff.mp hin) d (fun H1 locs1 hP1 _ hS1 => ?_)
  rw [e3] at hP1
  exact k r σ' hX p l e R s m args below meth c cells slots Q F hR hQ H1 locs1 ls hP1 hS1 hl
theorem r_aald {o n : Nat} {g : Nat → Nat} {i : Int32} (hs : k_SH o = .inl (.object "HandMarket$Sheet", n, some g)) (q : Nat) (hq : pc + 1 = q) (d : decode M.2.1 pc = .ok (.aaload, 1)) (k : k_GO M E em q lv (k_rf E (g (k_n i)) :: st) σ A) : k_GO M E em pc lv (.int i :: k_rf E o :: st) σ (if k_in i n then A else none) := by
  refine r_grd (fun hin => ?_)
  intro r σ' hX p l e R s m args below meth c cells slots Q F hR hQ H locs ls hP hS hl
  subst hq
  have he := k_lay_at (E := E) (σ := σ) (k_lt_l hs)
  rw [k_cell, hs] at he
  exact va_aldq F.1 F.2.1 F.2.2.2.2.2.2.1 hP o 3 he rfl (k_in_iff.mp hin) d (k r σ' hX p l e R s m args below meth c cells slots Q F hR hQ H locs ls hP hS hl)
theorem r_alen {o n : Nat} (hs : k_SH o = .inl (.int, n, none)) (q : Nat) (hq : pc + 1 = q) (d : decode M.2.1 pc = .ok (.arraylength, 1)) (k : k_GO M E em q lv (.int (nI n) :: st) σ X) : k_GO M E em pc lv (k_rf E o :: st) σ X := by
  intro r σ' hX p l e R s m args below meth c cells slots Q F hR hQ H locs ls hP hS hl
  subst hq
  have he := k_lay_at (E := E) (σ := σ) (k_lt_l hs)
  rw [k_cell, hs] at he
  exact va_alen F.1 F.2.1 F.2.2.2.2.2.2.1 hP o 0 he rfl rfl d (k r σ' hX p l e R s m args below meth c cells slots Q F hR hQ H locs ls hP hS hl)
def k_cpok (sp dp n : Int32) (n0 n1 : Nat) : Bool := !(decide (sp < 0)) && !(decide (dp < 0)) && !(decide (n < 0)) && decide (k_n sp + k_n n ≤ n0) && decide (k_n dp + k_n n ≤ n1)
theorem r_copy {o0 o1 n0 n1 idx : Nat} {sp dp n : Int32} (h0 : k_SH o0 = .inl (.int, n0, none)) (h1 : k_SH o1 = .inl (.int, n1, none)) (hL : Cond.methodLink M.1.cls idx arraycopyName ∈ k_tbl) (hd : 1 ≤ M.2.2.2.2 ∧ (st.map fun v => v.category).sum + (nativeFrameWords "java/lang/System" "arraycopy" 5 + 11) ≤ 36 * M.2.2.2.2) (q : Nat) (hq : pc + 3 = q) (d : decode M.2.1 pc = .ok (.invokestatic idx, 3)) (k : k_GO M E em q lv st (k_mrow σ o1 (va_cpy (σ o0) (σ o1) (k_n sp) (k_n dp) (k_n n))) A) : k_GO M E em pc lv (.int n :: .int dp :: k_rf E o1 :: .int sp :: k_rf E o0 :: st) σ (if k_cpok sp dp n n0 n1 then A else none) := by
  refine r_grd (fun hin => ?_)
  intro r σ' hX p l e R s m args below meth c cells slots Q F hR hQ H locs ls hP hS hl
  subst hq
  simp only [k_cpok, Bool.and_eq_true, Bool.not_eq_true', decide_eq_false_iff_not, decide_eq_true_eq] at hin
  obtain ⟨⟨⟨⟨g1, g2⟩, g3⟩, g4⟩, g5⟩ := hin
  have he0 := k_lay_at (E := E) (σ := σ) (k_lt_l h0)
  have he1 := k_lay_at (E := E) (σ := σ) (k_lt_l h1)
  have e2 : k_cell E (k_mrow σ o1 (va_cpy (σ o0) (σ o1) (k_n sp) (k_n dp) (k_n n))) o1 = .inl (E.1 .int, n1, .inl (va_cpy (σ o0) (σ o1) (k_n sp) (k_n dp) (k_n n))) := by
    rw [k_cell, h1, k_row_self]
  have e3 := k_lay_set (E := E) (σ := σ) (k := o1) (va_cpy (σ o0) (σ o1) (k_n sp) (k_n dp) (k_n n))
  rw [e2] at e3
  rw [k_cell, h0] at he0
  rw [k_cell, h1] at he1
  refine va_copyi F.1 F.2.1 (F.2.2.2.1.trans hl.1.symm) F.2.2.2.2.1 (k_wt F hL) (k_wt F (by decide +kernel)) (k_wt F (by decide +kernel)) (k_wt F (by decide +kernel)) F.2.2.2.2.2.2.1 hP (k_D F.2.2.2.2.2.2.2.1 σ s.heap.size) hS o0 o1 0 0 he0 he1 rfl rfl rfl g1 g2 g3 g4 g5 (fun _ _ => rfl) (by rw [hR.1]; exact hd.1) (by rw [hR.2.1]; exact hd.2) d (fun H1 locs1 hP1 _ hS1 => ?_)
  rw [e3] at hP1
  exact k r σ' hX p l e R s m args below meth c cells slots Q F hR hQ H1 locs1 ls hP1 hS1 hl
theorem r_iret {v : Int32} (hr : M.2.2.2.1 = some .int) (d : decode M.2.1 pc = .ok (.ireturn, 1)) : k_GO M E k_vi pc lv [.int v] σ (some (v, σ)) := by
  intro r σ' hX p l e R s m args below meth c cells slots Q F hR hQ H locs ls hP hS hl
  cases hX
  exact (hQ H locs ls pc hP hS).1 v rfl ⟨_, hr, rfl⟩ d
theorem r_zret {v : Int32} (hr : M.2.2.2.1 = some .boolean) (hv : v = 0 ∨ v = 1) (d : decode M.2.1 pc = .ok (.ireturn, 1)) : k_GO M E k_vi pc lv [.int v] σ (some (v, σ)) := by
  intro r σ' hX p l e R s m args below meth c cells slots Q F hR hQ H locs ls hP hS hl
  cases hX
  exact (hQ H locs ls pc hP hS).1 v rfl ⟨_, hr, by rcases hv with h | h <;> subst h <;> rfl⟩ d
theorem r_cret {v : Int32} {ty : FieldType} (hr : M.2.2.2.1 = some ty) (hv : narrow ty (.int v) = .int v) (d : decode M.2.1 pc = .ok (.ireturn, 1)) : k_GO M E k_vi pc lv [.int v] σ (some (v, σ)) := by
  intro r σ' hX p l e R s m args below meth c cells slots Q F hR hQ H locs ls hP hS hl
  cases hX
  exact (hQ H locs ls pc hP hS).1 v rfl ⟨_, hr, hv⟩ d
theorem r_lret {v : Int64} (hr : M.2.2.2.1 = some .long) (d : decode M.2.1 pc = .ok (.lreturn, 1)) : k_GO M E k_vl pc lv [.long v] σ (some (v, σ)) := by
  intro r σ' hX p l e R s m args below meth c cells slots Q F hR hQ H locs ls hP hS hl
  cases hX
  exact (hQ H locs ls pc hP hS).2.1 v rfl hr d
theorem r_vret (hr : M.2.2.2.1 = none) (d : decode M.2.1 pc = .ok (.return_, 1)) : k_GO M E k_vv pc lv [] σ (some ((), σ)) := by
  intro r σ' hX p l e R s m args below meth c cells slots Q F hR hQ H locs ls hP hS hl
  cases hX
  exact (hQ H locs ls pc hP hS).2.2.2 rfl hr d
theorem r_aret {z : Nat} {C : String} (hr : M.2.2.2.1 = some (.object C)) (d : decode M.2.1 pc = .ok (.areturn, 1)) : k_GO M E (k_vr E) pc lv [k_rf E z] σ (some (z, σ)) := by
  intro r σ' hX p l e R s m args below meth c cells slots Q F hR hQ H locs ls hP hS hl
  cases hX
  exact (hQ H locs ls pc hP hS).2.2.1 _ C rfl hr d
theorem k_AA_mono {a b : Nat} (h : a ≤ b) : ∀ q, k_AA E b q → k_AA E a q := fun q hq => hq.elim Or.inl (fun z => Or.inr (Nat.le_trans h z))
theorem k_after {p : Program} {l : Launch} {e : Env} {R : Room} {s : State} {m : MethodId} {args : Array Value} {below : List Frame} {meth : Method} {c : Code} {H : Heap} {locs : List Loc} {cells slots : Nat} {Q : State → Prop} {ls : Array Slot} {st0 rest : List Value} {v : Option Value} {σ1 : k_Mem} {a : Array Value} (hr : va_Run p l e R s m args below meth c H locs cells slots 0 0 (F0 m pc ls st0) rest (k_QG E H.size v σ1 a) (k_AA E H.size)) (hS : va_S (k_AA E s.heap.size) s.heap H locs)
    (kk : ∀ (H1 : Heap) (locs1 : List Loc), va_P E.2.2.1 vwCl (k_lay E σ1) H1 → va_S (k_AA E s.heap.size) s.heap H1 locs1 → W p l e R s m args below meth c H1 locs1 cells slots Q (F0 m (pc + 3) ls (v.toList ++ rest))) : W p l e R s m args below meth c H locs cells slots Q (F0 m pc ls st0) := by
  intro T hT X
  obtain ⟨v', st₀, t, T', L, h0, X', hL, e1, e2, ⟨hv, hP1, hz, hk⟩, st⟩ := hr T hT X
  cases hv
  rw [h0] at hz hk
  obtain ⟨t2, a1, b1⟩ := kk T'.heap (locs ++ L) (by rw [e1]; exact hP1) ⟨Nat.le_trans hS.1 (by rw [e1]; exact hz), fun q h1 h2 => by rw [e1, hk q (Nat.lt_of_lt_of_le h1 hS.1) (fun z => h2 (k_AA_mono hS.1 q z))]; exact hS.2.1 q h1 h2, fun q hq => by
      rcases List.mem_append.mp hq with h | h
      · exact hS.2.2 q h
      · exact k_AA_mono hS.1 _ (hL q h)⟩ T' rfl X'
  exact ⟨t2, st t2 a1, b1⟩
theorem k_goodIn {N : k_MI} {n : Nat} (h : k_CW N n) : GoodIn k_tbl (k_ws N) := by
  intro w hw
  have hm : w ∈ k_tbl := by
    rcases List.mem_cons.mp hw with e | e
    · rw [e]; exact h.1
    · exact e
  exact ⟨hm, good_of_word (List.all_eq_true.mp k_good w hm)⟩
theorem k_gw {w : Cond} (h : w ∈ k_tbl) : w ∈ k_tbl ∧ ((w.onTables && w.keeps) = true ∨ ∃ ty, w = .arrayClass ty) := ⟨h, good_of_word (List.all_eq_true.mp k_good w h)⟩
theorem k_blind {as : List Value} {sz : Nat} : FrameBlind (va_Pc as (fun U => U.heap.size = sz ∧ va_P E.2.2.1 vwCl (k_lay E σ) U.heap ∧ va_K E.2.2.1 vwCl (k_tys E) U ∧ k_inj E ∧ k_XS E (k_AA E sz) U U.heap)) := by
  intro a U g mk q
  obtain ⟨q0, q1, qP, qK, qI, qX⟩ := q
  exact ⟨q0, q1, qP, va_K.moved (u := U) (U := U.calling g mk a) (Vm.Alike.refl U.vm) qK, qI, k_XS.same (s := U) (U := U.calling g mk a) rfl qX⟩
theorem k_preS {p : Program} {s : State} {m : MethodId} {args : Array Value} {meth : Method} {c : Code} (F : k_Fx M E p s m args meth c) {H : Heap} {locs : List Loc} (hP : va_P E.2.2.1 vwCl (k_lay E σ) H) (hS : va_S (k_AA E s.heap.size) s.heap H locs) (as : List Value) : PreS s H (va_Pc as (fun U => U.heap.size = H.size ∧ va_P E.2.2.1 vwCl (k_lay E σ) U.heap ∧ va_K E.2.2.1 vwCl (k_tys E) U ∧ k_inj E ∧ k_XS E (k_AA E H.size) U U.heap)) as := by
  refine ⟨k_blind, fun U hU hW => ⟨rfl, by rw [hU], by rw [hU]; exact hP, va_K.moved hW.alike F.2.2.2.2.2.2.1, F.2.2.2.2.2.2.2.1, ?_⟩⟩
  rw [hU]
  exact ((F.2.2.2.2.2.2.2.2.1.kept hS.2.1).narrow (k_AA_mono hS.1)).warm hW
theorem r_callQ {ρ' : Type} {N : k_MI} {em' : ρ' → Option Value} {Y : Option (ρ' × k_Mem)} {K : ρ' → k_Mem → Option (ρ × k_Mem)} {o ci idx : Nat} {fs : List (Option Nat)} {T : u_T} {n : Nat} {as rest : List Value} (hM : k_MC N E em' (k_rf E o :: as) σ Y) (hst : st = as.reverse ++ k_rf E o :: rest) (hs : k_SH o = .inr (ci, fs)) (hc : vwCl[ci]? = some (N.1.cls, T, n)) (L : Cond.methodLink M.1.cls idx N.1 ∈ k_tbl) (C : k_CW N as.length) (V : k_VW N) (hrk : k_rk M N = true) (hr : (rest.map fun v => v.category).sum ≤ 8) (q : Nat) (hq : pc + 3 = q) (d : decode M.2.1 pc = .ok (.invokevirtual idx, 3)) (k : ∀ (r : ρ') (σ1 : k_Mem), k_GO M E em q lv ((em' r).toList ++ rest) σ1 (K r σ1)) : k_GO M E em pc lv st σ (k_bd Y K) := by
  intro r σ' hX p l e R s m args below meth c cells slots Q F hR hQ H locs ls hP hS hl
  subst hq
  subst hst
  obtain ⟨r1, σ1, hY, hX⟩ := k_bd_some hX
  simp only [k_rk, Bool.and_eq_true, decide_eq_true_eq] at hrk
  have ho : o < k_NC := k_lt_r hs (by have := (List.getElem?_eq_some_iff.mp hc).1; simp [vwCl] at this; omega)
  have he := k_lay_at (E := E) (σ := σ) ho
  rw [k_cell, hs] at he
  have hG : GoodIn k_tbl (wsV M.1.cls idx N.1.cls N.1 (k_ws N)) := by
    intro w hw
    unfold wsV at hw
    rcases List.mem_append.mp hw with h | h
    · simp only [List.mem_cons, List.not_mem_nil, or_false] at h
      rcases h with h | h | h | h <;> subst h
      · exact k_gw L
      · exact k_gw V.1
      · exact k_gw V.2
      · exact k_gw C.2.1
    · exact k_goodIn C w h
  have hpre := k_preS F hP hS (k_rf E o :: as)
  exact k_after (va_runV (As := as) (rest := rest) (g := F0 m pc ls (as.reverse ++ k_rf E o :: rest)) ⟨F.1, F.2.1, F.2.2.2.1, F.2.2.2.2.1, F.2.2.2.2.2.1⟩ (hM r1 σ1 hY l H.size) (cwV as.length F.2.2.2.2.2.1 hG rfl rfl rfl ⟨rfl, C.2.2⟩ (by rw [hR.1, hR.2.1]; exact hrk)) ⟨hpre.1, va_recv F.2.2.2.2.2.2.1 hP hc he, hpre.2⟩ rfl rfl hl.1 rfl (lv_room hr) d ⟨hR.2.2.1, hR.2.2.2⟩) hS (fun H1 locs1 hP1 hS1 => k r1 σ1 r σ' hX p l e R s m args below meth c cells slots Q F hR hQ H1 locs1 ls hP1 hS1 hl)
theorem r_callsQ {ρ' : Type} {N : k_MI} {em' : ρ' → Option Value} {Y : Option (ρ' × k_Mem)} {K : ρ' → k_Mem → Option (ρ × k_Mem)} {idx : Nat} {as rest : List Value} (hM : k_MC N E em' as σ Y) (hst : st = as.reverse ++ rest) (L : Cond.methodLink M.1.cls idx N.1 ∈ k_tbl) (C : k_CW N as.length) (V : Cond.static N.1 ∈ k_tbl) (hrk : k_rk M N = true) (hr : (rest.map fun v => v.category).sum ≤ 8) (q : Nat) (hq : pc + 3 = q) (d : decode M.2.1 pc = .ok (.invokestatic idx, 3)) (k : ∀ (r : ρ') (σ1 : k_Mem), k_GO M E em q lv ((em' r).toList ++ rest) σ1 (K r σ1)) : k_GO M E em pc lv st σ (k_bd Y K) := by
  intro r σ' hX p l e R s m args below meth c cells slots Q F hR hQ H locs ls hP hS hl
  subst hq
  subst hst
  obtain ⟨r1, σ1, hY, hX⟩ := k_bd_some hX
  simp only [k_rk, Bool.and_eq_true, decide_eq_true_eq] at hrk
  have hG : GoodIn k_tbl (va_wsS M.1.cls idx N.1 (k_ws N)) := by
    intro w hw
    unfold va_wsS at hw
    rcases List.mem_append.mp hw with h | h
    · simp only [List.mem_cons, List.not_mem_nil, or_false] at h
      rcases h with h | h | h <;> subst h
      · exact k_gw L
      · exact k_gw V
      · exact k_gw C.2.1
    · exact k_goodIn C w h
  exact k_after (va_runS (As := as) (rest := rest) (g := F0 m pc ls (as.reverse ++ rest)) ⟨F.1, F.2.1, F.2.2.2.1, F.2.2.2.2.1, F.2.2.2.2.2.1⟩ (hM r1 σ1 hY l H.size) (va_cwS as.length F.2.2.2.2.2.1 hG rfl rfl rfl C.2.2 (by rw [hR.1, hR.2.1]; exact hrk)) (k_preS F hP hS as) rfl rfl hl.1 rfl (lv_room hr) d ⟨hR.2.2.1, hR.2.2.2⟩) hS (fun H1 locs1 hP1 hS1 => k r1 σ1 r σ' hX p l e R s m args below meth c cells slots Q F hR hQ H1 locs1 ls hP1 hS1 hl)
theorem r_mabs {x : Int32} {idx : Nat} (h : Cond.static Lib.Math.abs.name ∈ k_tbl ∧ Cond.initialized "java/lang/Math" ∈ k_tbl ∧ Cond.code Lib.Math.abs.name Lib.Math.abs.code 1 (some .int) ∈ k_tbl) (hL : Cond.methodLink M.1.cls idx Lib.Math.abs.name ∈ k_tbl) (hd : 1 ≤ M.2.2.2.2 ∧ (st.map fun v => v.category).sum + 13 ≤ 36 * M.2.2.2.2) (q : Nat) (hq : pc + 3 = q) (d : decode M.2.1 pc = .ok (.invokestatic idx, 3)) (k : k_GO M E em q lv (.int (k_abs x) :: st) σ X) : k_GO M E em pc lv (.int x :: st) σ X := by
  intro r σ' hX p l e R s m args below meth c cells slots Q F hR hQ H locs ls hP hS hl
  subst hq
  exact va_mabs F.1 F.2.1 (F.2.2.2.1.trans hl.1.symm) F.2.2.2.2.1 (k_wt F hL) (k_wt F h.1) (k_wt F h.2.1) (k_wt F h.2.2) (by rw [hR.1]; exact hd.1) (by rw [hR.2.1]; exact hd.2) hR.2.2.1 hR.2.2.2 d (k r σ' hX p l e R s m args below meth c cells slots Q F hR hQ H locs ls hP hS hl)
theorem r_mmax {x y : Int32} {idx : Nat} (h : Cond.static Lib.Math.max.name ∈ k_tbl ∧ Cond.initialized "java/lang/Math" ∈ k_tbl ∧ Cond.code Lib.Math.max.name Lib.Math.max.code 2 (some .int) ∈ k_tbl) (hL : Cond.methodLink M.1.cls idx Lib.Math.max.name ∈ k_tbl) (hd : 1 ≤ M.2.2.2.2 ∧ (st.map fun v => v.category).sum + 13 ≤ 36 * M.2.2.2.2) (q : Nat) (hq : pc + 3 = q) (d : decode M.2.1 pc = .ok (.invokestatic idx, 3)) (k : k_GO M E em q lv (.int (k_max x y) :: st) σ X) : k_GO M E em pc lv (.int y :: .int x :: st) σ X := by
  intro r σ' hX p l e R s m args below meth c cells slots Q F hR hQ H locs ls hP hS hl
  subst hq
  exact va_mmax F.1 F.2.1 (F.2.2.2.1.trans hl.1.symm) F.2.2.2.2.1 (k_wt F hL) (k_wt F h.1) (k_wt F h.2.1) (k_wt F h.2.2) (by rw [hR.1]; exact hd.1) (by rw [hR.2.1]; exact hd.2) hR.2.2.1 hR.2.2.2 d (k r σ' hX p l e R s m args below meth c cells slots Q F hR hQ H locs ls hP hS hl)
theorem r_mmin {x y : Int32} {idx : Nat} (h : Cond.static Lib.Math.min.name ∈ k_tbl ∧ Cond.initialized "java/lang/Math" ∈ k_tbl ∧ Cond.code Lib.Math.min.name Lib.Math.min.code 2 (some .int) ∈ k_tbl) (hL : Cond.methodLink M.1.cls idx Lib.Math.min.name ∈ k_tbl) (hd : 1 ≤ M.2.2.2.2 ∧ (st.map fun v => v.category).sum + 13 ≤ 36 * M.2.2.2.2) (q : Nat) (hq : pc + 3 = q) (d : decode M.2.1 pc = .ok (.invokestatic idx, 3)) (k : k_GO M E em q lv (.int (k_min x y) :: st) σ X) : k_GO M E em pc lv (.int y :: .int x :: st) σ X := by
  intro r σ' hX p l e R s m args below meth c cells slots Q F hR hQ H locs ls hP hS hl
  subst hq
  exact va_mmin F.1 F.2.1 (F.2.2.2.1.trans hl.1.symm) F.2.2.2.2.1 (k_wt F hL) (k_wt F h.1) (k_wt F h.2.1) (k_wt F h.2.2) (by rw [hR.1]; exact hd.1) (by rw [hR.2.1]; exact hd.2) hR.2.2.1 hR.2.2.2 d (k r σ' hX p l e R s m args below meth c cells slots Q F hR hQ H locs ls hP hS hl)
theorem r_nz {P : Prop} [Decidable P] (k : ¬ P → k_GO M E em pc lv st σ A) : k_GO M E em pc lv st σ (if P then none else A) := r_split (fun _ => r_none) k
theorem r_ct {K : k_Mem → Option (ρ × k_Mem)} (k : k_GO M E em pc lv st σ (K σ)) : k_GO M E em pc lv st σ (k_ct σ K) := k
theorem r_lt {α : Type} {x : α} {K : α → Option (ρ × k_Mem)} (k : k_GO M E em pc lv st σ (K x)) : k_GO M E em pc lv st σ (k_lt x K) := k
theorem r_calli {N : k_MI} {Y : Option (Int32 × k_Mem)} {K : Int32 → k_Mem → Option (ρ × k_Mem)} {o ci idx : Nat} {fs : List (Option Nat)} {T : u_T} {n : Nat} {as rest : List Value} (hM : k_MC N E k_vi (k_rf E o :: as) σ Y) (hst : st = as.reverse ++ k_rf E o :: rest) (hs : k_SH o = .inr (ci, fs)) (hc : vwCl[ci]? = some (N.1.cls, T, n)) (L : Cond.methodLink M.1.cls idx N.1 ∈ k_tbl) (C : k_CW N as.length) (V : k_VW N) (hrk : k_rk M N = true) (hr : (rest.map fun v => v.category).sum ≤ 8) (q : Nat) (hq : pc + 3 = q) (d : decode M.2.1 pc = .ok (.invokevirtual idx, 3)) (k : ∀ (r : Int32) (σ1 : k_Mem), k_GO M E em q lv (.int r :: rest) σ1 (K r σ1)) : k_GO M E em pc lv st σ (k_bd Y K) := r_callQ hM hst hs hc L C V hrk hr q hq d k
theorem r_callsi {N : k_MI} {Y : Option (Int32 × k_Mem)} {K : Int32 → k_Mem → Option (ρ × k_Mem)} {idx : Nat} {as rest : List Value} (hM : k_MC N E k_vi as σ Y) (hst : st = as.reverse ++ rest) (L : Cond.methodLink M.1.cls idx N.1 ∈ k_tbl) (C : k_CW N as.length) (V : Cond.static N.1 ∈ k_tbl) (hrk : k_rk M N = true) (hr : (rest.map fun v => v.category).sum ≤ 8) (q : Nat) (hq : pc + 3 = q) (d : decode M.2.1 pc = .ok (.invokestatic idx, 3)) (k : ∀ (r : Int32) (σ1 : k_Mem), k_GO M E em q lv (.int r :: rest) σ1 (K r σ1)) : k_GO M E em pc lv st σ (k_bd Y K) := r_callsQ hM hst L C V hrk hr q hq d k
theorem r_calll {N : k_MI} {Y : Option (Int64 × k_Mem)} {K : Int64 → k_Mem → Option (ρ × k_Mem)} {o ci idx : Nat} {fs : List (Option Nat)} {T : u_T} {n : Nat} {as rest : List Value} (hM : k_MC N E k_vl (k_rf E o :: as) σ Y) (hst : st = as.reverse ++ k_rf E o :: rest) (hs : k_SH o = .inr (ci, fs)) (hc : vwCl[ci]? = some (N.1.cls, T, n)) (L : Cond.methodLink M.1.cls idx N.1 ∈ k_tbl) (C : k_CW N as.length) (V : k_VW N) (hrk : k_rk M N = true) (hr : (rest.map fun v => v.category).sum ≤ 8) (q : Nat) (hq : pc + 3 = q) (d : decode M.2.1 pc = .ok (.invokevirtual idx, 3)) (k : ∀ (r : Int64) (σ1 : k_Mem), k_GO M E em q lv (.long r :: rest) σ1 (K r σ1)) : k_GO M E em pc lv st σ (k_bd Y K) := r_callQ hM hst hs hc L C V hrk hr q hq d k
theorem r_callsl {N : k_MI} {Y : Option (Int64 × k_Mem)} {K : Int64 → k_Mem → Option (ρ × k_Mem)} {idx : Nat} {as rest : List Value} (hM : k_MC N E k_vl as σ Y) (hst : st = as.reverse ++ rest) (L : Cond.methodLink M.1.cls idx N.1 ∈ k_tbl) (C : k_CW N as.length) (V : Cond.static N.1 ∈ k_tbl) (hrk : k_rk M N = true) (hr : (rest.map fun v => v.category).sum ≤ 8) (q : Nat) (hq : pc + 3 = q) (d : decode M.2.1 pc = .ok (.invokestatic idx, 3)) (k : ∀ (r : Int64) (σ1 : k_Mem), k_GO M E em q lv (.long r :: rest) σ1 (K r σ1)) : k_GO M E em pc lv st σ (k_bd Y K) := r_callsQ hM hst L C V hrk hr q hq d k
theorem r_callv {N : k_MI} {Y : Option (Unit × k_Mem)} {K : Unit → k_Mem → Option (ρ × k_Mem)} {o ci idx : Nat} {fs : List (Option Nat)} {T : u_T} {n : Nat} {as rest : List Value} (hM : k_MC N E k_vv (k_rf E o :: as) σ Y) (hst : st = as.reverse ++ k_rf E o :: rest) (hs : k_SH o = .inr (ci, fs)) (hc : vwCl[ci]? = some (N.1.cls, T, n)) (L : Cond.methodLink M.1.cls idx N.1 ∈ k_tbl) (C : k_CW N as.length) (V : k_VW N) (hrk : k_rk M N = true) (hr : (rest.map fun v => v.category).sum ≤ 8) (q : Nat) (hq : pc + 3 = q) (d : decode M.2.1 pc = .ok (.invokevirtual idx, 3)) (k : ∀ (r : Unit) (σ1 : k_Mem), k_GO M E em q lv rest σ1 (K r σ1)) : k_GO M E em pc lv st σ (k_bd Y K) := r_callQ hM hst hs hc L C V hrk hr q hq d k
theorem r_callsv {N : k_MI} {Y : Option (Unit × k_Mem)} {K : Unit → k_Mem → Option (ρ × k_Mem)} {idx : Nat} {as rest : List Value} (hM : k_MC N E k_vv as σ Y) (hst : st = as.reverse ++ rest) (L : Cond.methodLink M.1.cls idx N.1 ∈ k_tbl) (C : k_CW N as.length) (V : Cond.static N.1 ∈ k_tbl) (hrk : k_rk M N = true) (hr : (rest.map fun v => v.category).sum ≤ 8) (q : Nat) (hq : pc + 3 = q) (d : decode M.2.1 pc = .ok (.invokestatic idx, 3)) (k : ∀ (r : Unit) (σ1 : k_Mem), k_GO M E em q lv rest σ1 (K r σ1)) : k_GO M E em pc lv st σ (k_bd Y K) := r_callsQ hM hst L C V hrk hr q hq d k
theorem r_callr {N : k_MI} {Y : Option (Nat × k_Mem)} {K : Nat → k_Mem → Option (ρ × k_Mem)} {o ci idx : Nat} {fs : List (Option Nat)} {T : u_T} {n : Nat} {as rest : List Value} (hM : k_MC N E (k_vr E) (k_rf E o :: as) σ Y) (hst : st = as.reverse ++ k_rf E o :: rest) (hs : k_SH o = .inr (ci, fs)) (hc : vwCl[ci]? = some (N.1.cls, T, n)) (L : Cond.methodLink M.1.cls idx N.1 ∈ k_tbl) (C : k_CW N as.length) (V : k_VW N) (hrk : k_rk M N = true) (hr : (rest.map fun v => v.category).sum ≤ 8) (q : Nat) (hq : pc + 3 = q) (d : decode M.2.1 pc = .ok (.invokevirtual idx, 3)) (k : ∀ (r : Nat) (σ1 : k_Mem), k_GO M E em q lv (k_rf E r :: rest) σ1 (K r σ1)) : k_GO M E em pc lv st σ (k_bd Y K) := r_callQ hM hst hs hc L C V hrk hr q hq d k
theorem r_callsr {N : k_MI} {Y : Option (Nat × k_Mem)} {K : Nat → k_Mem → Option (ρ × k_Mem)} {idx : Nat} {as rest : List Value} (hM : k_MC N E (k_vr E) as σ Y) (hst : st = as.reverse ++ rest) (L : Cond.methodLink M.1.cls idx N.1 ∈ k_tbl) (C : k_CW N as.length) (V : Cond.static N.1 ∈ k_tbl) (hrk : k_rk M N = true) (hr : (rest.map fun v => v.category).sum ≤ 8) (q : Nat) (hq : pc + 3 = q) (d : decode M.2.1 pc = .ok (.invokestatic idx, 3)) (k : ∀ (r : Nat) (σ1 : k_Mem), k_GO M E em q lv (k_rf E r :: rest) σ1 (K r σ1)) : k_GO M E em pc lv st σ (k_bd Y K) := r_callsQ hM hst L C V hrk hr q hq d k
theorem r_sld {i : Int32} (hn : M.1.name = "law") (q : Nat) (hq : pc + 1 = q) (d : decode M.2.1 pc = .ok (.iaload, 1)) (k : k_GO M E em q lv (.int (E.2.2.2.2.2.2.2 (k_n i)) :: st) σ A) : k_GO M E em pc lv (.int i :: k_rb E :: st) σ (if k_in i E.2.2.2.2.2.2.1 then A else none) := by
  refine r_grd (fun hin => ?_)
  intro r σ' hX p l e R s m args below meth c cells slots Q F hR hQ H locs ls hP hS hl
  subst hq
  obtain ⟨h1, h2, h3⟩ := F.2.2.2.2.2.2.2.2.2.2 hn
  exact va_sld F.1 F.2.1 h1 h2 h3 hS (k_in_iff.mp hin) d (k r σ' hX p l e R s m args below meth c cells slots Q F hR hQ H locs ls hP hS hl)
theorem r_slenn (hn : M.1.name = "law") (q : Nat) (hq : pc + 1 = q) (d : decode M.2.1 pc = .ok (.arraylength, 1)) (k : k_GO M E em q lv (.int (nI E.2.2.2.2.2.2.1) :: st) σ X) : k_GO M E em pc lv (k_rb E :: st) σ X := by
  intro r σ' hX p l e R s m args below meth c cells slots Q F hR hQ H locs ls hP hS hl
  subst hq
  obtain ⟨h1, h2, h3⟩ := F.2.2.2.2.2.2.2.2.2.2 hn
  exact va_slen F.1 F.2.1 h1 h2 h3 hS d (k r σ' hX p l e R s m args below meth c cells slots Q F hR hQ H locs ls hP hS hl)
end RULES
