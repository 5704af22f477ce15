/-! THE MAKING OF OBJECTS -/
def k_NX (U : State) : Prop := va_Nw (.methodLinkNest RX6 27 yX4_init RX6) U ∧ va_Nw (.methodLinkNest RX6 43 yX0_init RX6) U ∧ va_Nw (.methodLinkNest RX6 50 yX3_init RX6) U ∧ va_Nw (.methodLinkNest RX6 65 yX2_init RX6) U ∧ va_AO "HandMarket$Sheet" U
theorem k_NX.warm {s U : State} (hW : s.WarmedH U.vm) (h : k_NX s) : k_NX U := ⟨h.1.warmM hW, h.2.1.warmM hW, h.2.2.1.warmM hW, h.2.2.2.1.warmM hW, h.2.2.2.2.moved hW.alike⟩
theorem k_NX.same {s U : State} (hv : s.vm = U.vm) (h : k_NX s) : k_NX U := ⟨h.1.same rfl hv, h.2.1.same rfl hv, h.2.2.1.same rfl hv, h.2.2.2.1.same rfl hv, h.2.2.2.2.moved (by rw [hv]; exact Vm.Alike.refl _)⟩
def k_NF (M : k_MI) (E : k_EV) (p : Program) (s : State) (m : MethodId) (args : Array Value) (meth : Method) (c : Code) : Prop :=
  p.tables.exec = Jvm.exec ∧ c.code = M.2.1 ∧ meth.sig.returnType = none ∧ c.maxLocals = M.2.2.1 ∧ s.vm.findClass M.1.cls = some m.cls ∧ (∀ w ∈ k_tbl, w.before args s = true) ∧ va_K E.2.2.1 vwCl (k_tys E) s ∧ k_NX s ∧ meth.locks = false ∧ meth.name = M.1.name
def k_rn (d mc ms : Nat) : Room := { frames := d, cells := mc, slots := ms, locals := 36 * d }
def k_AZ (z : Nat) : Nat → Prop := fun q => z ≤ q
def k_QN (E : k_EV) (z : Nat) (pre : va_W) (Po : va_W → Prop) : Array Value → State → Outcome → State → Prop := fun _ st o t => o = .returned none ∧ (∃ l', Po l' ∧ va_P E.2.2.1 vwCl (pre ++ l') t.heap ∧ va_D (k_AZ z) (pre ++ l')) ∧ va_F (k_AZ z) st t
/-- from here on: pre stands aside, l are the cells at hand; a cells of b slots are made; in the end Po -/
def k_N (M : k_MI) (E : k_EV) (pre : va_W) (pc : Nat) (lv : List (Nat × Value)) (st : List Value) (l : va_W) (a b : Nat) (Po : va_W → Prop) (mc ms : Nat) : Prop :=
  ∀ (z : Nat) (p : Program) (L : Launch) (e : Env) (s : State) (m : MethodId) (args : Array Value) (below : List Frame) (meth : Method) (c : Code), k_NF M E p s m args meth c → z ≤ s.heap.size →
    ∀ (H : Heap) (locs : List Loc) (ls : Array Slot), va_P E.2.2.1 vwCl (pre ++ l) H → va_D (k_AZ z) (pre ++ l) → va_S (k_AZ z) s.heap H locs → lv_has ls M.2.2.1 lv →
      W p L e (k_rn M.2.2.2.2 mc ms) s m args below meth c H locs a b (MQ below (k_QN E z pre Po) args s mc ms (k_AZ z)) (F0 m pc ls st)
def k_MN (M : k_MI) (E : k_EV) (as : List Value) (l : va_W) (Po : va_W → Prop) (mc ms : Nat) : Prop :=
  ∀ (L : Launch) (z : Nat) (pre : va_W), Met L M.1 (k_ws M) (k_rn M.2.2.2.2 mc ms) (va_Pc as (fun U => va_P E.2.2.1 vwCl (pre ++ l) U.heap ∧ va_D (k_AZ z) (pre ++ l) ∧ z ≤ U.heap.size ∧ va_K E.2.2.1 vwCl (k_tys E) U ∧ k_NX U)) (k_QN E z pre Po) mc ms (k_AZ z)
theorem k_MN_of {M : k_MI} {E : k_EV} {as : List Value} {l : va_W} {Po : va_W → Prop} {mc ms : Nat} (hy : plainName M.1.cls = true ∧ M.2.2.2.1 = none) (hn : (lg_sl as).length ≤ M.2.2.1)
    (h : ∀ (pre : va_W), k_N M E pre 0 (lv_args 0 as) [] l 0 0 Po mc ms) : k_MN M E as l Po mc ms := by
  intro L z pre
  refine Met.ofW (cc := M.2.1) (maxL := M.2.2.1) (ret := M.2.2.2.1) hy.1 rfl ?_
  intro p e s m args below meth c s₁ B hml hv
  obtain ⟨rfl, hP, hD, hzs, hK, hX⟩ := hv
  have hl := lv_entry as (n := M.2.2.1) hn
  rw [lg_entry_eq]
  exact h pre z p L e s m _ below meth c ⟨B.exec, B.bytes, B.returns.trans hy.2, hml, findClass_of_methodNamed B.named, fun w hw => atoms_spec (ws := k_ws M) B.pre w (List.mem_cons_of_mem _ hw), hK, hX, B.notSynchronized, (name_of_methodNamed B.named B.method).1⟩ hzs s.heap [] _ hP hD va_S.rf hl
section NRULES
variable {M : k_MI} {E : k_EV} {pre : va_W} {pc : Nat} {lv : List (Nat × Value)} {st : List Value} {l : va_W} {Po : va_W → Prop} {a b mc ms : Nat}
theorem n_wt {s : State} {m : MethodId} {p : Program} {args : Array Value} {meth : Method} {c : Code} (F : k_NF M E p s m args meth c) {w : Cond} (h : w ∈ k_tbl) : w.before args s = true := F.2.2.2.2.2.1 w h
theorem k_app_at {α : Type} {p l : List α} {i : Nat} {c : α} (h : l[i]? = some c) : (p ++ l)[p.length + i]? = some c := by
  rw [List.getElem?_append_right (by omega), Nat.add_sub_cancel_left]; exact h
theorem k_app_set {α : Type} (p l : List α) (i : Nat) (c : α) : (p ++ l).set (p.length + i) c = p ++ l.set i c := by
  rw [List.set_append_right _ _ (by omega), Nat.add_sub_cancel_left]
def k_FF (own : String) (idx ci k : Nat) (ty : FieldType) : Prop := ∃ (C : String) (T : u_T) (N : Nat) (ty0 : Nat → FieldType), vwCl[ci]? = some (C, T, N) ∧ k < N ∧ (∀ w ∈ u_ws C T N, w ∈ k_tbl) ∧ Cond.fieldLink own idx (T k).1 (T k).2.1 (T k).2.2.1 ∈ k_tbl ∧ (∀ k, k < N → parseFieldDescriptor (T k).2.2.1 = some (ty0 k)) ∧ (∀ a, a < N → ∀ b, b < N → a ≠ b → (T a).2.1 ≠ (T b).2.1) ∧ (T k).2.2.2 = true ∧ (T k).1 = own ∧ parseFieldDescriptor (T k).2.2.1 = some ty
def k_NW (own : String) (idx ci N : Nat) (fs : List Value) : Prop := ∃ (C : String) (T : u_T) (ty : Nat → FieldType), vwCl[ci]? = some (C, T, N) ∧ (∀ w ∈ u_ws C T N, w ∈ k_tbl) ∧ (∀ k, k < N → parseFieldDescriptor (T k).2.2.1 = some (ty k)) ∧ Cond.classLink own idx C ∈ k_tbl ∧ Cond.instantiable C N ∈ k_tbl ∧ Cond.initialized C ∈ k_tbl ∧ ∀ j, j < N → defaultValue (ty j) = vp_V fs j

theorem n_iconst {n : Int} (v : Int32) (hv : Int32.ofInt n = v) (q : Nat) (hq : pc + 1 = q) (d : decode M.2.1 pc = .ok (.iconst n, 1)) (k : k_N M E pre q lv (.int v :: st) (l) a b Po mc ms) : k_N M E pre pc lv (st) (l) a b Po mc ms := by
  intro z p L e s m args below meth c F hzs H locs ls hP hD hS hl
  subst hq
  exact lv_iconst F.1 F.2.1 d hv (k z p L e s m args below meth c F hzs H locs ls hP hD hS hl)
theorem n_bipush {n : Int} (v : Int32) (hv : (Int8.ofInt n).toInt32 = v) (q : Nat) (hq : pc + 2 = q) (d : decode M.2.1 pc = .ok (.bipush n, 2)) (k : k_N M E pre q lv (.int v :: st) (l) a b Po mc ms) : k_N M E pre pc lv (st) (l) a b Po mc ms := by
  intro z p L e s m args below meth c F hzs H locs ls hP hD hS hl
  subst hq
  exact lv_bipush F.1 F.2.1 d hv (k z p L e s m args below meth c F hzs H locs ls hP hD hS hl)
theorem n_sipush {n : Int} (v : Int32) (hv : (Int16.ofInt n).toInt32 = v) (q : Nat) (hq : pc + 3 = q) (d : decode M.2.1 pc = .ok (.sipush n, 3)) (k : k_N M E pre q lv (.int v :: st) (l) a b Po mc ms) : k_N M E pre pc lv (st) (l) a b Po mc ms := by
  intro z p L e s m args below meth c F hzs H locs ls hP hD hS hl
  subst hq
  exact lv_sipush F.1 F.2.1 d hv (k z p L e s m args below meth c F hzs H locs ls hP hD hS hl)
theorem n_aload_n {f : Fin 4} {i : Nat} {x : Nat} (j : Nat) (hj : lv[j]? = some (i, .ref x)) (hi : (f : Nat) = i) (q : Nat) (hq : pc + 1 = q) (d : decode M.2.1 pc = .ok (.aload_n f, 1)) (k : k_N M E pre q lv (.ref x :: st) (l) a b Po mc ms) : k_N M E pre pc lv (st) (l) a b Po mc ms := by
  intro z p L e s m args below meth c F hzs H locs ls hP hD hS hl
  subst hq
  exact lv_aload_n F.1 F.2.1 d hi (lv_at hl j hj) (k z p L e s m args below meth c F hzs H locs ls hP hD hS hl)
theorem n_iload_n {f : Fin 4} {i : Nat} {x : Int32} (j : Nat) (hj : lv[j]? = some (i, .int x)) (hi : (f : Nat) = i) (q : Nat) (hq : pc + 1 = q) (d : decode M.2.1 pc = .ok (.iload_n f, 1)) (k : k_N M E pre q lv (.int x :: st) (l) a b Po mc ms) : k_N M E pre pc lv (st) (l) a b Po mc ms := by
  intro z p L e s m args below meth c F hzs H locs ls hP hD hS hl
  subst hq
  exact lv_iload_n F.1 F.2.1 d hi (lv_at hl j hj) (k z p L e s m args below meth c F hzs H locs ls hP hD hS hl)
theorem n_dup {v : Value} (hv : v.category = 1) (q : Nat) (hq : pc + 1 = q) (d : decode M.2.1 pc = .ok (.dup, 1)) (k : k_N M E pre q lv (v :: v :: st) (l) a b Po mc ms) : k_N M E pre pc lv (v :: st) (l) a b Po mc ms := by
  intro z p L e s m args below meth c F hzs H locs ls hP hD hS hl
  subst hq
  exact lv_dup F.1 F.2.1 d hv (k z p L e s m args below meth c F hzs H locs ls hP hD hS hl)
theorem n_istore_n {f : Fin 4} {i : Nat} {x : Int32} (lv' : List (Nat × Value)) (hl' : (i, Value.int x) :: lv.filter (fun q => !(q.1 == i) && !(q.1 + 1 == i && q.2.category == 2)) = lv') (hi : (f : Nat) = i) (hn : i < M.2.2.1) (q : Nat) (hq : pc + 1 = q) (d : decode M.2.1 pc = .ok (.istore_n f, 1)) (k : k_N M E pre q lv' (st) (l) a b Po mc ms) : k_N M E pre pc lv (.int x :: st) (l) a b Po mc ms := by
  intro z p L e s m args below meth c F hzs H locs ls hP hD hS hl
  subst hq
  exact lv_istore_n F.1 F.2.1 d hi hl hn hl' (fun ls hl => (k z p L e s m args below meth c F hzs H locs ls hP hD hS hl))
theorem n_iinc {i : Nat} {n : Int} {x : Int32} (v : Int32) (j : Nat) (hj : lv[j]? = some (i, .int x)) (hv : x + Int32.ofInt n = v) (lv' : List (Nat × Value)) (hl' : (i, Value.int v) :: lv.filter (fun q => !(q.1 == i) && !(q.1 + 1 == i && q.2.category == 2)) = lv') (hn : i < M.2.2.1) (q : Nat) (hq : pc + 3 = q) (d : decode M.2.1 pc = .ok (.iinc i n, 3)) (k : k_N M E pre q lv' (st) (l) a b Po mc ms) : k_N M E pre pc lv (st) (l) a b Po mc ms := by
  intro z p L e s m args below meth c F hzs H locs ls hP hD hS hl
  subst hq
  exact lv_iinc F.1 F.2.1 d hl hj hv hn hl' (fun ls hl => (k z p L e s m args below meth c F hzs H locs ls hP hD hS hl))
theorem n_goto {off : Int} (t : Nat) (ht : (pc : Int) + off = (t : Int)) (d : decode M.2.1 pc = .ok (.goto off, 3)) (k : k_N M E pre t lv (st) (l) a b Po mc ms) : k_N M E pre pc lv (st) (l) a b Po mc ms := by
  intro z p L e s m args below meth c F hzs H locs ls hP hD hS hl
  exact lv_goto F.1 F.2.1 d ht (k z p L e s m args below meth c F hzs H locs ls hP hD hS hl)
theorem n_ge_t {u v : Int32} {off : Int} (h : v ≤ u) (t : Nat) (ht : (pc : Int) + off = (t : Int)) (d : decode M.2.1 pc = .ok (.if_icmp .ge off, 3)) (k : k_N M E pre t lv (st) (l) a b Po mc ms) : k_N M E pre pc lv (.int v :: .int u :: st) (l) a b Po mc ms := by
  intro z p L e s m args below meth c F hzs H locs ls hP hD hS hl
  exact lv_icmp_ge F.1 F.2.1 d ht (fun _ => (k z p L e s m args below meth c F hzs H locs ls hP hD hS hl)) (fun h2 => absurd h h2)
theorem n_ge_f {u v : Int32} {off : Int} (h : ¬ v ≤ u) (t q : Nat) (hq : pc + 3 = q) (ht : (pc : Int) + off = (t : Int)) (d : decode M.2.1 pc = .ok (.if_icmp .ge off, 3)) (k : k_N M E pre q lv (st) (l) a b Po mc ms) : k_N M E pre pc lv (.int v :: .int u :: st) (l) a b Po mc ms := by
  intro z p L e s m args below meth c F hzs H locs ls hP hD hS hl
  subst hq
  exact lv_icmp_ge F.1 F.2.1 d ht (fun h2 => absurd h2 h) (fun _ => (k z p L e s m args below meth c F hzs H locs ls hP hD hS hl))
theorem n_getr {o ci j idx v : Nat} {fs : List Value} (Lk : k_FL M.1.cls idx ci j) (i : Nat) (hs : l[i]? = some (o, .inr (ci, fs))) (hf : fs[j]? = some (.ref v)) (q : Nat) (hq : pc + 3 = q) (d : decode M.2.1 pc = .ok (.getfield idx, 3)) (k : k_N M E pre q lv (.ref v :: st) (l) a b Po mc ms) : k_N M E pre pc lv (.ref o :: st) (l) a b Po mc ms := by
  intro z p L e s m args below meth c F hzs H locs ls hP hD hS hl
  subst hq
  obtain ⟨C, T, N, h1, h2, h3, h4⟩ := Lk
  exact va_get (ci := ci) F.1 F.2.1 (fun w hw => n_wt F hw) h3 F.2.2.2.2.1 F.2.2.2.2.2.2.1 hP (pre.length + i) (k_app_at hs) h1 j h2 (n_wt F h4) (fun _ h9 => h9) hf d (k z p L e s m args below meth c F hzs H locs ls hP hD hS hl)
theorem n_putF {o ci j idx : Nat} {fs : List Value} {ty : FieldType} {v : Value} (Lk : k_FF M.1.cls idx ci j ty) (hin : M.1.name = "<init>") (hn : narrow ty v = v) (hfit : fits ty v = true) (i : Nat) (hs : l[i]? = some (o, .inr (ci, fs))) (hj : j < fs.length) (l' : va_W) (hl' : l.set i (o, .inr (ci, fs.set j v)) = l') (q : Nat) (hq : pc + 3 = q) (d : decode M.2.1 pc = .ok (.putfield idx, 3)) (k : k_N M E pre q lv (st) (l') a b Po mc ms) : k_N M E pre pc lv (v :: .ref o :: st) (l) a b Po mc ms := by
  intro z p L e s m args below meth c F hzs H locs ls hP hD hS hl
  subst hq
  subst hl'
  obtain ⟨C, T, N, ty0, h1, h2, h3, h4, h5, h6, h7, h8, h9⟩ := Lk
  refine va_putF (ci := ci) F.1 F.2.1 (fun w hw => n_wt F hw) h3 ty0 h5 h6 F.2.2.2.2.1 F.2.2.2.2.2.2.1 hP hD hS (pre.length + i) (k_app_at hs) h1 j h2 (n_wt F h4) (fun _ h9 => h9) h7 (F.2.2.2.2.2.2.2.2.2.trans hin) h8 h9 hn hfit hj d (fun H1 locs1 hP1 hD1 hS1 => ?_)
  rw [k_app_set] at hP1 hD1
  exact k z p L e s m args below meth c F hzs H1 locs1 ls hP1 hD1 hS1 hl
theorem n_puti {o ci j idx : Nat} {fs : List Value} {v : Int32} (Lk : k_FP M.1.cls idx ci j) (i : Nat) (hs : l[i]? = some (o, .inr (ci, fs))) (hj : j < fs.length) (l' : va_W) (hl' : l.set i (o, .inr (ci, fs.set j (.int v))) = l') (q : Nat) (hq : pc + 3 = q) (d : decode M.2.1 pc = .ok (.putfield idx, 3)) (k : k_N M E pre q lv (st) (l') a b Po mc ms) : k_N M E pre pc lv (.int v :: .ref o :: st) (l) a b Po mc ms := by
  intro z p L e s m args below meth c F hzs H locs ls hP hD hS hl
  subst hq
  subst hl'
  obtain ⟨C, T, N, ty0, h1, h2, h3, h4, h5, h6, h7, h8⟩ := Lk
  refine va_put (ci := ci) F.1 F.2.1 (fun w hw => n_wt F hw) h3 ty0 h5 h6 F.2.2.2.2.1 F.2.2.2.2.2.2.1 hP hD hS (pre.length + i) (k_app_at hs) h1 j h2 (n_wt F h4) (fun _ h9 => h9) h7 (v := .int v) h8 rfl rfl hj d (fun H1 locs1 hP1 hD1 hS1 => ?_)
  rw [k_app_set] at hP1 hD1
  exact k z p L e s m args below meth c F hzs H1 locs1 ls hP1 hD1 hS1 hl
theorem n_iast {o n : Nat} {g : Nat → Int32} {u x : Int32} (i : Nat) (hs : l[i]? = some (o, .inl (E.1 .int, n, .inl g))) (hin : k_in u n = true) (l' : va_W) (hl' : l.set i (o, .inl (E.1 .int, n, .inl (upd g (k_n u) x))) = l') (q : Nat) (hq : pc + 1 = q) (d : decode M.2.1 pc = .ok (.iastore, 1)) (k : k_N M E pre q lv (st) (l') a b Po mc ms) : k_N M E pre pc lv (.int x :: .int u :: .ref o :: st) (l) a b Po mc ms := by
  intro z p L e s m args below meth c F hzs H locs ls hP hD hS hl
  subst hq
  subst hl'
  refine va_iast F.1 F.2.1 F.2.2.2.2.2.2.1 hP hD hS (pre.length + i) 0 (k_app_at hs) rfl (k_in_iff.mp hin) d (fun H1 locs1 hP1 hD1 hS1 => ?_)
  rw [k_app_set] at hP1 hD1
  exact k z p L e s m args below meth c F hzs H1 locs1 ls hP1 hD1 hS1 hl
theorem n_aast {o v n ci : Nat} {g : Nat → Option Nat} {u : Int32} {vs : List Value} {T : u_T} {nn : Nat} (i i2 : Nat) (hs : l[i]? = some (o, .inl (E.1 (.object "HandMarket$Sheet"), n, .inr (.inr (.inr (.inr g)))))) (hv : l[i2]? = some (v, .inr (ci, vs))) (hc : vwCl[ci]? = some ("HandMarket$Sheet", T, nn)) (hin : k_in u n = true) (l' : va_W) (hl' : l.set i (o, .inl (E.1 (.object "HandMarket$Sheet"), n, .inr (.inr (.inr (.inr (va_up g (k_n u) (some v))))))) = l') (q : Nat) (hq : pc + 1 = q) (d : decode M.2.1 pc = .ok (.aastore, 1)) (k : k_N M E pre q lv (st) (l') a b Po mc ms) : k_N M E pre pc lv (.ref v :: .int u :: .ref o :: st) (l) a b Po mc ms := by
  intro z p L e s m args below meth c F hzs H locs ls hP hD hS hl
  subst hq
  subst hl'
  refine va_astq F.1 F.2.1 F.2.2.2.2.2.2.1 hP hD hS (pre.length + i) 3 (pre.length + i2) ci (k_app_at hs) rfl (k_app_at hv) hc (k_in_iff.mp hin) d (fun H1 locs1 hP1 hD1 hS1 => ?_)
  rw [k_app_set] at hP1 hD1
  exact k z p L e s m args below meth c F hzs H1 locs1 ls hP1 hD1 hS1 hl
theorem k_cl_int {s : State} {cA : ClassId} {ty : FieldType} {t0 : Nat} {tys : List (ClassId × FieldType)} {D : va_G} (hK : va_K D vwCl tys s) (h0 : tys[t0]? = some (E.1 ty, ty)) (h1 : va_RA s cA ty) (hty : ∀ C, ty ≠ .object C) : cA = E.1 ty := by
  have h2 := (hK.2 t0 _ h0).2
  have e : ∀ c, va_RA s c ty → s.vm.findClass ("[" ++ ty.toString) = some c := by
    intro c h
    cases ty with
    | object C => exact absurd rfl (hty C)
    | _ => exact h
  exact Option.some.inj ((e _ h1).symm.trans (e _ h2))
theorem n_newa {atype : ArrayType} {n : Int32} (ty : FieldType) (N' t0 : Nat) (hty : newarray.typeOf atype = ty) (ht0 : (k_tys E)[t0]? = some (E.1 ty, ty)) (hobj : ∀ C, ty ≠ .object C) (ha : Cond.arrayClass ty ∈ k_tbl) (hdv : defaultValue ty = .int 0) (hn : ¬ n < 0) (hN : n.toNatClampNeg = N') (hb : N' * componentBytes ty ≤ 536870912) (hc : a + 1 ≤ mc) (hsl : b + N' ≤ ms) (q : Nat) (hq : pc + 2 = q) (d : decode M.2.1 pc = .ok (.newarray atype, 2)) (k : ∀ o : Nat, k_N M E pre q lv (.ref o :: st) (l ++ [(o, .inl (E.1 ty, N', .inl (fun _ => 0)))]) (a + 1) (b + N') Po mc ms) : k_N M E pre pc lv (.int n :: st) (l) a b Po mc ms := by
  intro z p L e s m args below meth c F hzs H locs ls hP hD hS hl
  subst hq
  refine va_newa F.1 F.2.1 (n_wt F (by rw [hty]; exact ha)) hty F.2.2.2.2.2.2.1 hP hD hS (fun x hx => Nat.le_trans hzs hx) (a0 := (N', .inl (fun _ => 0))) (fun cA => by rw [vp_cell_i, hdv]) hn hN hb hc hsl d (fun o cA H1 hK1 hP1 hD1 hS1 => ?_)
  have hcA : cA = E.1 ty := k_cl_int (E := E) F.2.2.2.2.2.2.1 ht0 (hK1.2 (k_tys E).length (cA, ty) (by rw [List.getElem?_append_right (Nat.le_refl _), Nat.sub_self]; rfl)).2 hobj
  subst hcA
  rw [List.append_assoc] at hP1 hD1
  exact k o z p L e s m args below meth c F hzs H1 locs ls hP1 hD1 hS1 hl
theorem n_newq {n : Int32} {idx : Nat} (N' : Nat) (hcl : Cond.classLink M.1.cls idx "HandMarket$Sheet" ∈ k_tbl) (hn : ¬ n < 0) (hN : n.toNatClampNeg = N') (hb : N' * 4 ≤ 536870912) (hc : a + 1 ≤ mc) (hsl : b + N' ≤ ms) (q : Nat) (hq : pc + 3 = q) (d : decode M.2.1 pc = .ok (.anewarray idx, 3)) (k : ∀ o : Nat, k_N M E pre q lv (.ref o :: st) (l ++ [(o, .inl (E.1 (.object "HandMarket$Sheet"), N', .inr (.inr (.inr (.inr (fun _ => none))))))]) (a + 1) (b + N') Po mc ms) : k_N M E pre pc lv (.int n :: st) (l) a b Po mc ms := by
  intro z p L e s m args below meth c F hzs H locs ls hP hD hS hl
  subst hq
  refine va_newq F.1 F.2.1 F.2.2.2.2.1 (n_wt F hcl) F.2.2.2.2.2.2.2.1.2.2.2.2 F.2.2.2.2.2.2.1 hP hD hS (fun x hx => Nat.le_trans hzs hx) hn hN hb hc hsl d (fun o cA H1 hK1 hP1 hD1 hS1 => ?_)
  have hcA : cA = E.1 (.object "HandMarket$Sheet") := by
    obtain ⟨_, _, _, _, _, h1⟩ := (hK1.2 (k_tys E).length (cA, .object "HandMarket$Sheet") (by rw [List.getElem?_append_right (Nat.le_refl _), Nat.sub_self]; rfl)).2
    obtain ⟨_, _, _, _, _, h2⟩ := (F.2.2.2.2.2.2.1.2 3 (E.1 (.object "HandMarket$Sheet"), .object "HandMarket$Sheet") rfl).2
    exact Option.some.inj (h1.symm.trans h2)
  subst hcA
  rw [List.append_assoc] at hP1 hD1
  exact k o z p L e s m args below meth c F hzs H1 locs ls hP1 hD1 hS1 hl
theorem n_new {idx ci N : Nat} {fs : List Value} (h : k_NW M.1.cls idx ci N fs) (hc : a + 1 ≤ mc) (hsl : b + N ≤ ms) (q : Nat) (hq : pc + 3 = q) (d : decode M.2.1 pc = .ok (.new idx, 3)) (k : ∀ o : Nat, k_N M E pre q lv (.ref o :: st) (l ++ [(o, .inr (ci, fs))]) (a + 1) (b + N) Po mc ms) : k_N M E pre pc lv (st) (l) a b Po mc ms := by
  intro z p L e s m args below meth c F hzs H locs ls hP hD hS hl
  subst hq
  obtain ⟨C, T, ty, h1, h2, h3, h4, h5, h6, h7⟩ := h
  refine va_new F.1 F.2.1 (fun w hw => n_wt F hw) h2 ty h3 F.2.2.2.2.1 (n_wt F h4) (n_wt F h5) (n_wt F h6) F.2.2.2.2.2.2.1 hP hD hS (fun x hx => Nat.le_trans hzs hx) h1 h7 hc hsl d (fun o H1 hP1 hD1 hS1 => ?_)
  rw [List.append_assoc] at hP1 hD1
  exact k o z p L e s m args below meth c F hzs H1 locs ls hP1 hD1 hS1 hl
theorem n_obj {o idx : Nat} (hL : Cond.methodLink M.1.cls idx Lib.objectInit ∈ k_tbl) (h1 : Cond.instanceMethod Lib.objectInit ∈ k_tbl) (h2 : Cond.code Lib.objectInit ⟨#[0xb1]⟩ 1 none ∈ k_tbl) (hd : 1 ≤ M.2.2.2.2 ∧ (st.map fun v => v.category).sum + 12 ≤ 36 * M.2.2.2.2) (q : Nat) (hq : pc + 3 = q) (d : decode M.2.1 pc = .ok (.invokespecial idx, 3)) (k : k_N M E pre q lv (st) (l) a b Po mc ms) : k_N M E pre pc lv (.ref o :: st) (l) a b Po mc ms := by
  intro z p L e s m args below meth c F hzs H locs ls hP hD hS hl
  subst hq
  refine W.objInit F.1 F.2.1 F.2.2.2.2.1 (n_wt F hL) (n_wt F h1) (n_wt F h2) rfl (hl.1.trans F.2.2.2.1.symm) (a := o) (rest := st) rfl d hd.1 (by show 2 * 0 + _ + 12 ≤ 36 * _; have := hd.2; omega) ?_
  exact W.eq (g2 := F0 m (pc + 3) ls st) rfl (k z p L e s m args below meth c F hzs H locs ls hP hD hS hl)
theorem n_vret (h : Po l) (ha : a = mc) (hb : b = ms) (d : decode M.2.1 pc = .ok (.return_, 1)) : k_N M E pre pc lv ([]) (l) a b Po mc ms := by
  intro z p L e s m args below meth c F hzs H locs ls hP hD hS hl
  subst ha
  subst hb
  exact W.vret F.1 F.2.1 F.2.2.1 (fun t ht _ => ⟨rfl, ⟨l, h, by rw [ht]; exact hP, hD⟩, hS.F ht⟩) hS.2.2 d F.2.2.2.2.2.2.2.2.1
theorem k_rkN (M N : k_MI) : k_rk M N = true → N.2.2.2.2 + 1 ≤ M.2.2.2.2 ∧ 8 + (N.2.2.1 + 11) + 36 * N.2.2.2.2 ≤ 36 * M.2.2.2.2 := by
  intro h
  simpa only [k_rk, Bool.and_eq_true, decide_eq_true_eq] using h
theorem n_pre {z : Nat} {p : Program} {s : State} {m : MethodId} {args : Array Value} {meth : Method} {c : Code} (F : k_NF M E p s m args meth c) (hzs : z ≤ s.heap.size) {H : Heap} {locs : List Loc} {wl : va_W} (hP : va_P E.2.2.1 vwCl wl H) (hD : va_D (k_AZ z) wl) (hS : va_S (k_AZ z) s.heap H locs) (as : List Value) : PreS s H (va_Pc as (fun U => va_P E.2.2.1 vwCl wl U.heap ∧ va_D (k_AZ z) wl ∧ z ≤ U.heap.size ∧ va_K E.2.2.1 vwCl (k_tys E) U ∧ k_NX U)) as := by
  refine ⟨fun x U g mk q => ?_, fun U hU hW => ⟨rfl, by rw [hU]; exact hP, hD, by rw [hU]; exact Nat.le_trans hzs hS.1, va_K.moved hW.alike F.2.2.2.2.2.2.1, k_NX.warm hW F.2.2.2.2.2.2.2.1⟩⟩
  obtain ⟨q0, qP, qD, qz, qK, qX⟩ := q
  exact ⟨q0, qP, qD, qz, va_K.moved (u := U) (U := U.calling g mk x) (Vm.Alike.refl U.vm) qK, k_NX.same (s := U) (U := U.calling g mk x) rfl qX⟩
theorem n_after {z : Nat} {p : Program} {L : Launch} {e : Env} {R : Room} {s : State} {m : MethodId} {args : Array Value} {below : List Frame} {meth : Method} {c : Code} {H : Heap} {locs : List Loc} {cells slots m1 m2 : Nat} {Q : State → Prop} {ls : Array Slot} {st0 rest : List Value} {x : Array Value} {wl : va_W} {P2 : va_W → Prop} (hr : va_Run p L e R s m args below meth c H locs cells slots m1 m2 (F0 m pc ls st0) rest (k_QN E z wl P2 x) (k_AZ z)) (hS : va_S (k_AZ z) s.heap H locs)
    (kk : ∀ (l' : va_W) (H1 : Heap) (locs1 : List Loc), P2 l' → va_P E.2.2.1 vwCl (wl ++ l') H1 → va_D (k_AZ z) (wl ++ l') → va_S (k_AZ z) s.heap H1 locs1 → W p L e R s m args below meth c H1 locs1 (cells + m1) (slots + m2) Q (F0 m (pc + 3) ls rest)) : W p L e R s m args below meth c H locs cells slots Q (F0 m pc ls st0) := by
  intro T hT X
  obtain ⟨v', st₀, t, T', L', h0, X', hL, e1, e2, ⟨hv, ⟨l', h1, h2, h3⟩, hz, hk⟩, st⟩ := hr T hT X
  cases hv
  rw [h0] at hz hk
  obtain ⟨t2, a1, b1⟩ := kk l' T'.heap (locs ++ L') h1 (by rw [e1]; exact h2) h3 ⟨Nat.le_trans hS.1 (by rw [e1]; exact hz), fun q g1 g2 => by rw [e1, hk q (Nat.lt_of_lt_of_le g1 hS.1) g2]; exact hS.2.1 q g1 g2, fun q hq => by
      rcases List.mem_append.mp hq with h | h
      · exact hS.2.2 q h
      · exact hL q h⟩ T' rfl X'
  exact ⟨t2, st t2 a1, b1⟩
theorem n_callI {N : k_MI} {o idx m1 m2 : Nat} {as rest : List Value} {l2 : va_W} {P2 : va_W → Prop} (hM : k_MN N E (.ref o :: as) l2 P2 m1 m2) (l1 : va_W) (hl1 : l = l1 ++ l2) (hst : st = as.reverse ++ .ref o :: rest) (Lk : Cond.methodLink M.1.cls idx N.1 ∈ k_tbl) (C : k_CW N as.length) (V : Cond.instanceMethod N.1 ∈ k_tbl) (hi : N.1.name = "<init>") (hrt : N.2.2.2.1 = none) (hrk : k_rk M N = true) (hr : (rest.map fun v => v.category).sum ≤ 8) (hc : a + m1 ≤ mc) (hsl : b + m2 ≤ ms) (q : Nat) (hq : pc + 3 = q) (d : decode M.2.1 pc = .ok (.invokespecial idx, 3)) (k : ∀ l' : va_W, P2 l' → k_N M E pre q lv (rest) (l1 ++ l') (a + m1) (b + m2) Po mc ms) : k_N M E pre pc lv (st) (l) a b Po mc ms := by
  intro z p L e s m args below meth c F hzs H locs ls hP hD hS hl
  subst hq
  subst hst
  subst hl1
  rw [← List.append_assoc] at hP hD
  have hcw := cwI (R := k_rn M.2.2.2.2 mc ms) (own := M.1.cls) (index := idx) (bytes := N.2.1) (maxL := N.2.2.1) (rm := k_rn N.2.2.2.2 m1 m2) as.length F.2.2.2.2.2.1 (k_goodIn C) (by rw [k_ws, hrt]) rfl rfl (n_wt F C.2.1) (n_wt F Lk) (n_wt F V) hi C.2.2 (k_rkN M N hrk)
  exact n_after (va_runI (As := as) (rest := rest) (g := F0 m pc ls (as.reverse ++ .ref o :: rest)) ⟨F.1, F.2.1, F.2.2.2.1, F.2.2.2.2.1, F.2.2.2.2.2.1⟩ (hM L z (pre ++ l1)) hcw (n_pre F hzs hP hD hS (.ref o :: as)) rfl rfl hl.1 rfl (lv_room hr) d ⟨hc, hsl⟩) hS (fun l' H1 locs1 h1 hP1 hD1 hS1 => k l' h1 z p L e s m args below meth c F hzs H1 locs1 ls (by rw [← List.append_assoc]; exact hP1) (by rw [← List.append_assoc]; exact hD1) hS1 hl)
theorem n_callN {N : k_MI} {o idx m1 m2 : Nat} {as rest : List Value} {l2 : va_W} {P2 : va_W → Prop} (hM : k_MN N E (.ref o :: as) l2 P2 m1 m2) (l1 : va_W) (hl1 : l = l1 ++ l2) (hst : st = as.reverse ++ .ref o :: rest) (Lk : ∀ s : State, k_NX s → va_Nw (.methodLinkNest M.1.cls idx N.1 RX6) s) (C : k_CW N as.length) (V : Cond.instanceMethod N.1 ∈ k_tbl) (hi : N.1.name = "<init>") (hrt : N.2.2.2.1 = none) (hrk : k_rk M N = true) (hr : (rest.map fun v => v.category).sum ≤ 8) (hc : a + m1 ≤ mc) (hsl : b + m2 ≤ ms) (q : Nat) (hq : pc + 3 = q) (d : decode M.2.1 pc = .ok (.invokespecial idx, 3)) (k : ∀ l' : va_W, P2 l' → k_N M E pre q lv (rest) (l1 ++ l') (a + m1) (b + m2) Po mc ms) : k_N M E pre pc lv (st) (l) a b Po mc ms := by
  intro z p L e s m args below meth c F hzs H locs ls hP hD hS hl
  subst hq
  subst hst
  subst hl1
  rw [← List.append_assoc] at hP hD
  have hcw := va_cnB (R := k_rn M.2.2.2.2 mc ms) (own := M.1.cls) (host := RX6) (index := idx) (bytes := N.2.1) (maxL := N.2.2.1) (ret := none) (rm := k_rn N.2.2.2.2 m1 m2) (mc := m1) (ms := m2) as.length F.2.2.2.2.2.1 (k_goodIn C) (by rw [k_ws, hrt]) rfl rfl (Lk s F.2.2.2.2.2.2.2.1) (n_wt F C.2.1) C.2.2 (k_rkN M N hrk)
  exact n_after (va_runIN (As := as) (rest := rest) (g := F0 m pc ls (as.reverse ++ .ref o :: rest)) ⟨F.1, F.2.1, F.2.2.2.1, F.2.2.2.2.1, F.2.2.2.2.2.1⟩ (hM L z (pre ++ l1)) ⟨hcw, hi, n_wt F V⟩ (n_pre F hzs hP hD hS (.ref o :: as)) rfl rfl hl.1 rfl (lv_room hr) d ⟨hc, hsl⟩) hS (fun l' H1 locs1 h1 hP1 hD1 hS1 => k l' h1 z p L e s m args below meth c F hzs H1 locs1 ls (by rw [← List.append_assoc]; exact hP1) (by rw [← List.append_assoc]; exact hD1) hS1 hl)
theorem n_callV {N : k_MI} {o idx m1 m2 ci n : Nat} {fs : List Value} {T : u_T} {as rest : List Value} {l2 : va_W} {P2 : va_W → Prop} (hM : k_MN N E (.ref o :: as) l2 P2 m1 m2) (l1 : va_W) (hl1 : l = l1 ++ l2) (hst : st = as.reverse ++ .ref o :: rest) (i : Nat) (hs : l2[i]? = some (o, .inr (ci, fs))) (hcl : vwCl[ci]? = some (N.1.cls, T, n)) (Lk : Cond.methodLink M.1.cls idx N.1 ∈ k_tbl) (C : k_CW N as.length) (V : k_VW N) (hrk : k_rk M N = true) (hr : (rest.map fun v => v.category).sum ≤ 8) (hc : a + m1 ≤ mc) (hsl : b + m2 ≤ ms) (q : Nat) (hq : pc + 3 = q) (d : decode M.2.1 pc = .ok (.invokevirtual idx, 3)) (k : ∀ l' : va_W, P2 l' → k_N M E pre q lv (rest) (l1 ++ l') (a + m1) (b + m2) Po mc ms) : k_N M E pre pc lv (st) (l) a b Po mc ms := by
  intro z p L e s m args below meth c F hzs H locs ls hP hD hS hl
  subst hq
  subst hst
  subst hl1
  rw [← List.append_assoc] at hP hD
  have hG : GoodIn k_tbl (wsV M.1.cls idx N.1.cls N.1 (k_ws N)) := by
    intro w hw
    unfold wsV at hw
    rcases List.mem_append.mp hw with h | h
    · simp only [List.mem_cons, List.not_mem_nil, or_false] at h
      rcases h with h | h | h | h <;> subst h
      · exact k_gw Lk
      · exact k_gw V.1
      · exact k_gw V.2
      · exact k_gw C.2.1
    · exact k_goodIn C w h
  have hpre := n_pre F hzs hP hD hS (.ref o :: as)
  exact n_after (va_runV (As := as) (rest := rest) (g := F0 m pc ls (as.reverse ++ .ref o :: rest)) ⟨F.1, F.2.1, F.2.2.2.1, F.2.2.2.2.1, F.2.2.2.2.2.1⟩ (hM L z (pre ++ l1)) (cwV (rm := k_rn N.2.2.2.2 m1 m2) as.length F.2.2.2.2.2.1 hG rfl rfl rfl ⟨rfl, C.2.2⟩ (k_rkN M N hrk)) ⟨hpre.1, va_recv F.2.2.2.2.2.2.1 hP hcl (k_app_at hs), hpre.2⟩ rfl rfl hl.1 rfl (lv_room hr) d ⟨hc, hsl⟩) hS (fun l' H1 locs1 h1 hP1 hD1 hS1 => k l' h1 z p L e s m args below meth c F hzs H1 locs1 ls (by rw [← List.append_assoc]; exact hP1) (by rw [← List.append_assoc]; exact hD1) hS1 hl)
end NRULES
