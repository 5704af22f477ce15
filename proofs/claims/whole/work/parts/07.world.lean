/-! THE WORLD OF ALL CELLS: which cell is what (k_SH) never changes once the objects are made; what they hold is a memory of ints. -/
abbrev k_Mem : Type := Nat → Nat → Int32
abbrev k_Shp : Type := (FieldType × Nat × Option (Nat → Nat)) ⊕ (Nat × List (Option Nat))
def k_twn (b : Nat) : k_Shp := .inr (5, [some (b + 1), some (b + 2), some (b + 3), some (b + 4), some (b + 5), some (b + 6), some (b + 7), none, none, none, none])
def k_ia (n : Nat) : k_Shp := .inl (.int, n, none)
def k_she (b : Nat) : k_Shp := .inr (2, [some (b + 1), none, none])
def k_SHL : List k_Shp := [
  .inr (6, [some 6, some 14, some 22, some 30, none, some 1, some 3, some 46, some 55, some 4, some 5, none]),
  .inr (4, [some 2, none, none, none, none, none]), .inl (.byte, 160, none),
  .inr (1, [some 1, some 38, none, none, none, none]),
  k_ia 10,
  .inl (.object "HandMarket$Sheet", 4, some (fun i => 59 + 2 * i)),
  k_twn 6, k_ia 8, k_ia 8, k_ia 8, k_ia 8, k_ia 8, k_ia 8, k_ia 8,
  k_twn 14, k_ia 8, k_ia 8, k_ia 8, k_ia 8, k_ia 8, k_ia 8, k_ia 8,
  k_twn 22, k_ia 8, k_ia 8, k_ia 8, k_ia 8, k_ia 8, k_ia 8, k_ia 8,
  k_twn 30, k_ia 8, k_ia 8, k_ia 8, k_ia 8, k_ia 8, k_ia 8, k_ia 8,
  k_twn 38, k_ia 8, k_ia 8, k_ia 8, k_ia 8, k_ia 8, k_ia 8, k_ia 8,
  .inr (0, [some 47, some 48, some 49, some 50, some 51, some 52, some 53, some 54, none]), k_ia 8, k_ia 8, k_ia 8, k_ia 64, k_ia 64, k_ia 8, k_ia 8, k_ia 8,
  .inr (3, [some 56, some 57, some 58, none]), k_ia 6, k_ia 6, k_ia 6,
  k_she 59, k_ia 40, k_she 61, k_ia 40, k_she 63, k_ia 40, k_she 65, k_ia 40,
  .inr (7, [some 68, none, none, some 69, none, none, none, none, none, some 70, none, none, none, none, none, none, none, none, some 71, some 72, some 73, some 74, some 75, some 76, some 77, none, some 78, none, some 79, some 80, some 81, some 82, none]), k_ia 250, k_ia 50, k_ia 160, k_ia 11, k_ia 45, k_ia 64, k_ia 8, k_ia 8, k_ia 8, k_ia 18, k_ia 24, .inl (.boolean, 2, none), k_ia 4, k_ia 4, k_ia 160]
def k_NC : Nat := 83
def k_SH (k : Nat) : k_Shp := k_SHL.getD k (.inr (99, []))
theorem k_len : k_SHL.length = k_NC := by decide +kernel
theorem k_lt_l {o : Nat} {x : FieldType × Nat × Option (Nat → Nat)} (h : k_SH o = .inl x) : o < k_NC := by
  rcases Nat.lt_or_ge o k_NC with q | q
  · exact q
  · rw [k_SH, List.getD_eq_getElem?_getD, List.getElem?_eq_none (by rw [k_len]; exact q)] at h
    cases h
theorem k_lt_r {o ci : Nat} {fs : List (Option Nat)} (h : k_SH o = .inr (ci, fs)) (hc : ci < 99) : o < k_NC := by
  rcases Nat.lt_or_ge o k_NC with q | q
  · exact q
  · rw [k_SH, List.getD_eq_getElem?_getD, List.getElem?_eq_none (by rw [k_len]; exact q)] at h
    injection h with h
    injection h with h1 h2
    omega
def k_mrow (σ : k_Mem) (k : Nat) (f : Nat → Int32) : k_Mem := fun a => if a = k then f else σ a
def k_mset (σ : k_Mem) (k i : Nat) (v : Int32) : k_Mem := k_mrow σ k (upd (σ k) i v)
def k_fl (ad : Nat → Nat) (f : Nat → Int32) : Nat → List (Option Nat) → List Value
  | _, [] => []
  | j, none :: r => .int (f j) :: k_fl ad f (j + 1) r
  | j, some q :: r => .ref (ad q) :: k_fl ad f (j + 1) r
/-- the classes of arrays; the addresses; the objects' classes and slots; the texts' addresses, their rows'; the script's address, length, ints -/
abbrev k_EV : Type := (FieldType → ClassId) × (Nat → Nat) × va_G × (Nat → Nat) × (Nat → Nat) × (Nat × Nat × (Nat → Int32))
def k_cell (E : k_EV) (σ : k_Mem) (k : Nat) : va_E := match k_SH k with
  | .inl (ty, n, none) => .inl (E.1 ty, n, .inl (σ k))
  | .inl (ty, n, some g) => .inl (E.1 ty, n, .inr (.inr (.inr (.inr (fun i => some (E.2.1 (g i)))))))
  | .inr (ci, fs) => .inr (ci, k_fl E.2.1 (σ k) 0 fs)
def k_lay (E : k_EV) (σ : k_Mem) : va_W := (List.range k_NC).map (fun k => (E.2.1 k, k_cell E σ k))
theorem k_lay_at {E : k_EV} {σ : k_Mem} {k : Nat} (h : k < k_NC) : (k_lay E σ)[k]? = some (E.2.1 k, k_cell E σ k) := by
  rw [k_lay, List.getElem?_map, List.getElem?_range h]; rfl
theorem k_lay_in {E : k_EV} {σ : k_Mem} {k : Nat} {q : Nat × va_E} (h : (k_lay E σ)[k]? = some q) : k < k_NC ∧ q = (E.2.1 k, k_cell E σ k) := by
  have hk : k < k_NC := by
    have := (List.getElem?_eq_some_iff.mp h).1
    simpa [k_lay] using this
  rw [k_lay_at hk] at h
  exact ⟨hk, (Option.some.inj h).symm⟩
theorem k_row_self (σ : k_Mem) (k : Nat) (f : Nat → Int32) : k_mrow σ k f k = f := by simp [k_mrow]
theorem k_row_ne (σ : k_Mem) {k a : Nat} (f : Nat → Int32) (h : a ≠ k) : k_mrow σ k f a = σ a := by simp [k_mrow, h]
theorem k_cell_ne {E : k_EV} (σ : k_Mem) {k a : Nat} (f : Nat → Int32) (h : a ≠ k) : k_cell E (k_mrow σ k f) a = k_cell E σ a := by
  simp only [k_cell, k_row_ne σ f h]
theorem k_lay_set {E : k_EV} {σ : k_Mem} {k : Nat} (f : Nat → Int32) : (k_lay E σ).set k (E.2.1 k, k_cell E (k_mrow σ k f) k) = k_lay E (k_mrow σ k f) := by
  apply List.ext_getElem?
  intro j
  by_cases hj : j < k_NC
  · rw [k_lay_at hj, List.getElem?_set]
    by_cases hk : k = j
    · subst hk
      rw [if_pos rfl, if_pos (by simpa [k_lay] using hj)]
    · rw [if_neg hk, k_lay_at hj, k_cell_ne σ f (fun h => hk h.symm)]
  · rw [List.getElem?_eq_none (by simpa [k_lay] using hj), List.getElem?_eq_none (by simpa [k_lay] using hj)]
theorem k_fl_at {ad : Nat → Nat} {f : Nat → Int32} : ∀ (fs : List (Option Nat)) (j k : Nat), (k_fl ad f j fs)[k]? = (fs[k]?).map (fun x => match x with | none => .int (f (j + k)) | some q => .ref (ad q))
  | [], j, k => by simp [k_fl]
  | none :: r, j, 0 => by simp [k_fl]
  | some q :: r, j, 0 => by simp [k_fl]
  | none :: r, j, k + 1 => by
    rw [k_fl, List.getElem?_cons_succ, List.getElem?_cons_succ, k_fl_at r (j + 1) k, Nat.add_right_comm, Nat.add_assoc]
  | some q :: r, j, k + 1 => by
    rw [k_fl, List.getElem?_cons_succ, List.getElem?_cons_succ, k_fl_at r (j + 1) k, Nat.add_right_comm, Nat.add_assoc]
theorem k_fl_set {ad : Nat → Nat} {f : Nat → Int32} {fs : List (Option Nat)} {k : Nat} {v : Int32} (h : fs[k]? = some none) : (k_fl ad f 0 fs).set k (.int v) = k_fl ad (upd f k v) 0 fs := by
  apply List.ext_getElem?
  intro j
  have hl : ∀ (g : Nat → Int32) (fs : List (Option Nat)) (i : Nat), (k_fl ad g i fs).length = fs.length := by
    intro g fs
    induction fs with
    | nil => intro i; rfl
    | cons a r ih => intro i; cases a <;> simp [k_fl, ih]
  rw [List.getElem?_set]
  by_cases hj : k = j
  · subst hj
    rw [if_pos rfl, if_pos (by rw [hl]; exact (List.getElem?_eq_some_iff.mp h).1), k_fl_at, h]
    simp [upd]
  · rw [if_neg hj, k_fl_at, k_fl_at]
    cases hq : fs[j]? with
    | none => rfl
    | some x => cases x with
      | none => simp [upd, Ne.symm hj]
      | some q => rfl
theorem k_fl_len {ad : Nat → Nat} {f : Nat → Int32} : ∀ (fs : List (Option Nat)) (i : Nat), (k_fl ad f i fs).length = fs.length
  | [], i => rfl
  | none :: r, i => by simp [k_fl, k_fl_len r (i + 1)]
  | some q :: r, i => by simp [k_fl, k_fl_len r (i + 1)]
def k_inj (E : k_EV) : Prop := ∀ i j, i < k_NC → j < k_NC → E.2.1 i = E.2.1 j → i = j
def k_AA (E : k_EV) (sz : Nat) : Nat → Prop := fun q => (∃ k, k < k_NC ∧ q = E.2.1 k) ∨ sz ≤ q
theorem k_D {E : k_EV} (h : k_inj E) (σ : k_Mem) (sz : Nat) : va_D (k_AA E sz) (k_lay E σ) := by
  refine ⟨fun i j p q hp hq e => ?_, fun k q hk => ?_⟩
  · obtain ⟨h1, rfl⟩ := k_lay_in hp
    obtain ⟨h2, rfl⟩ := k_lay_in hq
    exact h i j h1 h2 e
  · obtain ⟨h1, rfl⟩ := k_lay_in hk
    exact Or.inl ⟨k, h1, rfl⟩
def k_tys (E : k_EV) : List (ClassId × FieldType) := [(E.1 .int, .int), (E.1 .byte, .byte), (E.1 .boolean, .boolean), (E.1 (.object "HandMarket$Sheet"), .object "HandMarket$Sheet")]
def k_slen : List Nat := [5, 6, 4, 8, 4, 5, 3, 3, 4, 3]
def k_sbyt : List (List Int32) := [[112, 108, 97, 105, 110], [116, 97, 117, 103, 104, 116], [118, 97, 105, 110], [116, 114, 101, 109, 98, 108, 101, 114], [108, 101, 102, 116], [114, 105, 103, 104, 116], [112, 101, 110], [114, 117, 110], [102, 111, 108, 100], [119, 101, 100]]
def k_spool : List (Nat × String × Nat) := [(100, "plain", 0), (102, "taught", 1), (104, "vain", 2), (106, "trembler", 3), (111, "left", 4), (113, "right", 5), (73, "pen", 6), (82, "run", 7), (87, "fold", 8), (92, "wed", 9)]
/-- the texts that the class speaks of, and how the machine writes them -/
def k_XS (E : k_EV) (A : Nat → Prop) (U : State) (H : Heap) : Prop := vk_S 10 k_slen k_sbyt E.2.2.2.1 E.2.2.2.2.1 A U H ∧ va_Z "java/lang/String" "COMPACT_STRINGS" "Z" (.int 1) A U H ∧ (∀ q ∈ k_spool, vk_R RX1 q.1 q.2.1 (E.2.2.2.1 q.2.2) U) ∧ va_Zq "jdk/internal/util/Preconditions" "SIOOBE_FORMATTER" "Ljava/util/function/BiFunction;" A U H
theorem k_XS.warm {E : k_EV} {A : Nat → Prop} {s U : State} {H : Heap} (hW : s.WarmedH U.vm) (h : k_XS E A s H) : k_XS E A U H := ⟨h.1.moved hW.alike, h.2.1.moved hW.alike, fun q hq => (h.2.2.1 q hq).warm hW, h.2.2.2.moved hW.alike⟩
theorem k_XS.same {E : k_EV} {A : Nat → Prop} {s U : State} {H : Heap} (hv : U.vm = s.vm) (h : k_XS E A s H) : k_XS E A U H := ⟨h.1.moved (by rw [hv]; exact Vm.Alike.refl s.vm), h.2.1.moved (by rw [hv]; exact Vm.Alike.refl s.vm), fun q hq => (h.2.2.1 q hq).same hv, h.2.2.2.moved (by rw [hv]; exact Vm.Alike.refl s.vm)⟩
theorem k_XS.kept {E : k_EV} {A : Nat → Prop} {U : State} {H H1 : Heap} (h : k_XS E A U H) (hq : ∀ a : Nat, a < H.size → ¬ A a → H1[a]? = H[a]?) : k_XS E A U H1 := ⟨h.1.kept hq, h.2.1.kept hq, h.2.2.1, h.2.2.2.kept hq⟩
theorem k_XS.narrow {E : k_EV} {A B : Nat → Prop} {U : State} {H : Heap} (h : k_XS E A U H) (hAB : ∀ q, B q → A q) : k_XS E B U H := ⟨h.1.narrow hAB, h.2.1.narrow hAB, h.2.2.1, h.2.2.2.narrow hAB⟩
/-- the words that stay -/
def k_tbl : List Cond := lw_tbl.filter goodWord
theorem k_mem {w : Cond} (i : Nat) (h : lw_tbl[i]? = some w) (hg : goodWord w = true) : w ∈ k_tbl := List.mem_filter.mpr ⟨List.mem_of_getElem? h, hg⟩
/-- a method: its name, code, places, what it returns; its height in the calls -/
abbrev k_MI : Type := MethodName × ByteArray × Nat × Option FieldType × Nat
def k_ws (M : k_MI) : List Cond := .code M.1 M.2.1 M.2.2.1 M.2.2.2.1 :: k_tbl
def k_rm (d : Nat) : Room := { frames := d, cells := 0, slots := 0, locals := 36 * d }
def k_QG (E : k_EV) (sz : Nat) (r : Option Value) (σ' : k_Mem) : Array Value → State → Outcome → State → Prop := fun _ st o t => o = .returned r ∧ va_P E.2.2.1 vwCl (k_lay E σ') t.heap ∧ va_F (k_AA E sz) st t
/-- what stands still while a method runs -/
def k_Fx (M : k_MI) (E : k_EV) (p : Program) (s : State) (m : MethodId) (args : Array Value) (meth : Method) (c : Code) : Prop :=
  p.tables.exec = Jvm.exec ∧ c.code = M.2.1 ∧ meth.sig.returnType = M.2.2.2.1 ∧ c.maxLocals = M.2.2.1 ∧ s.vm.findClass M.1.cls = some m.cls ∧ (∀ w ∈ k_tbl, w.before args s = true) ∧ va_K E.2.2.1 vwCl (k_tys E) s ∧ k_inj E ∧ k_XS E (k_AA E s.heap.size) s s.heap ∧ meth.locks = false ∧ (M.1.name = "law" → va_X E.2.2.2.2.2.1 E.2.2.2.2.2.2.1 E.2.2.2.2.2.2.2 s s.heap ∧ E.2.2.2.2.2.1 < s.heap.size ∧ ¬ k_AA E s.heap.size E.2.2.2.2.2.1)
/-- the room -/
def k_Rm (M : k_MI) (R : Room) (cells slots : Nat) : Prop := R.frames = M.2.2.2.2 ∧ R.locals = 36 * M.2.2.2.2 ∧ cells ≤ R.cells ∧ slots ≤ R.slots
/-- where the method returns r with the memory σ', all is well -/
def k_Rt (M : k_MI) (E : k_EV) (p : Program) (l : Launch) (e : Env) (R : Room) (s : State) (m : MethodId) (args : Array Value) (below : List Frame) (meth : Method) (c : Code) (cells slots : Nat) (Q : State → Prop) (r : Option Value) (σ' : k_Mem) : Prop :=
  ∀ (H : Heap) (locs : List Loc) (ls : Array Slot) (pc : Nat), va_P E.2.2.1 vwCl (k_lay E σ') H → va_S (k_AA E s.heap.size) s.heap H locs →
    (∀ v : Int32, r = some (.int v) → (∃ ty, M.2.2.2.1 = some ty ∧ narrow ty (.int v) = .int v) → decode M.2.1 pc = .ok (.ireturn, 1) → W p l e R s m args below meth c H locs cells slots Q (F0 m pc ls [.int v])) ∧
    (∀ v : Int64, r = some (.long v) → M.2.2.2.1 = some .long → decode M.2.1 pc = .ok (.lreturn, 1) → W p l e R s m args below meth c H locs cells slots Q (F0 m pc ls [.long v])) ∧
    (∀ (z : Nat) (C : String), r = some (.ref z) → M.2.2.2.1 = some (.object C) → decode M.2.1 pc = .ok (.areturn, 1) → W p l e R s m args below meth c H locs cells slots Q (F0 m pc ls [.ref z])) ∧
    (r = none → M.2.2.2.1 = none → decode M.2.1 pc = .ok (.return_, 1) → W p l e R s m args below meth c H locs cells slots Q (F0 m pc ls []))
def k_G (M : k_MI) (E : k_EV) (pc : Nat) (lv : List (Nat × Value)) (st : List Value) (σ : k_Mem) (r : Option Value) (σ' : k_Mem) : Prop :=
  ∀ (p : Program) (l : Launch) (e : Env) (R : Room) (s : State) (m : MethodId) (args : Array Value) (below : List Frame) (meth : Method) (c : Code) (cells slots : Nat) (Q : State → Prop), k_Fx M E p s m args meth c → k_Rm M R cells slots → k_Rt M E p l e R s m args below meth c cells slots Q r σ' →
    ∀ (H : Heap) (locs : List Loc) (ls : Array Slot), va_P E.2.2.1 vwCl (k_lay E σ) H → va_S (k_AA E s.heap.size) s.heap H locs → lv_has ls M.2.2.1 lv →
      W p l e R s m args below meth c H locs cells slots Q (F0 m pc ls st)
/-- from here on the method does as X says, wherever X says anything -/
def k_GO {ρ : Type} (M : k_MI) (E : k_EV) (em : ρ → Option Value) (pc : Nat) (lv : List (Nat × Value)) (st : List Value) (σ : k_Mem) (X : Option (ρ × k_Mem)) : Prop :=
  ∀ (r : ρ) (σ' : k_Mem), X = some (r, σ') → k_G M E pc lv st σ (em r) σ'
/-- the contract: with these arguments and this memory the method does as X says -/
def k_MC {ρ : Type} (M : k_MI) (E : k_EV) (em : ρ → Option Value) (as : List Value) (σ : k_Mem) (X : Option (ρ × k_Mem)) : Prop :=
  ∀ (r : ρ) (σ' : k_Mem), X = some (r, σ') → ∀ (l : Launch) (sz : Nat), Met l M.1 (k_ws M) (k_rm M.2.2.2.2) (va_Pc as (fun U => U.heap.size = sz ∧ va_P E.2.2.1 vwCl (k_lay E σ) U.heap ∧ va_K E.2.2.1 vwCl (k_tys E) U ∧ k_inj E ∧ k_XS E (k_AA E sz) U U.heap)) (k_QG E sz (em r) σ') 0 0 (k_AA E sz)
abbrev k_rf (E : k_EV) (k : Nat) : Value := .ref (E.2.1 k)
abbrev k_rs (E : k_EV) (k : Nat) : Value := .ref (E.2.2.2.1 k)
abbrev k_rb (E : k_EV) : Value := .ref E.2.2.2.2.2.1
theorem k_MC_of {ρ : Type} {M : k_MI} {E : k_EV} {em : ρ → Option Value} {as : List Value} {σ : k_Mem} {X : Option (ρ × k_Mem)} (hy : plainName M.1.cls = true ∧ M.1.name ≠ "law") (hn : (lg_sl as).length ≤ M.2.2.1)
    (h : k_GO M E em 0 (lv_args 0 as) [] σ X) : k_MC M E em as σ X := by
  intro r σ' hX l sz
  refine Met.ofW (cc := M.2.1) (maxL := M.2.2.1) (ret := M.2.2.2.1) hy.1 rfl ?_
  intro p e s m args below meth c s₁ B hml hv
  obtain ⟨rfl, hsz, hP, hK, hinj, hXS⟩ := hv
  subst hsz
  have hl := lv_entry as (n := M.2.2.1) hn
  rw [lg_entry_eq]
  have hlocks := B.notSynchronized
  refine h r σ' hX p l e _ s m _ below meth c 0 0 _ ⟨B.exec, B.bytes, B.returns, hml, findClass_of_methodNamed B.named, fun w hw => atoms_spec (ws := k_ws M) B.pre w (List.mem_cons_of_mem _ hw), hK, hinj, hXS, B.notSynchronized, fun z => absurd z hy.2⟩ ⟨rfl, rfl, Nat.zero_le _, Nat.zero_le _⟩ ?_ s.heap [] _ hP va_S.rf hl
  intro H locs ls pc hP hS
  refine ⟨fun v hv hr d => ?_, fun v hv hr d => ?_, fun z C hv hr d => ?_, fun hv hr d => ?_⟩
  · obtain ⟨ty, hr, hn⟩ := hr
    exact W.zret B.exec B.bytes (B.returns.trans hr) hn (fun t ht _ => ⟨by rw [hv], by rw [ht]; exact hP, hS.F ht⟩) hS.2.2 d hlocks
  · exact W.lret B.exec B.bytes (B.returns.trans hr) (fun t ht _ => ⟨by rw [hv], by rw [ht]; exact hP, hS.F ht⟩) hS.2.2 d hlocks
  · exact W.aret B.exec B.bytes (B.returns.trans hr) (Or.inl ⟨C, rfl⟩) (Or.inr ⟨_, rfl⟩) (fun t ht _ => ⟨by rw [hv], by rw [ht]; exact hP, hS.F ht⟩) hS.2.2 d hlocks
  · exact W.vret B.exec B.bytes (B.returns.trans hr) (fun t ht _ => ⟨by rw [hv], by rw [ht]; exact hP, hS.F ht⟩) hS.2.2 d hlocks
