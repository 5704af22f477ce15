/-! THE CLAIM OUT OF ONE WALK OF THE LAW'S BODY. Your part is whole_start (and what it stands on); all else here is the same for every law, but numbers. -/
def R_law : String := "HandMarketLaw"
def lw_P (b : Addr) (xs : List Int32) (args : Array Value) (s : State) : Prop := args = #[.ref b] ∧ s.IntsAt b xs ∧ xs.length ≤ 320 ∧ (Jvm.Cond.and given_1 narrow_1).before args s = true
def lw_Q (_ : Array Value) (s : State) (o : Outcome) (t : State) : Prop := o = .returned (some (.int 1)) ∧ Framed s o t [] 600000 7302250
def lw_Z (below : List Frame) (a : Array Value) (s : State) : State → Prop := fun t => ∃ o, t.status = .running ∧ Ended t below o ∧ lw_Q a s o t
/-- the law's own end, with 1 on the stack, nothing written that was there before, its room as the claim has it -/
theorem lw_ret {p : Program} {l : Launch} {e : Env} {s : State} {m : MethodId} {below : List Frame} {meth : Method} {c : Code} {b : Nat} (hx : p.tables.exec = Jvm.exec) (hb : c.code = code) (hr : meth.sig.returnType = ret) (hlocks : meth.locks = false) {pc : Nat} {H : Heap} {ls : Array Slot} (hdg : decode code pc = .ok (.ireturn, 1)) : W p l e room_1 s m #[Value.ref b] below meth c H [] 600000 7302250 (lw_Z below #[Value.ref b] s) (F0 m pc ls [.int 1]) := by
  intro T hT X
  obtain ⟨fs, hret, hrun, hended, hW, hframe⟩ := X.leave (v := some (.int 1)) (hlocks := hlocks) (fun h => by rw [hr] at h; cases h)
  have hmeth' : T.vm.method? m = some meth := X.method'
  refine ⟨T.setFrames fs, ?_, .returned (some (.int 1)), hrun, hended, rfl, ⟨_, rfl⟩, hW, hframe⟩
  jvm_step X.here [X.here.top, hx, hb, hdg, hmeth', hr, ret, narrow_b1]
  (try refine ⟨rfl, ?_⟩); (try refine ⟨rfl, ?_⟩)
  first | (intro acts; rw [hret _ acts rfl rfl rfl]) | rw [hret _ _ rfl rfl rfl]
  exact Steps.refl _
/-- what holds at the law's entry: the machine, the code, the tables' words (any of lw_tbl by 'hts w (by decide +kernel)'), the script of L ints xs at the cell b, what the Statement gives of the start (any of its parts by flat_of_before) -/
def lw_At (p : Program) (s : State) (m : MethodId) (meth : Method) (c : Code) (b L : Nat) (xs : Nat → Int32) : Prop :=
  p.tables.exec = Jvm.exec ∧ c.code = code ∧ meth.sig.returnType = ret ∧ c.maxLocals = 4 ∧ s.vm.findClass R_law = some m.cls ∧ (∀ w ∈ lw_tbl, w.before #[Value.ref b] s = true) ∧ va_X b L xs s s.heap ∧ b < s.heap.size ∧ meth.locks = false ∧ (Jvm.Cond.and given_1 narrow_1).before #[Value.ref b] s = true

def k_pos : List Nat := [0, 33, 34, 35, 57, 58, 1, 2, 3, 4, 5, 6, 7, 8, 9, 10, 11, 12, 13, 14, 15, 16, 17, 18, 19, 20, 21, 22, 23, 24, 25, 26, 27, 28, 29, 30, 31, 32, 36, 37, 38, 39, 40, 41, 42, 43, 44, 45, 46, 47, 48, 49, 50, 51, 52, 53, 54, 55, 56, 59, 60, 61, 62, 63, 64, 65, 66, 67, 68, 69, 70, 71, 72, 73, 74, 75, 76, 77, 78, 79, 80, 81, 82]
theorem k_pos_inj : ∀ i, i < 83 → ∀ j, j < 83 → k_pos.getD i 0 = k_pos.getD j 0 → i = j := by decide +kernel
/-- the memory as it is made -/
def k_σ0 : k_Mem := fun k => match k with
  | 11 => (upd (upd (upd (upd (upd (upd (upd (upd (fun _ => 0) (k_n 0) 0) (k_n 1) 1) (k_n 2) 2) (k_n 3) 3) (k_n 4) 4) (k_n 5) 5) (k_n 6) 6) (k_n 7) 7)
  | 12 => (upd (upd (upd (upd (upd (upd (upd (upd (fun _ => 0) (k_n 0) (-1)) (k_n 1) (-1)) (k_n 2) (-1)) (k_n 3) (-1)) (k_n 4) (-1)) (k_n 5) (-1)) (k_n 6) (-1)) (k_n 7) (-1))
  | 13 => (upd (upd (upd (upd (upd (upd (upd (upd (fun _ => 0) (k_n 0) 0) (k_n 1) 0) (k_n 2) 0) (k_n 3) 0) (k_n 4) 0) (k_n 5) 0) (k_n 6) 0) (k_n 7) 0)
  | 19 => (upd (upd (upd (upd (upd (upd (upd (upd (fun _ => 0) (k_n 0) 0) (k_n 1) 1) (k_n 2) 2) (k_n 3) 3) (k_n 4) 4) (k_n 5) 5) (k_n 6) 6) (k_n 7) 7)
  | 20 => (upd (upd (upd (upd (upd (upd (upd (upd (fun _ => 0) (k_n 0) (-1)) (k_n 1) (-1)) (k_n 2) (-1)) (k_n 3) (-1)) (k_n 4) (-1)) (k_n 5) (-1)) (k_n 6) (-1)) (k_n 7) (-1))
  | 21 => (upd (upd (upd (upd (upd (upd (upd (upd (fun _ => 0) (k_n 0) 0) (k_n 1) 0) (k_n 2) 0) (k_n 3) 0) (k_n 4) 0) (k_n 5) 0) (k_n 6) 0) (k_n 7) 0)
  | 27 => (upd (upd (upd (upd (upd (upd (upd (upd (fun _ => 0) (k_n 0) 0) (k_n 1) 1) (k_n 2) 2) (k_n 3) 3) (k_n 4) 4) (k_n 5) 5) (k_n 6) 6) (k_n 7) 7)
  | 28 => (upd (upd (upd (upd (upd (upd (upd (upd (fun _ => 0) (k_n 0) (-1)) (k_n 1) (-1)) (k_n 2) (-1)) (k_n 3) (-1)) (k_n 4) (-1)) (k_n 5) (-1)) (k_n 6) (-1)) (k_n 7) (-1))
  | 29 => (upd (upd (upd (upd (upd (upd (upd (upd (fun _ => 0) (k_n 0) 0) (k_n 1) 0) (k_n 2) 0) (k_n 3) 0) (k_n 4) 0) (k_n 5) 0) (k_n 6) 0) (k_n 7) 0)
  | 35 => (upd (upd (upd (upd (upd (upd (upd (upd (fun _ => 0) (k_n 0) 0) (k_n 1) 1) (k_n 2) 2) (k_n 3) 3) (k_n 4) 4) (k_n 5) 5) (k_n 6) 6) (k_n 7) 7)
  | 36 => (upd (upd (upd (upd (upd (upd (upd (upd (fun _ => 0) (k_n 0) (-1)) (k_n 1) (-1)) (k_n 2) (-1)) (k_n 3) (-1)) (k_n 4) (-1)) (k_n 5) (-1)) (k_n 6) (-1)) (k_n 7) (-1))
  | 37 => (upd (upd (upd (upd (upd (upd (upd (upd (fun _ => 0) (k_n 0) 0) (k_n 1) 0) (k_n 2) 0) (k_n 3) 0) (k_n 4) 0) (k_n 5) 0) (k_n 6) 0) (k_n 7) 0)
  | 43 => (upd (upd (upd (upd (upd (upd (upd (upd (fun _ => 0) (k_n 0) 0) (k_n 1) 1) (k_n 2) 2) (k_n 3) 3) (k_n 4) 4) (k_n 5) 5) (k_n 6) 6) (k_n 7) 7)
  | 44 => (upd (upd (upd (upd (upd (upd (upd (upd (fun _ => 0) (k_n 0) (-1)) (k_n 1) (-1)) (k_n 2) (-1)) (k_n 3) (-1)) (k_n 4) (-1)) (k_n 5) (-1)) (k_n 6) (-1)) (k_n 7) (-1))
  | 45 => (upd (upd (upd (upd (upd (upd (upd (upd (fun _ => 0) (k_n 0) 0) (k_n 1) 0) (k_n 2) 0) (k_n 3) 0) (k_n 4) 0) (k_n 5) 0) (k_n 6) 0) (k_n 7) 0)
  | 59 => fun j => if j = 1 then (-1) else 0
  | 61 => fun j => if j = 1 then (-1) else 0
  | 63 => fun j => if j = 1 then (-1) else 0
  | 65 => fun j => if j = 1 then (-1) else 0
  | 71 => (upd (upd (upd (upd (upd (upd (upd (upd (upd (upd (upd (fun _ => 0) (k_n 0) 0) (k_n 1) 5) (k_n 2) 11) (k_n 3) 15) (k_n 4) 23) (k_n 5) 26) (k_n 6) 29) (k_n 7) 33) (k_n 8) 36) (k_n 9) 40) (k_n 10) 45)
  | 72 => (upd (upd (upd (upd (upd (upd (upd (upd (upd (upd (upd (upd (upd (upd (upd (upd (upd (upd (upd (upd (upd (upd (upd (upd (upd (upd (upd (upd (upd (upd (upd (upd (upd (upd (upd (upd (upd (upd (upd (upd (upd (upd (upd (upd (upd (fun _ => 0) (k_n 0) 112) (k_n 1) 108) (k_n 2) 97) (k_n 3) 105) (k_n 4) 110) (k_n 5) 116) (k_n 6) 97) (k_n 7) 117) (k_n 8) 103) (k_n 9) 104) (k_n 10) 116) (k_n 11) 118) (k_n 12) 97) (k_n 13) 105) (k_n 14) 110) (k_n 15) 116) (k_n 16) 114) (k_n 17) 101) (k_n 18) 109) (k_n 19) 98) (k_n 20) 108) (k_n 21) 101) (k_n 22) 114) (k_n 23) 112) (k_n 24) 101) (k_n 25) 110) (k_n 26) 114) (k_n 27) 117) (k_n 28) 110) (k_n 29) 102) (k_n 30) 111) (k_n 31) 108) (k_n 32) 100) (k_n 33) 119) (k_n 34) 101) (k_n 35) 100) (k_n 36) 108) (k_n 37) 101) (k_n 38) 102) (k_n 39) 116) (k_n 40) 114) (k_n 41) 105) (k_n 42) 103) (k_n 43) 104) (k_n 44) 116)
  | 80 => (upd (upd (upd (upd (fun _ => 0) (k_n 0) (-4)) (k_n 1) (-4)) (k_n 2) (-4)) (k_n 3) (-4))
  | _ => fun _ => 0
def k_E1 (E : k_EV) (al : List Nat) : k_EV := (E.1, fun k => al.getD (k_pos.getD k 0) 0, E.2.2)
theorem k_arrV {c : ClassId} {n : Nat} {F G : Nat → Value} (h : ∀ j, j < n → F j = G j) : arrV c n F = arrV c n G := by
  unfold arrV
  congr 2
  funext j
  exact h j.val j.isLt
set_option maxRecDepth 100000 in
set_option maxHeartbeats 4000000 in
theorem k_made (E : k_EV) (o0 q1 q2 q3 q4 q5 q6 q7 q8 q9 q10 q11 q12 q13 q14 q15 q16 q17 q18 q19 q20 q21 q22 q23 q24 q25 q26 q27 q28 q29 q30 q31 q32 q33 q34 q35 q36 q37 q38 q39 q40 q41 q42 q43 q44 q45 q46 q47 q48 q49 q50 q51 q52 q53 q54 q55 q56 q57 q58 q59 q60 q61 q62 q63 q64 q65 q66 p0 p1 p2 p3 p4 p5 p6 p7 p8 p9 p10 p11 p12 p13 p14 p15 : Nat) {H : Heap} (hP : va_P E.2.2.1 vwCl [(o0, .inr (6, [.ref q1, .ref q9, .ref q17, .ref q25, .int 0, .ref q33, .ref q35, .ref q44, .ref q53, .ref q57, .ref q58, .int 0])), (q1, .inr (5, [.ref q2, .ref q3, .ref q4, .ref q5, .ref q6, .ref q7, .ref q8, .int 0, .int 0, .int 0, .int 0])), (q2, .inl (E.1 .int, 8, .inl (fun _ => 0))), (q3, .inl (E.1 .int, 8, .inl (fun _ => 0))), (q4, .inl (E.1 .int, 8, .inl (fun _ => 0))), (q5, .inl (E.1 .int, 8, .inl (fun _ => 0))), (q6, .inl (E.1 .int, 8, .inl (upd (upd (upd (upd (upd (upd (upd (upd (fun _ => 0) (k_n 0) 0) (k_n 1) 1) (k_n 2) 2) (k_n 3) 3) (k_n 4) 4) (k_n 5) 5) (k_n 6) 6) (k_n 7) 7))), (q7, .inl (E.1 .int, 8, .inl (upd (upd (upd (upd (upd (upd (upd (upd (fun _ => 0) (k_n 0) (-1)) (k_n 1) (-1)) (k_n 2) (-1)) (k_n 3) (-1)) (k_n 4) (-1)) (k_n 5) (-1)) (k_n 6) (-1)) (k_n 7) (-1)))), (q8, .inl (E.1 .int, 8, .inl (upd (upd (upd (upd (upd (upd (upd (upd (fun _ => 0) (k_n 0) 0) (k_n 1) 0) (k_n 2) 0) (k_n 3) 0) (k_n 4) 0) (k_n 5) 0) (k_n 6) 0) (k_n 7) 0))), (q9, .inr (5, [.ref q10, .ref q11, .ref q12, .ref q13, .ref q14, .ref q15, .ref q16, .int 0, .int 0, .int 0, .int 0])), (q10, .inl (E.1 .int, 8, .inl (fun _ => 0))), (q11, .inl (E.1 .int, 8, .inl (fun _ => 0))), (q12, .inl (E.1 .int, 8, .inl (fun _ => 0))), (q13, .inl (E.1 .int, 8, .inl (fun _ => 0))), (q14, .inl (E.1 .int, 8, .inl (upd (upd (upd (upd (upd (upd (upd (upd (fun _ => 0) (k_n 0) 0) (k_n 1) 1) (k_n 2) 2) (k_n 3) 3) (k_n 4) 4) (k_n 5) 5) (k_n 6) 6) (k_n 7) 7))), (q15, .inl (E.1 .int, 8, .inl (upd (upd (upd (upd (upd (upd (upd (upd (fun _ => 0) (k_n 0) (-1)) (k_n 1) (-1)) (k_n 2) (-1)) (k_n 3) (-1)) (k_n 4) (-1)) (k_n 5) (-1)) (k_n 6) (-1)) (k_n 7) (-1)))), (q16, .inl (E.1 .int, 8, .inl (upd (upd (upd (upd (upd (upd (upd (upd (fun _ => 0) (k_n 0) 0) (k_n 1) 0) (k_n 2) 0) (k_n 3) 0) (k_n 4) 0) (k_n 5) 0) (k_n 6) 0) (k_n 7) 0))), (q17, .inr (5, [.ref q18, .ref q19, .ref q20, .ref q21, .ref q22, .ref q23, .ref q24, .int 0, .int 0, .int 0, .int 0])), (q18, .inl (E.1 .int, 8, .inl (fun _ => 0))), (q19, .inl (E.1 .int, 8, .inl (fun _ => 0))), (q20, .inl (E.1 .int, 8, .inl (fun _ => 0))), (q21, .inl (E.1 .int, 8, .inl (fun _ => 0))), (q22, .inl (E.1 .int, 8, .inl (upd (upd (upd (upd (upd (upd (upd (upd (fun _ => 0) (k_n 0) 0) (k_n 1) 1) (k_n 2) 2) (k_n 3) 3) (k_n 4) 4) (k_n 5) 5) (k_n 6) 6) (k_n 7) 7))), (q23, .inl (E.1 .int, 8, .inl (upd (upd (upd (upd (upd (upd (upd (upd (fun _ => 0) (k_n 0) (-1)) (k_n 1) (-1)) (k_n 2) (-1)) (k_n 3) (-1)) (k_n 4) (-1)) (k_n 5) (-1)) (k_n 6) (-1)) (k_n 7) (-1)))), (q24, .inl (E.1 .int, 8, .inl (upd (upd (upd (upd (upd (upd (upd (upd (fun _ => 0) (k_n 0) 0) (k_n 1) 0) (k_n 2) 0) (k_n 3) 0) (k_n 4) 0) (k_n 5) 0) (k_n 6) 0) (k_n 7) 0))), (q25, .inr (5, [.ref q26, .ref q27, .ref q28, .ref q29, .ref q30, .ref q31, .ref q32, .int 0, .int 0, .int 0, .int 0])), (q26, .inl (E.1 .int, 8, .inl (fun _ => 0))), (q27, .inl (E.1 .int, 8, .inl (fun _ => 0))), (q28, .inl (E.1 .int, 8, .inl (fun _ => 0))), (q29, .inl (E.1 .int, 8, .inl (fun _ => 0))), (q30, .inl (E.1 .int, 8, .inl (upd (upd (upd (upd (upd (upd (upd (upd (fun _ => 0) (k_n 0) 0) (k_n 1) 1) (k_n 2) 2) (k_n 3) 3) (k_n 4) 4) (k_n 5) 5) (k_n 6) 6) (k_n 7) 7))), (q31, .inl (E.1 .int, 8, .inl (upd (upd (upd (upd (upd (upd (upd (upd (fun _ => 0) (k_n 0) (-1)) (k_n 1) (-1)) (k_n 2) (-1)) (k_n 3) (-1)) (k_n 4) (-1)) (k_n 5) (-1)) (k_n 6) (-1)) (k_n 7) (-1)))), (q32, .inl (E.1 .int, 8, .inl (upd (upd (upd (upd (upd (upd (upd (upd (fun _ => 0) (k_n 0) 0) (k_n 1) 0) (k_n 2) 0) (k_n 3) 0) (k_n 4) 0) (k_n 5) 0) (k_n 6) 0) (k_n 7) 0))), (q33, .inr (4, [.ref q34, .int 0, .int 0, .int 0, .int 0, .int 0])), (q34, .inl (E.1 .byte, 160, .inl (fun _ => 0))), (q35, .inr (1, [.ref q33, .ref q36, .int 0, .int 0, .int 0, .int 0])), (q36, .inr (5, [.ref q37, .ref q38, .ref q39, .ref q40, .ref q41, .ref q42, .ref q43, .int 0, .int 0, .int 0, .int 0])), (q37, .inl (E.1 .int, 8, .inl (fun _ => 0))), (q38, .inl (E.1 .int, 8, .inl (fun _ => 0))), (q39, .inl (E.1 .int, 8, .inl (fun _ => 0))), (q40, .inl (E.1 .int, 8, .inl (fun _ => 0))), (q41, .inl (E.1 .int, 8, .inl (upd (upd (upd (upd (upd (upd (upd (upd (fun _ => 0) (k_n 0) 0) (k_n 1) 1) (k_n 2) 2) (k_n 3) 3) (k_n 4) 4) (k_n 5) 5) (k_n 6) 6) (k_n 7) 7))), (q42, .inl (E.1 .int, 8, .inl (upd (upd (upd (upd (upd (upd (upd (upd (fun _ => 0) (k_n 0) (-1)) (k_n 1) (-1)) (k_n 2) (-1)) (k_n 3) (-1)) (k_n 4) (-1)) (k_n 5) (-1)) (k_n 6) (-1)) (k_n 7) (-1)))), (q43, .inl (E.1 .int, 8, .inl (upd (upd (upd (upd (upd (upd (upd (upd (fun _ => 0) (k_n 0) 0) (k_n 1) 0) (k_n 2) 0) (k_n 3) 0) (k_n 4) 0) (k_n 5) 0) (k_n 6) 0) (k_n 7) 0))), (q44, .inr (0, [.ref q45, .ref q46, .ref q47, .ref q48, .ref q49, .ref q50, .ref q51, .ref q52, .int 0])), (q45, .inl (E.1 .int, 8, .inl (fun _ => 0))), (q46, .inl (E.1 .int, 8, .inl (fun _ => 0))), (q47, .inl (E.1 .int, 8, .inl (fun _ => 0))), (q48, .inl (E.1 .int, 64, .inl (fun _ => 0))), (q49, .inl (E.1 .int, 64, .inl (fun _ => 0))), (q50, .inl (E.1 .int, 8, .inl (fun _ => 0))), (q51, .inl (E.1 .int, 8, .inl (fun _ => 0))), (q52, .inl (E.1 .int, 8, .inl (fun _ => 0))), (q53, .inr (3, [.ref q54, .ref q55, .ref q56, .int 0])), (q54, .inl (E.1 .int, 6, .inl (fun _ => 0))), (q55, .inl (E.1 .int, 6, .inl (fun _ => 0))), (q56, .inl (E.1 .int, 6, .inl (fun _ => 0))), (q57, .inl (E.1 .int, 10, .inl (fun _ => 0))), (q58, .inl (E.1 (.object "HandMarket$Sheet"), 4, .inr (.inr (.inr (.inr (va_up (va_up (va_up (va_up (fun _ => none) (k_n 0) (some q59)) (k_n 1) (some q61)) (k_n 2) (some q63)) (k_n 3) (some q65))))))), (q59, .inr (2, [.ref q60, .int (-1), .int 0])), (q60, .inl (E.1 .int, 40, .inl (fun _ => 0))), (q61, .inr (2, [.ref q62, .int (-1), .int 0])), (q62, .inl (E.1 .int, 40, .inl (fun _ => 0))), (q63, .inr (2, [.ref q64, .int (-1), .int 0])), (q64, .inl (E.1 .int, 40, .inl (fun _ => 0))), (q65, .inr (2, [.ref q66, .int (-1), .int 0])), (q66, .inl (E.1 .int, 40, .inl (fun _ => 0))), (p0, .inr (7, [.ref p1, .int 0, .int 0, .ref p2, .int 0, .int 0, .int 0, .int 0, .int 0, .ref p3, .int 0, .int 0, .int 0, .int 0, .int 0, .int 0, .int 0, .int 0, .ref p4, .ref p5, .ref p6, .ref p7, .ref p8, .ref p9, .ref p10, .int 0, .ref p11, .int 0, .ref p12, .ref p13, .ref p14, .ref p15, .int 0])), (p1, .inl (E.1 .int, 250, .inl (fun _ => 0))), (p2, .inl (E.1 .int, 50, .inl (fun _ => 0))), (p3, .inl (E.1 .int, 160, .inl (fun _ => 0))), (p4, .inl (E.1 .int, 11, .inl (upd (upd (upd (upd (upd (upd (upd (upd (upd (upd (upd (fun _ => 0) (k_n 0) 0) (k_n 1) 5) (k_n 2) 11) (k_n 3) 15) (k_n 4) 23) (k_n 5) 26) (k_n 6) 29) (k_n 7) 33) (k_n 8) 36) (k_n 9) 40) (k_n 10) 45))), (p5, .inl (E.1 .int, 45, .inl (upd (upd (upd (upd (upd (upd (upd (upd (upd (upd (upd (upd (upd (upd (upd (upd (upd (upd (upd (upd (upd (upd (upd (upd (upd (upd (upd (upd (upd (upd (upd (upd (upd (upd (upd (upd (upd (upd (upd (upd (upd (upd (upd (upd (upd (fun _ => 0) (k_n 0) 112) (k_n 1) 108) (k_n 2) 97) (k_n 3) 105) (k_n 4) 110) (k_n 5) 116) (k_n 6) 97) (k_n 7) 117) (k_n 8) 103) (k_n 9) 104) (k_n 10) 116) (k_n 11) 118) (k_n 12) 97) (k_n 13) 105) (k_n 14) 110) (k_n 15) 116) (k_n 16) 114) (k_n 17) 101) (k_n 18) 109) (k_n 19) 98) (k_n 20) 108) (k_n 21) 101) (k_n 22) 114) (k_n 23) 112) (k_n 24) 101) (k_n 25) 110) (k_n 26) 114) (k_n 27) 117) (k_n 28) 110) (k_n 29) 102) (k_n 30) 111) (k_n 31) 108) (k_n 32) 100) (k_n 33) 119) (k_n 34) 101) (k_n 35) 100) (k_n 36) 108) (k_n 37) 101) (k_n 38) 102) (k_n 39) 116) (k_n 40) 114) (k_n 41) 105) (k_n 42) 103) (k_n 43) 104) (k_n 44) 116))), (p6, .inl (E.1 .int, 64, .inl (fun _ => 0))), (p7, .inl (E.1 .int, 8, .inl (fun _ => 0))), (p8, .inl (E.1 .int, 8, .inl (fun _ => 0))), (p9, .inl (E.1 .int, 8, .inl (fun _ => 0))), (p10, .inl (E.1 .int, 18, .inl (fun _ => 0))), (p11, .inl (E.1 .int, 24, .inl (fun _ => 0))), (p12, .inl (E.1 .boolean, 2, .inl (fun _ => 0))), (p13, .inl (E.1 .int, 4, .inl (upd (upd (upd (upd (fun _ => 0) (k_n 0) (-4)) (k_n 1) (-4)) (k_n 2) (-4)) (k_n 3) (-4)))), (p14, .inl (E.1 .int, 4, .inl (fun _ => 0))), (p15, .inl (E.1 .int, 160, .inl (fun _ => 0)))] H) : va_P (k_E1 E [o0, q1, q2, q3, q4, q5, q6, q7, q8, q9, q10, q11, q12, q13, q14, q15, q16, q17, q18, q19, q20, q21, q22, q23, q24, q25, q26, q27, q28, q29, q30, q31, q32, q33, q34, q35, q36, q37, q38, q39, q40, q41, q42, q43, q44, q45, q46, q47, q48, q49, q50, q51, q52, q53, q54, q55, q56, q57, q58, q59, q60, q61, q62, q63, q64, q65, q66, p0, p1, p2, p3, p4, p5, p6, p7, p8, p9, p10, p11, p12, p13, p14, p15]).2.2.1 vwCl (k_lay (k_E1 E [o0, q1, q2, q3, q4, q5, q6, q7, q8, q9, q10, q11, q12, q13, q14, q15, q16, q17, q18, q19, q20, q21, q22, q23, q24, q25, q26, q27, q28, q29, q30, q31, q32, q33, q34, q35, q36, q37, q38, q39, q40, q41, q42, q43, q44, q45, q46, q47, q48, q49, q50, q51, q52, q53, q54, q55, q56, q57, q58, q59, q60, q61, q62, q63, q64, q65, q66, p0, p1, p2, p3, p4, p5, p6, p7, p8, p9, p10, p11, p12, p13, p14, p15]) k_σ0) H := by
  intro k q hk
  obtain ⟨hk1, rfl⟩ := k_lay_in hk
  match k, hk1 with
  | 0, _ => exact hP 0 _ rfl
  | 1, _ => exact hP 33 _ rfl
  | 2, _ => exact hP 34 _ rfl
  | 3, _ => exact hP 35 _ rfl
  | 4, _ => exact hP 57 _ rfl
  | 5, _ =>
    have h := hP 58 _ rfl
    refine Eq.trans h ?_
    show some (vp_cell _ (4, _)) = some (vp_cell _ (4, _))
    rw [vp_cell_q, vp_cell_q]
    refine congrArg some (k_arrV (fun j hj => ?_))
    match j, hj with
    | 0, _ => rfl
    | 1, _ => rfl
    | 2, _ => rfl
    | 3, _ => rfl
    | j + 4, h => exact absurd h (by omega)
  | 6, _ => exact hP 1 _ rfl
  | 7, _ => exact hP 2 _ rfl
  | 8, _ => exact hP 3 _ rfl
  | 9, _ => exact hP 4 _ rfl
  | 10, _ => exact hP 5 _ rfl
  | 11, _ => exact hP 6 _ rfl
  | 12, _ => exact hP 7 _ rfl
  | 13, _ => exact hP 8 _ rfl
  | 14, _ => exact hP 9 _ rfl
  | 15, _ => exact hP 10 _ rfl
  | 16, _ => exact hP 11 _ rfl
  | 17, _ => exact hP 12 _ rfl
  | 18, _ => exact hP 13 _ rfl
  | 19, _ => exact hP 14 _ rfl
  | 20, _ => exact hP 15 _ rfl
  | 21, _ => exact hP 16 _ rfl
  | 22, _ => exact hP 17 _ rfl
  | 23, _ => exact hP 18 _ rfl
  | 24, _ => exact hP 19 _ rfl
  | 25, _ => exact hP 20 _ rfl
  | 26, _ => exact hP 21 _ rfl
  | 27, _ => exact hP 22 _ rfl
  | 28, _ => exact hP 23 _ rfl
  | 29, _ => exact hP 24 _ rfl
  | 30, _ => exact hP 25 _ rfl
  | 31, _ => exact hP 26 _ rfl
  | 32, _ => exact hP 27 _ rfl
  | 33, _ => exact hP 28 _ rfl
  | 34, _ => exact hP 29 _ rfl
  | 35, _ => exact hP 30 _ rfl
  | 36, _ => exact hP 31 _ rfl
  | 37, _ => exact hP 32 _ rfl
  | 38, _ => exact hP 36 _ rfl
  | 39, _ => exact hP 37 _ rfl
  | 40, _ => exact hP 38 _ rfl
  | 41, _ => exact hP 39 _ rfl
  | 42, _ => exact hP 40 _ rfl
  | 43, _ => exact hP 41 _ rfl
  | 44, _ => exact hP 42 _ rfl
  | 45, _ => exact hP 43 _ rfl
  | 46, _ => exact hP 44 _ rfl
  | 47, _ => exact hP 45 _ rfl
  | 48, _ => exact hP 46 _ rfl
  | 49, _ => exact hP 47 _ rfl
  | 50, _ => exact hP 48 _ rfl
  | 51, _ => exact hP 49 _ rfl
  | 52, _ => exact hP 50 _ rfl
  | 53, _ => exact hP 51 _ rfl
  | 54, _ => exact hP 52 _ rfl
  | 55, _ => exact hP 53 _ rfl
  | 56, _ => exact hP 54 _ rfl
  | 57, _ => exact hP 55 _ rfl
  | 58, _ => exact hP 56 _ rfl
  | 59, _ => exact hP 59 _ rfl
  | 60, _ => exact hP 60 _ rfl
  | 61, _ => exact hP 61 _ rfl
  | 62, _ => exact hP 62 _ rfl
  | 63, _ => exact hP 63 _ rfl
  | 64, _ => exact hP 64 _ rfl
  | 65, _ => exact hP 65 _ rfl
  | 66, _ => exact hP 66 _ rfl
  | 67, _ => exact hP 67 _ rfl
  | 68, _ => exact hP 68 _ rfl
  | 69, _ => exact hP 69 _ rfl
  | 70, _ => exact hP 70 _ rfl
  | 71, _ => exact hP 71 _ rfl
  | 72, _ => exact hP 72 _ rfl
  | 73, _ => exact hP 73 _ rfl
  | 74, _ => exact hP 74 _ rfl
  | 75, _ => exact hP 75 _ rfl
  | 76, _ => exact hP 76 _ rfl
  | 77, _ => exact hP 77 _ rfl
  | 78, _ => exact hP 78 _ rfl
  | 79, _ => exact hP 79 _ rfl
  | 80, _ => exact hP 80 _ rfl
  | 81, _ => exact hP 81 _ rfl
  | 82, _ => exact hP 82 _ rfl
  | k + 83, h => exact absurd h (by simp only [k_NC]; omega)
set_option maxRecDepth 100000 in
set_option maxHeartbeats 4000000 in
theorem k_made_at (E : k_EV) (o0 q1 q2 q3 q4 q5 q6 q7 q8 q9 q10 q11 q12 q13 q14 q15 q16 q17 q18 q19 q20 q21 q22 q23 q24 q25 q26 q27 q28 q29 q30 q31 q32 q33 q34 q35 q36 q37 q38 q39 q40 q41 q42 q43 q44 q45 q46 q47 q48 q49 q50 q51 q52 q53 q54 q55 q56 q57 q58 q59 q60 q61 q62 q63 q64 q65 q66 p0 p1 p2 p3 p4 p5 p6 p7 p8 p9 p10 p11 p12 p13 p14 p15 : Nat) : ∀ k, k < 83 → ∃ c : va_E, ([(o0, .inr (6, [.ref q1, .ref q9, .ref q17, .ref q25, .int 0, .ref q33, .ref q35, .ref q44, .ref q53, .ref q57, .ref q58, .int 0])), (q1, .inr (5, [.ref q2, .ref q3, .ref q4, .ref q5, .ref q6, .ref q7, .ref q8, .int 0, .int 0, .int 0, .int 0])), (q2, .inl (E.1 .int, 8, .inl (fun _ => 0))), (q3, .inl (E.1 .int, 8, .inl (fun _ => 0))), (q4, .inl (E.1 .int, 8, .inl (fun _ => 0))), (q5, .inl (E.1 .int, 8, .inl (fun _ => 0))), (q6, .inl (E.1 .int, 8, .inl (upd (upd (upd (upd (upd (upd (upd (upd (fun _ => 0) (k_n 0) 0) (k_n 1) 1) (k_n 2) 2) (k_n 3) 3) (k_n 4) 4) (k_n 5) 5) (k_n 6) 6) (k_n 7) 7))), (q7, .inl (E.1 .int, 8, .inl (upd (upd (upd (upd (upd (upd (upd (upd (fun _ => 0) (k_n 0) (-1)) (k_n 1) (-1)) (k_n 2) (-1)) (k_n 3) (-1)) (k_n 4) (-1)) (k_n 5) (-1)) (k_n 6) (-1)) (k_n 7) (-1)))), (q8, .inl (E.1 .int, 8, .inl (upd (upd (upd (upd (upd (upd (upd (upd (fun _ => 0) (k_n 0) 0) (k_n 1) 0) (k_n 2) 0) (k_n 3) 0) (k_n 4) 0) (k_n 5) 0) (k_n 6) 0) (k_n 7) 0))), (q9, .inr (5, [.ref q10, .ref q11, .ref q12, .ref q13, .ref q14, .ref q15, .ref q16, .int 0, .int 0, .int 0, .int 0])), (q10, .inl (E.1 .int, 8, .inl (fun _ => 0))), (q11, .inl (E.1 .int, 8, .inl (fun _ => 0))), (q12, .inl (E.1 .int, 8, .inl (fun _ => 0))), (q13, .inl (E.1 .int, 8, .inl (fun _ => 0))), (q14, .inl (E.1 .int, 8, .inl (upd (upd (upd (upd (upd (upd (upd (upd (fun _ => 0) (k_n 0) 0) (k_n 1) 1) (k_n 2) 2) (k_n 3) 3) (k_n 4) 4) (k_n 5) 5) (k_n 6) 6) (k_n 7) 7))), (q15, .inl (E.1 .int, 8, .inl (upd (upd (upd (upd (upd (upd (upd (upd (fun _ => 0) (k_n 0) (-1)) (k_n 1) (-1)) (k_n 2) (-1)) (k_n 3) (-1)) (k_n 4) (-1)) (k_n 5) (-1)) (k_n 6) (-1)) (k_n 7) (-1)))), (q16, .inl (E.1 .int, 8, .inl (upd (upd (upd (upd (upd (upd (upd (upd (fun _ => 0) (k_n 0) 0) (k_n 1) 0) (k_n 2) 0) (k_n 3) 0) (k_n 4) 0) (k_n 5) 0) (k_n 6) 0) (k_n 7) 0))), (q17, .inr (5, [.ref q18, .ref q19, .ref q20, .ref q21, .ref q22, .ref q23, .ref q24, .int 0, .int 0, .int 0, .int 0])), (q18, .inl (E.1 .int, 8, .inl (fun _ => 0))), (q19, .inl (E.1 .int, 8, .inl (fun _ => 0))), (q20, .inl (E.1 .int, 8, .inl (fun _ => 0))), (q21, .inl (E.1 .int, 8, .inl (fun _ => 0))), (q22, .inl (E.1 .int, 8, .inl (upd (upd (upd (upd (upd (upd (upd (upd (fun _ => 0) (k_n 0) 0) (k_n 1) 1) (k_n 2) 2) (k_n 3) 3) (k_n 4) 4) (k_n 5) 5) (k_n 6) 6) (k_n 7) 7))), (q23, .inl (E.1 .int, 8, .inl (upd (upd (upd (upd (upd (upd (upd (upd (fun _ => 0) (k_n 0) (-1)) (k_n 1) (-1)) (k_n 2) (-1)) (k_n 3) (-1)) (k_n 4) (-1)) (k_n 5) (-1)) (k_n 6) (-1)) (k_n 7) (-1)))), (q24, .inl (E.1 .int, 8, .inl (upd (upd (upd (upd (upd (upd (upd (upd (fun _ => 0) (k_n 0) 0) (k_n 1) 0) (k_n 2) 0) (k_n 3) 0) (k_n 4) 0) (k_n 5) 0) (k_n 6) 0) (k_n 7) 0))), (q25, .inr (5, [.ref q26, .ref q27, .ref q28, .ref q29, .ref q30, .ref q31, .ref q32, .int 0, .int 0, .int 0, .int 0])), (q26, .inl (E.1 .int, 8, .inl (fun _ => 0))), (q27, .inl (E.1 .int, 8, .inl (fun _ => 0))), (q28, .inl (E.1 .int, 8, .inl (fun _ => 0))), (q29, .inl (E.1 .int, 8, .inl (fun _ => 0))), (q30, .inl (E.1 .int, 8, .inl (upd (upd (upd (upd (upd (upd (upd (upd (fun _ => 0) (k_n 0) 0) (k_n 1) 1) (k_n 2) 2) (k_n 3) 3) (k_n 4) 4) (k_n 5) 5) (k_n 6) 6) (k_n 7) 7))), (q31, .inl (E.1 .int, 8, .inl (upd (upd (upd (upd (upd (upd (upd (upd (fun _ => 0) (k_n 0) (-1)) (k_n 1) (-1)) (k_n 2) (-1)) (k_n 3) (-1)) (k_n 4) (-1)) (k_n 5) (-1)) (k_n 6) (-1)) (k_n 7) (-1)))), (q32, .inl (E.1 .int, 8, .inl (upd (upd (upd (upd (upd (upd (upd (upd (fun _ => 0) (k_n 0) 0) (k_n 1) 0) (k_n 2) 0) (k_n 3) 0) (k_n 4) 0) (k_n 5) 0) (k_n 6) 0) (k_n 7) 0))), (q33, .inr (4, [.ref q34, .int 0, .int 0, .int 0, .int 0, .int 0])), (q34, .inl (E.1 .byte, 160, .inl (fun _ => 0))), (q35, .inr (1, [.ref q33, .ref q36, .int 0, .int 0, .int 0, .int 0])), (q36, .inr (5, [.ref q37, .ref q38, .ref q39, .ref q40, .ref q41, .ref q42, .ref q43, .int 0, .int 0, .int 0, .int 0])), (q37, .inl (E.1 .int, 8, .inl (fun _ => 0))), (q38, .inl (E.1 .int, 8, .inl (fun _ => 0))), (q39, .inl (E.1 .int, 8, .inl (fun _ => 0))), (q40, .inl (E.1 .int, 8, .inl (fun _ => 0))), (q41, .inl (E.1 .int, 8, .inl (upd (upd (upd (upd (upd (upd (upd (upd (fun _ => 0) (k_n 0) 0) (k_n 1) 1) (k_n 2) 2) (k_n 3) 3) (k_n 4) 4) (k_n 5) 5) (k_n 6) 6) (k_n 7) 7))), (q42, .inl (E.1 .int, 8, .inl (upd (upd (upd (upd (upd (upd (upd (upd (fun _ => 0) (k_n 0) (-1)) (k_n 1) (-1)) (k_n 2) (-1)) (k_n 3) (-1)) (k_n 4) (-1)) (k_n 5) (-1)) (k_n 6) (-1)) (k_n 7) (-1)))), (q43, .inl (E.1 .int, 8, .inl (upd (upd (upd (upd (upd (upd (upd (upd (fun _ => 0) (k_n 0) 0) (k_n 1) 0) (k_n 2) 0) (k_n 3) 0) (k_n 4) 0) (k_n 5) 0) (k_n 6) 0) (k_n 7) 0))), (q44, .inr (0, [.ref q45, .ref q46, .ref q47, .ref q48, .ref q49, .ref q50, .ref q51, .ref q52, .int 0])), (q45, .inl (E.1 .int, 8, .inl (fun _ => 0))), (q46, .inl (E.1 .int, 8, .inl (fun _ => 0))), (q47, .inl (E.1 .int, 8, .inl (fun _ => 0))), (q48, .inl (E.1 .int, 64, .inl (fun _ => 0))), (q49, .inl (E.1 .int, 64, .inl (fun _ => 0))), (q50, .inl (E.1 .int, 8, .inl (fun _ => 0))), (q51, .inl (E.1 .int, 8, .inl (fun _ => 0))), (q52, .inl (E.1 .int, 8, .inl (fun _ => 0))), (q53, .inr (3, [.ref q54, .ref q55, .ref q56, .int 0])), (q54, .inl (E.1 .int, 6, .inl (fun _ => 0))), (q55, .inl (E.1 .int, 6, .inl (fun _ => 0))), (q56, .inl (E.1 .int, 6, .inl (fun _ => 0))), (q57, .inl (E.1 .int, 10, .inl (fun _ => 0))), (q58, .inl (E.1 (.object "HandMarket$Sheet"), 4, .inr (.inr (.inr (.inr (va_up (va_up (va_up (va_up (fun _ => none) (k_n 0) (some q59)) (k_n 1) (some q61)) (k_n 2) (some q63)) (k_n 3) (some q65))))))), (q59, .inr (2, [.ref q60, .int (-1), .int 0])), (q60, .inl (E.1 .int, 40, .inl (fun _ => 0))), (q61, .inr (2, [.ref q62, .int (-1), .int 0])), (q62, .inl (E.1 .int, 40, .inl (fun _ => 0))), (q63, .inr (2, [.ref q64, .int (-1), .int 0])), (q64, .inl (E.1 .int, 40, .inl (fun _ => 0))), (q65, .inr (2, [.ref q66, .int (-1), .int 0])), (q66, .inl (E.1 .int, 40, .inl (fun _ => 0))), (p0, .inr (7, [.ref p1, .int 0, .int 0, .ref p2, .int 0, .int 0, .int 0, .int 0, .int 0, .ref p3, .int 0, .int 0, .int 0, .int 0, .int 0, .int 0, .int 0, .int 0, .ref p4, .ref p5, .ref p6, .ref p7, .ref p8, .ref p9, .ref p10, .int 0, .ref p11, .int 0, .ref p12, .ref p13, .ref p14, .ref p15, .int 0])), (p1, .inl (E.1 .int, 250, .inl (fun _ => 0))), (p2, .inl (E.1 .int, 50, .inl (fun _ => 0))), (p3, .inl (E.1 .int, 160, .inl (fun _ => 0))), (p4, .inl (E.1 .int, 11, .inl (upd (upd (upd (upd (upd (upd (upd (upd (upd (upd (upd (fun _ => 0) (k_n 0) 0) (k_n 1) 5) (k_n 2) 11) (k_n 3) 15) (k_n 4) 23) (k_n 5) 26) (k_n 6) 29) (k_n 7) 33) (k_n 8) 36) (k_n 9) 40) (k_n 10) 45))), (p5, .inl (E.1 .int, 45, .inl (upd (upd (upd (upd (upd (upd (upd (upd (upd (upd (upd (upd (upd (upd (upd (upd (upd (upd (upd (upd (upd (upd (upd (upd (upd (upd (upd (upd (upd (upd (upd (upd (upd (upd (upd (upd (upd (upd (upd (upd (upd (upd (upd (upd (upd (fun _ => 0) (k_n 0) 112) (k_n 1) 108) (k_n 2) 97) (k_n 3) 105) (k_n 4) 110) (k_n 5) 116) (k_n 6) 97) (k_n 7) 117) (k_n 8) 103) (k_n 9) 104) (k_n 10) 116) (k_n 11) 118) (k_n 12) 97) (k_n 13) 105) (k_n 14) 110) (k_n 15) 116) (k_n 16) 114) (k_n 17) 101) (k_n 18) 109) (k_n 19) 98) (k_n 20) 108) (k_n 21) 101) (k_n 22) 114) (k_n 23) 112) (k_n 24) 101) (k_n 25) 110) (k_n 26) 114) (k_n 27) 117) (k_n 28) 110) (k_n 29) 102) (k_n 30) 111) (k_n 31) 108) (k_n 32) 100) (k_n 33) 119) (k_n 34) 101) (k_n 35) 100) (k_n 36) 108) (k_n 37) 101) (k_n 38) 102) (k_n 39) 116) (k_n 40) 114) (k_n 41) 105) (k_n 42) 103) (k_n 43) 104) (k_n 44) 116))), (p6, .inl (E.1 .int, 64, .inl (fun _ => 0))), (p7, .inl (E.1 .int, 8, .inl (fun _ => 0))), (p8, .inl (E.1 .int, 8, .inl (fun _ => 0))), (p9, .inl (E.1 .int, 8, .inl (fun _ => 0))), (p10, .inl (E.1 .int, 18, .inl (fun _ => 0))), (p11, .inl (E.1 .int, 24, .inl (fun _ => 0))), (p12, .inl (E.1 .boolean, 2, .inl (fun _ => 0))), (p13, .inl (E.1 .int, 4, .inl (upd (upd (upd (upd (fun _ => 0) (k_n 0) (-4)) (k_n 1) (-4)) (k_n 2) (-4)) (k_n 3) (-4)))), (p14, .inl (E.1 .int, 4, .inl (fun _ => 0))), (p15, .inl (E.1 .int, 160, .inl (fun _ => 0)))] : va_W)[k_pos.getD k 0]? = some ((k_E1 E [o0, q1, q2, q3, q4, q5, q6, q7, q8, q9, q10, q11, q12, q13, q14, q15, q16, q17, q18, q19, q20, q21, q22, q23, q24, q25, q26, q27, q28, q29, q30, q31, q32, q33, q34, q35, q36, q37, q38, q39, q40, q41, q42, q43, q44, q45, q46, q47, q48, q49, q50, q51, q52, q53, q54, q55, q56, q57, q58, q59, q60, q61, q62, q63, q64, q65, q66, p0, p1, p2, p3, p4, p5, p6, p7, p8, p9, p10, p11, p12, p13, p14, p15]).2.1 k, c) := by
  intro k hk1
  match k, hk1 with
  | 0, _ => exact ⟨_, rfl⟩
  | 1, _ => exact ⟨_, rfl⟩
  | 2, _ => exact ⟨_, rfl⟩
  | 3, _ => exact ⟨_, rfl⟩
  | 4, _ => exact ⟨_, rfl⟩
  | 5, _ => exact ⟨_, rfl⟩
  | 6, _ => exact ⟨_, rfl⟩
  | 7, _ => exact ⟨_, rfl⟩
  | 8, _ => exact ⟨_, rfl⟩
  | 9, _ => exact ⟨_, rfl⟩
  | 10, _ => exact ⟨_, rfl⟩
  | 11, _ => exact ⟨_, rfl⟩
  | 12, _ => exact ⟨_, rfl⟩
  | 13, _ => exact ⟨_, rfl⟩
  | 14, _ => exact ⟨_, rfl⟩
  | 15, _ => exact ⟨_, rfl⟩
  | 16, _ => exact ⟨_, rfl⟩
  | 17, _ => exact ⟨_, rfl⟩
  | 18, _ => exact ⟨_, rfl⟩
  | 19, _ => exact ⟨_, rfl⟩
  | 20, _ => exact ⟨_, rfl⟩
  | 21, _ => exact ⟨_, rfl⟩
  | 22, _ => exact ⟨_, rfl⟩
  | 23, _ => exact ⟨_, rfl⟩
  | 24, _ => exact ⟨_, rfl⟩
  | 25, _ => exact ⟨_, rfl⟩
  | 26, _ => exact ⟨_, rfl⟩
  | 27, _ => exact ⟨_, rfl⟩
  | 28, _ => exact ⟨_, rfl⟩
  | 29, _ => exact ⟨_, rfl⟩
  | 30, _ => exact ⟨_, rfl⟩
  | 31, _ => exact ⟨_, rfl⟩
  | 32, _ => exact ⟨_, rfl⟩
  | 33, _ => exact ⟨_, rfl⟩
  | 34, _ => exact ⟨_, rfl⟩
  | 35, _ => exact ⟨_, rfl⟩
  | 36, _ => exact ⟨_, rfl⟩
  | 37, _ => exact ⟨_, rfl⟩
  | 38, _ => exact ⟨_, rfl⟩
  | 39, _ => exact ⟨_, rfl⟩
  | 40, _ => exact ⟨_, rfl⟩
  | 41, _ => exact ⟨_, rfl⟩
  | 42, _ => exact ⟨_, rfl⟩
  | 43, _ => exact ⟨_, rfl⟩
  | 44, _ => exact ⟨_, rfl⟩
  | 45, _ => exact ⟨_, rfl⟩
  | 46, _ => exact ⟨_, rfl⟩
  | 47, _ => exact ⟨_, rfl⟩
  | 48, _ => exact ⟨_, rfl⟩
  | 49, _ => exact ⟨_, rfl⟩
  | 50, _ => exact ⟨_, rfl⟩
  | 51, _ => exact ⟨_, rfl⟩
  | 52, _ => exact ⟨_, rfl⟩
  | 53, _ => exact ⟨_, rfl⟩
  | 54, _ => exact ⟨_, rfl⟩
  | 55, _ => exact ⟨_, rfl⟩
  | 56, _ => exact ⟨_, rfl⟩
  | 57, _ => exact ⟨_, rfl⟩
  | 58, _ => exact ⟨_, rfl⟩
  | 59, _ => exact ⟨_, rfl⟩
  | 60, _ => exact ⟨_, rfl⟩
  | 61, _ => exact ⟨_, rfl⟩
  | 62, _ => exact ⟨_, rfl⟩
  | 63, _ => exact ⟨_, rfl⟩
  | 64, _ => exact ⟨_, rfl⟩
  | 65, _ => exact ⟨_, rfl⟩
  | 66, _ => exact ⟨_, rfl⟩
  | 67, _ => exact ⟨_, rfl⟩
  | 68, _ => exact ⟨_, rfl⟩
  | 69, _ => exact ⟨_, rfl⟩
  | 70, _ => exact ⟨_, rfl⟩
  | 71, _ => exact ⟨_, rfl⟩
  | 72, _ => exact ⟨_, rfl⟩
  | 73, _ => exact ⟨_, rfl⟩
  | 74, _ => exact ⟨_, rfl⟩
  | 75, _ => exact ⟨_, rfl⟩
  | 76, _ => exact ⟨_, rfl⟩
  | 77, _ => exact ⟨_, rfl⟩
  | 78, _ => exact ⟨_, rfl⟩
  | 79, _ => exact ⟨_, rfl⟩
  | 80, _ => exact ⟨_, rfl⟩
  | 81, _ => exact ⟨_, rfl⟩
  | 82, _ => exact ⟨_, rfl⟩
  | k + 83, h => exact absurd h (by omega)
theorem k_made_inj (E : k_EV) (o0 q1 q2 q3 q4 q5 q6 q7 q8 q9 q10 q11 q12 q13 q14 q15 q16 q17 q18 q19 q20 q21 q22 q23 q24 q25 q26 q27 q28 q29 q30 q31 q32 q33 q34 q35 q36 q37 q38 q39 q40 q41 q42 q43 q44 q45 q46 q47 q48 q49 q50 q51 q52 q53 q54 q55 q56 q57 q58 q59 q60 q61 q62 q63 q64 q65 q66 p0 p1 p2 p3 p4 p5 p6 p7 p8 p9 p10 p11 p12 p13 p14 p15 : Nat) {A : Nat → Prop} (hD : va_D A [(o0, .inr (6, [.ref q1, .ref q9, .ref q17, .ref q25, .int 0, .ref q33, .ref q35, .ref q44, .ref q53, .ref q57, .ref q58, .int 0])), (q1, .inr (5, [.ref q2, .ref q3, .ref q4, .ref q5, .ref q6, .ref q7, .ref q8, .int 0, .int 0, .int 0, .int 0])), (q2, .inl (E.1 .int, 8, .inl (fun _ => 0))), (q3, .inl (E.1 .int, 8, .inl (fun _ => 0))), (q4, .inl (E.1 .int, 8, .inl (fun _ => 0))), (q5, .inl (E.1 .int, 8, .inl (fun _ => 0))), (q6, .inl (E.1 .int, 8, .inl (upd (upd (upd (upd (upd (upd (upd (upd (fun _ => 0) (k_n 0) 0) (k_n 1) 1) (k_n 2) 2) (k_n 3) 3) (k_n 4) 4) (k_n 5) 5) (k_n 6) 6) (k_n 7) 7))), (q7, .inl (E.1 .int, 8, .inl (upd (upd (upd (upd (upd (upd (upd (upd (fun _ => 0) (k_n 0) (-1)) (k_n 1) (-1)) (k_n 2) (-1)) (k_n 3) (-1)) (k_n 4) (-1)) (k_n 5) (-1)) (k_n 6) (-1)) (k_n 7) (-1)))), (q8, .inl (E.1 .int, 8, .inl (upd (upd (upd (upd (upd (upd (upd (upd (fun _ => 0) (k_n 0) 0) (k_n 1) 0) (k_n 2) 0) (k_n 3) 0) (k_n 4) 0) (k_n 5) 0) (k_n 6) 0) (k_n 7) 0))), (q9, .inr (5, [.ref q10, .ref q11, .ref q12, .ref q13, .ref q14, .ref q15, .ref q16, .int 0, .int 0, .int 0, .int 0])), (q10, .inl (E.1 .int, 8, .inl (fun _ => 0))), (q11, .inl (E.1 .int, 8, .inl (fun _ => 0))), (q12, .inl (E.1 .int, 8, .inl (fun _ => 0))), (q13, .inl (E.1 .int, 8, .inl (fun _ => 0))), (q14, .inl (E.1 .int, 8, .inl (upd (upd (upd (upd (upd (upd (upd (upd (fun _ => 0) (k_n 0) 0) (k_n 1) 1) (k_n 2) 2) (k_n 3) 3) (k_n 4) 4) (k_n 5) 5) (k_n 6) 6) (k_n 7) 7))), (q15, .inl (E.1 .int, 8, .inl (upd (upd (upd (upd (upd (upd (upd (upd (fun _ => 0) (k_n 0) (-1)) (k_n 1) (-1)) (k_n 2) (-1)) (k_n 3) (-1)) (k_n 4) (-1)) (k_n 5) (-1)) (k_n 6) (-1)) (k_n 7) (-1)))), (q16, .inl (E.1 .int, 8, .inl (upd (upd (upd (upd (upd (upd (upd (upd (fun _ => 0) (k_n 0) 0) (k_n 1) 0) (k_n 2) 0) (k_n 3) 0) (k_n 4) 0) (k_n 5) 0) (k_n 6) 0) (k_n 7) 0))), (q17, .inr (5, [.ref q18, .ref q19, .ref q20, .ref q21, .ref q22, .ref q23, .ref q24, .int 0, .int 0, .int 0, .int 0])), (q18, .inl (E.1 .int, 8, .inl (fun _ => 0))), (q19, .inl (E.1 .int, 8, .inl (fun _ => 0))), (q20, .inl (E.1 .int, 8, .inl (fun _ => 0))), (q21, .inl (E.1 .int, 8, .inl (fun _ => 0))), (q22, .inl (E.1 .int, 8, .inl (upd (upd (upd (upd (upd (upd (upd (upd (fun _ => 0) (k_n 0) 0) (k_n 1) 1) (k_n 2) 2) (k_n 3) 3) (k_n 4) 4) (k_n 5) 5) (k_n 6) 6) (k_n 7) 7))), (q23, .inl (E.1 .int, 8, .inl (upd (upd (upd (upd (upd (upd (upd (upd (fun _ => 0) (k_n 0) (-1)) (k_n 1) (-1)) (k_n 2) (-1)) (k_n 3) (-1)) (k_n 4) (-1)) (k_n 5) (-1)) (k_n 6) (-1)) (k_n 7) (-1)))), (q24, .inl (E.1 .int, 8, .inl (upd (upd (upd (upd (upd (upd (upd (upd (fun _ => 0) (k_n 0) 0) (k_n 1) 0) (k_n 2) 0) (k_n 3) 0) (k_n 4) 0) (k_n 5) 0) (k_n 6) 0) (k_n 7) 0))), (q25, .inr (5, [.ref q26, .ref q27, .ref q28, .ref q29, .ref q30, .ref q31, .ref q32, .int 0, .int 0, .int 0, .int 0])), (q26, .inl (E.1 .int, 8, .inl (fun _ => 0))), (q27, .inl (E.1 .int, 8, .inl (fun _ => 0))), (q28, .inl (E.1 .int, 8, .inl (fun _ => 0))), (q29, .inl (E.1 .int, 8, .inl (fun _ => 0))), (q30, .inl (E.1 .int, 8, .inl (upd (upd (upd (upd (upd (upd (upd (upd (fun _ => 0) (k_n 0) 0) (k_n 1) 1) (k_n 2) 2) (k_n 3) 3) (k_n 4) 4) (k_n 5) 5) (k_n 6) 6) (k_n 7) 7))), (q31, .inl (E.1 .int, 8, .inl (upd (upd (upd (upd (upd (upd (upd (upd (fun _ => 0) (k_n 0) (-1)) (k_n 1) (-1)) (k_n 2) (-1)) (k_n 3) (-1)) (k_n 4) (-1)) (k_n 5) (-1)) (k_n 6) (-1)) (k_n 7) (-1)))), (q32, .inl (E.1 .int, 8, .inl (upd (upd (upd (upd (upd (upd (upd (upd (fun _ => 0) (k_n 0) 0) (k_n 1) 0) (k_n 2) 0) (k_n 3) 0) (k_n 4) 0) (k_n 5) 0) (k_n 6) 0) (k_n 7) 0))), (q33, .inr (4, [.ref q34, .int 0, .int 0, .int 0, .int 0, .int 0])), (q34, .inl (E.1 .byte, 160, .inl (fun _ => 0))), (q35, .inr (1, [.ref q33, .ref q36, .int 0, .int 0, .int 0, .int 0])), (q36, .inr (5, [.ref q37, .ref q38, .ref q39, .ref q40, .ref q41, .ref q42, .ref q43, .int 0, .int 0, .int 0, .int 0])), (q37, .inl (E.1 .int, 8, .inl (fun _ => 0))), (q38, .inl (E.1 .int, 8, .inl (fun _ => 0))), (q39, .inl (E.1 .int, 8, .inl (fun _ => 0))), (q40, .inl (E.1 .int, 8, .inl (fun _ => 0))), (q41, .inl (E.1 .int, 8, .inl (upd (upd (upd (upd (upd (upd (upd (upd (fun _ => 0) (k_n 0) 0) (k_n 1) 1) (k_n 2) 2) (k_n 3) 3) (k_n 4) 4) (k_n 5) 5) (k_n 6) 6) (k_n 7) 7))), (q42, .inl (E.1 .int, 8, .inl (upd (upd (upd (upd (upd (upd (upd (upd (fun _ => 0) (k_n 0) (-1)) (k_n 1) (-1)) (k_n 2) (-1)) (k_n 3) (-1)) (k_n 4) (-1)) (k_n 5) (-1)) (k_n 6) (-1)) (k_n 7) (-1)))), (q43, .inl (E.1 .int, 8, .inl (upd (upd (upd (upd (upd (upd (upd (upd (fun _ => 0) (k_n 0) 0) (k_n 1) 0) (k_n 2) 0) (k_n 3) 0) (k_n 4) 0) (k_n 5) 0) (k_n 6) 0) (k_n 7) 0))), (q44, .inr (0, [.ref q45, .ref q46, .ref q47, .ref q48, .ref q49, .ref q50, .ref q51, .ref q52, .int 0])), (q45, .inl (E.1 .int, 8, .inl (fun _ => 0))), (q46, .inl (E.1 .int, 8, .inl (fun _ => 0))), (q47, .inl (E.1 .int, 8, .inl (fun _ => 0))), (q48, .inl (E.1 .int, 64, .inl (fun _ => 0))), (q49, .inl (E.1 .int, 64, .inl (fun _ => 0))), (q50, .inl (E.1 .int, 8, .inl (fun _ => 0))), (q51, .inl (E.1 .int, 8, .inl (fun _ => 0))), (q52, .inl (E.1 .int, 8, .inl (fun _ => 0))), (q53, .inr (3, [.ref q54, .ref q55, .ref q56, .int 0])), (q54, .inl (E.1 .int, 6, .inl (fun _ => 0))), (q55, .inl (E.1 .int, 6, .inl (fun _ => 0))), (q56, .inl (E.1 .int, 6, .inl (fun _ => 0))), (q57, .inl (E.1 .int, 10, .inl (fun _ => 0))), (q58, .inl (E.1 (.object "HandMarket$Sheet"), 4, .inr (.inr (.inr (.inr (va_up (va_up (va_up (va_up (fun _ => none) (k_n 0) (some q59)) (k_n 1) (some q61)) (k_n 2) (some q63)) (k_n 3) (some q65))))))), (q59, .inr (2, [.ref q60, .int (-1), .int 0])), (q60, .inl (E.1 .int, 40, .inl (fun _ => 0))), (q61, .inr (2, [.ref q62, .int (-1), .int 0])), (q62, .inl (E.1 .int, 40, .inl (fun _ => 0))), (q63, .inr (2, [.ref q64, .int (-1), .int 0])), (q64, .inl (E.1 .int, 40, .inl (fun _ => 0))), (q65, .inr (2, [.ref q66, .int (-1), .int 0])), (q66, .inl (E.1 .int, 40, .inl (fun _ => 0))), (p0, .inr (7, [.ref p1, .int 0, .int 0, .ref p2, .int 0, .int 0, .int 0, .int 0, .int 0, .ref p3, .int 0, .int 0, .int 0, .int 0, .int 0, .int 0, .int 0, .int 0, .ref p4, .ref p5, .ref p6, .ref p7, .ref p8, .ref p9, .ref p10, .int 0, .ref p11, .int 0, .ref p12, .ref p13, .ref p14, .ref p15, .int 0])), (p1, .inl (E.1 .int, 250, .inl (fun _ => 0))), (p2, .inl (E.1 .int, 50, .inl (fun _ => 0))), (p3, .inl (E.1 .int, 160, .inl (fun _ => 0))), (p4, .inl (E.1 .int, 11, .inl (upd (upd (upd (upd (upd (upd (upd (upd (upd (upd (upd (fun _ => 0) (k_n 0) 0) (k_n 1) 5) (k_n 2) 11) (k_n 3) 15) (k_n 4) 23) (k_n 5) 26) (k_n 6) 29) (k_n 7) 33) (k_n 8) 36) (k_n 9) 40) (k_n 10) 45))), (p5, .inl (E.1 .int, 45, .inl (upd (upd (upd (upd (upd (upd (upd (upd (upd (upd (upd (upd (upd (upd (upd (upd (upd (upd (upd (upd (upd (upd (upd (upd (upd (upd (upd (upd (upd (upd (upd (upd (upd (upd (upd (upd (upd (upd (upd (upd (upd (upd (upd (upd (upd (fun _ => 0) (k_n 0) 112) (k_n 1) 108) (k_n 2) 97) (k_n 3) 105) (k_n 4) 110) (k_n 5) 116) (k_n 6) 97) (k_n 7) 117) (k_n 8) 103) (k_n 9) 104) (k_n 10) 116) (k_n 11) 118) (k_n 12) 97) (k_n 13) 105) (k_n 14) 110) (k_n 15) 116) (k_n 16) 114) (k_n 17) 101) (k_n 18) 109) (k_n 19) 98) (k_n 20) 108) (k_n 21) 101) (k_n 22) 114) (k_n 23) 112) (k_n 24) 101) (k_n 25) 110) (k_n 26) 114) (k_n 27) 117) (k_n 28) 110) (k_n 29) 102) (k_n 30) 111) (k_n 31) 108) (k_n 32) 100) (k_n 33) 119) (k_n 34) 101) (k_n 35) 100) (k_n 36) 108) (k_n 37) 101) (k_n 38) 102) (k_n 39) 116) (k_n 40) 114) (k_n 41) 105) (k_n 42) 103) (k_n 43) 104) (k_n 44) 116))), (p6, .inl (E.1 .int, 64, .inl (fun _ => 0))), (p7, .inl (E.1 .int, 8, .inl (fun _ => 0))), (p8, .inl (E.1 .int, 8, .inl (fun _ => 0))), (p9, .inl (E.1 .int, 8, .inl (fun _ => 0))), (p10, .inl (E.1 .int, 18, .inl (fun _ => 0))), (p11, .inl (E.1 .int, 24, .inl (fun _ => 0))), (p12, .inl (E.1 .boolean, 2, .inl (fun _ => 0))), (p13, .inl (E.1 .int, 4, .inl (upd (upd (upd (upd (fun _ => 0) (k_n 0) (-4)) (k_n 1) (-4)) (k_n 2) (-4)) (k_n 3) (-4)))), (p14, .inl (E.1 .int, 4, .inl (fun _ => 0))), (p15, .inl (E.1 .int, 160, .inl (fun _ => 0)))]) : k_inj (k_E1 E [o0, q1, q2, q3, q4, q5, q6, q7, q8, q9, q10, q11, q12, q13, q14, q15, q16, q17, q18, q19, q20, q21, q22, q23, q24, q25, q26, q27, q28, q29, q30, q31, q32, q33, q34, q35, q36, q37, q38, q39, q40, q41, q42, q43, q44, q45, q46, q47, q48, q49, q50, q51, q52, q53, q54, q55, q56, q57, q58, q59, q60, q61, q62, q63, q64, q65, q66, p0, p1, p2, p3, p4, p5, p6, p7, p8, p9, p10, p11, p12, p13, p14, p15]) ∧ ∀ k, k < k_NC → A ((k_E1 E [o0, q1, q2, q3, q4, q5, q6, q7, q8, q9, q10, q11, q12, q13, q14, q15, q16, q17, q18, q19, q20, q21, q22, q23, q24, q25, q26, q27, q28, q29, q30, q31, q32, q33, q34, q35, q36, q37, q38, q39, q40, q41, q42, q43, q44, q45, q46, q47, q48, q49, q50, q51, q52, q53, q54, q55, q56, q57, q58, q59, q60, q61, q62, q63, q64, q65, q66, p0, p1, p2, p3, p4, p5, p6, p7, p8, p9, p10, p11, p12, p13, p14, p15]).2.1 k) := by
  refine ⟨fun i j hi hj e => ?_, fun k hk => ?_⟩
  · obtain ⟨c1, h1⟩ := k_made_at E o0 q1 q2 q3 q4 q5 q6 q7 q8 q9 q10 q11 q12 q13 q14 q15 q16 q17 q18 q19 q20 q21 q22 q23 q24 q25 q26 q27 q28 q29 q30 q31 q32 q33 q34 q35 q36 q37 q38 q39 q40 q41 q42 q43 q44 q45 q46 q47 q48 q49 q50 q51 q52 q53 q54 q55 q56 q57 q58 q59 q60 q61 q62 q63 q64 q65 q66 p0 p1 p2 p3 p4 p5 p6 p7 p8 p9 p10 p11 p12 p13 p14 p15 i hi
    obtain ⟨c2, h2⟩ := k_made_at E o0 q1 q2 q3 q4 q5 q6 q7 q8 q9 q10 q11 q12 q13 q14 q15 q16 q17 q18 q19 q20 q21 q22 q23 q24 q25 q26 q27 q28 q29 q30 q31 q32 q33 q34 q35 q36 q37 q38 q39 q40 q41 q42 q43 q44 q45 q46 q47 q48 q49 q50 q51 q52 q53 q54 q55 q56 q57 q58 q59 q60 q61 q62 q63 q64 q65 q66 p0 p1 p2 p3 p4 p5 p6 p7 p8 p9 p10 p11 p12 p13 p14 p15 j hj
    exact k_pos_inj i hi j hj (hD.1 _ _ _ _ h1 h2 e)
  · obtain ⟨c1, h1⟩ := k_made_at E o0 q1 q2 q3 q4 q5 q6 q7 q8 q9 q10 q11 q12 q13 q14 q15 q16 q17 q18 q19 q20 q21 q22 q23 q24 q25 q26 q27 q28 q29 q30 q31 q32 q33 q34 q35 q36 q37 q38 q39 q40 q41 q42 q43 q44 q45 q46 q47 q48 q49 q50 q51 q52 q53 q54 q55 q56 q57 q58 q59 q60 q61 q62 q63 q64 q65 q66 p0 p1 p2 p3 p4 p5 p6 p7 p8 p9 p10 p11 p12 p13 p14 p15 k hk
    exact hD.2 _ _ h1
def k_tm (i : Nat) : Term := .string RX1 (k_spool.getD i (0, "", 0)).1
def k_nar : List Cond := flatC (Jvm.Cond.and given_1 narrow_1)
theorem k_n1 : ∀ i, i < 10 → Cond.exactly (k_tm i) "java/lang/String" ∈ k_nar := by decide +kernel
theorem k_n2 : ∀ i, i < 10 → Cond.eq (.field (k_tm i) "java/lang/String" "coder" "B") (.int 0) ∈ k_nar := by decide +kernel
theorem k_n3 : ∀ i, i < 10 → Cond.arrayOf (.field (k_tm i) "java/lang/String" "value" "[B") .byte ∈ k_nar := by decide +kernel
theorem k_n4 : ∀ i, i < 10 → Cond.eq (.length (.field (k_tm i) "java/lang/String" "value" "[B")) (.int (Int32.ofNat (k_slen.getD i 0))) ∈ k_nar := by decide +kernel
theorem k_n5 : ∀ i, i < 10 → ∀ j, j < k_slen.getD i 0 → Cond.eq (.elem (.field (k_tm i) "java/lang/String" "value" "[B") (.int (Int32.ofNat j))) (.int ((k_sbyt.getD i []).getD j 0)) ∈ k_nar := by decide +kernel
theorem k_n6 : ∀ i, i < 10 → ∀ j, j < 10 → i ≠ j → Cond.not (Cond.eq (k_tm i) (k_tm j)) ∈ k_nar ∨ Cond.not (Cond.eq (k_tm j) (k_tm i)) ∈ k_nar := by decide +kernel
theorem k_n7 : Cond.eq (.static "java/lang/String" "COMPACT_STRINGS" "Z") (.int 1) ∈ k_nar := by decide +kernel
theorem k_n8 : Cond.isRef (.static "jdk/internal/util/Preconditions" "SIOOBE_FORMATTER" "Ljava/util/function/BiFunction;") ∈ k_nar := by decide +kernel
theorem k_sp : ∀ q ∈ k_spool, q.2.2 < 10 ∧ k_tm q.2.2 = .string RX1 q.1 := by decide +kernel
theorem k_sr : ∀ q ∈ k_spool, Cond.stringRef RX1 q.1 q.2.1 ∈ lw_tbl := by decide +kernel
theorem k_tbl_in {w : Cond} (h : w ∈ k_tbl) : w ∈ lw_tbl := (List.mem_filter.mp h).1
