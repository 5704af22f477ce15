/-! java/lang/Integer.bitCount(I)I -/
def f_J6_bitCount_0f7a4  (x0 : Int32) (σ : k_Mem) : Option (Int32 × k_Mem) :=
  k_lt ((((((x0 - ((k_ushr x0 1) &&& 1431655765)) &&& 858993459) + ((k_ushr (x0 - ((k_ushr x0 1) &&& 1431655765)) 2) &&& 858993459)) + (k_ushr (((x0 - ((k_ushr x0 1) &&& 1431655765)) &&& 858993459) + ((k_ushr (x0 - ((k_ushr x0 1) &&& 1431655765)) 2) &&& 858993459)) 4)) &&& 252645135)) (fun z1 =>
    some ((((z1 + (k_ushr z1 8)) + (k_ushr (z1 + (k_ushr z1 8)) 16)) &&& 63), σ)
  )
set_option maxRecDepth 100000 in
theorem c_J6_bitCount_0f7a4 (E : k_EV)   (x0 : Int32) (σ : k_Mem) : k_MC m_J6_bitCount_0f7a4 E k_vi [.int x0] σ (f_J6_bitCount_0f7a4 x0 σ) := by
  refine k_MC_of ⟨by decide, by decide⟩ (Nat.le_of_ble_eq_true rfl) ?_
  show k_GO _ _ _ 0 [(0, .int x0)] [] σ _
  unfold f_J6_bitCount_0f7a4
  refine r_iload_n 0 rfl rfl 1 rfl dJ6_bitCount_0f7a4_0 ?_
  refine r_iload_n 0 rfl rfl 2 rfl dJ6_bitCount_0f7a4_1 ?_
  refine r_iconst 1 (by decide) 3 rfl dJ6_bitCount_0f7a4_2 ?_
  refine r_iushr 4 rfl dJ6_bitCount_0f7a4_3 ?_
  refine r_ldcw cs_J6_265 7 rfl dJ6_bitCount_0f7a4_4 ?_
  refine r_iand 8 rfl dJ6_bitCount_0f7a4_7 ?_
  refine r_isub 9 rfl dJ6_bitCount_0f7a4_8 ?_
  refine r_istore_n [(0, .int _)] rfl rfl (by decide) 10 rfl dJ6_bitCount_0f7a4_9 ?_
  refine r_iload_n 0 rfl rfl 11 rfl dJ6_bitCount_0f7a4_10 ?_
  refine r_ldcw cs_J6_266 14 rfl dJ6_bitCount_0f7a4_11 ?_
  refine r_iand 15 rfl dJ6_bitCount_0f7a4_14 ?_
  refine r_iload_n 0 rfl rfl 16 rfl dJ6_bitCount_0f7a4_15 ?_
  refine r_iconst 2 (by decide) 17 rfl dJ6_bitCount_0f7a4_16 ?_
  refine r_iushr 18 rfl dJ6_bitCount_0f7a4_17 ?_
  refine r_ldcw cs_J6_266 21 rfl dJ6_bitCount_0f7a4_18 ?_
  refine r_iand 22 rfl dJ6_bitCount_0f7a4_21 ?_
  refine r_iadd 23 rfl dJ6_bitCount_0f7a4_22 ?_
  refine r_istore_n [(0, .int _)] rfl rfl (by decide) 24 rfl dJ6_bitCount_0f7a4_23 ?_
  refine r_iload_n 0 rfl rfl 25 rfl dJ6_bitCount_0f7a4_24 ?_
  refine r_iload_n 0 rfl rfl 26 rfl dJ6_bitCount_0f7a4_25 ?_
  refine r_iconst 4 (by decide) 27 rfl dJ6_bitCount_0f7a4_26 ?_
  refine r_iushr 28 rfl dJ6_bitCount_0f7a4_27 ?_
  refine r_iadd 29 rfl dJ6_bitCount_0f7a4_28 ?_
  refine r_ldcw cs_J6_267 32 rfl dJ6_bitCount_0f7a4_29 ?_
  refine r_iand 33 rfl dJ6_bitCount_0f7a4_32 ?_
  refine r_lt ?_
  refine r_istore_n [(0, .int _)] rfl rfl (by decide) 34 rfl dJ6_bitCount_0f7a4_33 ?_
  refine r_iload_n 0 rfl rfl 35 rfl dJ6_bitCount_0f7a4_34 ?_
  refine r_iload_n 0 rfl rfl 36 rfl dJ6_bitCount_0f7a4_35 ?_
  refine r_bipush 8 (by decide) 38 rfl dJ6_bitCount_0f7a4_36 ?_
  refine r_iushr 39 rfl dJ6_bitCount_0f7a4_38 ?_
  refine r_iadd 40 rfl dJ6_bitCount_0f7a4_39 ?_
  refine r_istore_n [(0, .int _)] rfl rfl (by decide) 41 rfl dJ6_bitCount_0f7a4_40 ?_
  refine r_iload_n 0 rfl rfl 42 rfl dJ6_bitCount_0f7a4_41 ?_
  refine r_iload_n 0 rfl rfl 43 rfl dJ6_bitCount_0f7a4_42 ?_
  refine r_bipush 16 (by decide) 45 rfl dJ6_bitCount_0f7a4_43 ?_
  refine r_iushr 46 rfl dJ6_bitCount_0f7a4_45 ?_
  refine r_iadd 47 rfl dJ6_bitCount_0f7a4_46 ?_
  refine r_istore_n [(0, .int _)] rfl rfl (by decide) 48 rfl dJ6_bitCount_0f7a4_47 ?_
  refine r_iload_n 0 rfl rfl 49 rfl dJ6_bitCount_0f7a4_48 ?_
  refine r_bipush 63 (by decide) 51 rfl dJ6_bitCount_0f7a4_49 ?_
  refine r_iand 52 rfl dJ6_bitCount_0f7a4_51 ?_
  exact r_iret rfl dJ6_bitCount_0f7a4_52
/-! java/util/Arrays.fill([II)V -/
def l_J7_fill_53178_5 (o0 : Nat) (n0 : Nat)  : Nat → Int32 → Int32 → Int32 → k_Mem → Option (Unit × k_Mem)
  | 0, _, _, _, _ => none
  | n + 1, x1, x2, x3, σ =>
    if x3 ≤ x2 then (
      some ((), σ)
    ) else (
      if k_in x2 n0 then (
        l_J7_fill_53178_5 o0 n0  n x1 (x2 + 1) x3 (k_mset σ o0 (k_n x2) x1)
      ) else none
    )
set_option maxRecDepth 100000 in
theorem gl_J7_fill_53178_5 (E : k_EV) (o0 : Nat) (n0 : Nat) (ho0 : k_SH o0 = .inl (.int, n0, none))   : ∀ (n : Nat) (x1 : Int32) (x2 : Int32) (x3 : Int32)  (σ : k_Mem), k_GO m_J7_fill_53178 E k_vv 5 [(0, k_rf E o0), (1, .int x1), (2, .int x2), (3, .int x3)] [] σ (l_J7_fill_53178_5 o0 n0  n x1 x2 x3 σ) := by
  intro n
  induction n with
  | zero => intro x1 x2 x3  σ; exact r_none
  | succ n ih =>
    intro x1 x2 x3  σ
    rw [l_J7_fill_53178_5]
    refine r_iload_n 2 rfl rfl 6 rfl dJ7_fill_53178_5 ?_
    refine r_iload_n 3 rfl rfl 7 rfl dJ7_fill_53178_6 ?_
    refine r_icmp_ge 20 10 rfl (by decide) dJ7_fill_53178_7 (fun c1 => ?_) (fun c1 => ?_)
    · exact r_vret rfl dJ7_fill_53178_20
    · refine r_aload_n 0 rfl rfl 11 rfl dJ7_fill_53178_10 ?_
      refine r_iload_n 2 rfl rfl 12 rfl dJ7_fill_53178_11 ?_
      refine r_iload_n 1 rfl rfl 13 rfl dJ7_fill_53178_12 ?_
      refine r_iast ho0 14 rfl dJ7_fill_53178_13 ?_
      refine r_iinc 1 (by decide) 2 rfl [(2, .int _), (0, k_rf E o0), (1, .int _), (3, .int _)] rfl (by decide) 17 rfl dJ7_fill_53178_14 ?_
      refine r_goto 5 (by decide) dJ7_fill_53178_17 ?_
      exact r_sub [1, 2, 0, 3] rfl (ih _ _ _  _)
def f_J7_fill_53178 (o0 : Nat) (n0 : Nat) (x1 : Int32) (σ : k_Mem) : Option (Unit × k_Mem) :=
  l_J7_fill_53178_5 o0 n0  1000 x1 0 (nI n0) σ
set_option maxRecDepth 100000 in
theorem c_J7_fill_53178 (E : k_EV) (o0 : Nat) (n0 : Nat) (ho0 : k_SH o0 = .inl (.int, n0, none)) (x1 : Int32) (σ : k_Mem) : k_MC m_J7_fill_53178 E k_vv [k_rf E o0, .int x1] σ (f_J7_fill_53178 o0 n0 x1 σ) := by
  refine k_MC_of ⟨by decide, by decide⟩ (Nat.le_of_ble_eq_true rfl) ?_
  show k_GO _ _ _ 0 [(0, k_rf E o0), (1, .int x1)] [] σ _
  unfold f_J7_fill_53178
  refine r_iconst 0 (by decide) 1 rfl dJ7_fill_53178_0 ?_
  refine r_istore_n [(2, .int _), (0, k_rf E o0), (1, .int _)] rfl rfl (by decide) 2 rfl dJ7_fill_53178_1 ?_
  refine r_aload_n 1 rfl rfl 3 rfl dJ7_fill_53178_2 ?_
  refine r_alen ho0 4 rfl dJ7_fill_53178_3 ?_
  refine r_istore_n [(3, .int _), (2, .int _), (0, k_rf E o0), (1, .int _)] rfl rfl (by decide) 5 rfl dJ7_fill_53178_4 ?_
  exact r_sub [2, 3, 1, 0] rfl (gl_J7_fill_53178_5 E o0 n0 ho0   1000 _ _ _  _)
/-! HandMarket$Town.clear()V -/
def l_X5_clear_2 (b0 : Nat)  : Nat → Int32 → k_Mem → Option (Unit × k_Mem)
  | 0, _, _ => none
  | n + 1, x1, σ =>
    if 8 ≤ x1 then (
      some ((), (k_mset (k_mset (k_mset (k_mset σ b0 7 0) b0 8 0) b0 9 0) b0 10 0))
    ) else (
      if k_in x1 8 then (
        if k_in x1 8 then (
          if k_in x1 8 then (
            l_X5_clear_2 b0  n (x1 + 1) (k_mset (k_mset (k_mset σ (b0 + 5) (k_n x1) x1) (b0 + 6) (k_n x1) (-1)) (b0 + 7) (k_n x1) 0)
          ) else none
        ) else none
      ) else none
    )
set_option maxRecDepth 100000 in
theorem gl_X5_clear_2 (E : k_EV) (b0 : Nat) (hb0 : k_isT b0)   : ∀ (n : Nat) (x1 : Int32)  (σ : k_Mem), k_GO m_X5_clear E k_vv 2 [(0, k_rf E b0), (1, .int x1)] [] σ (l_X5_clear_2 b0  n x1 σ) := by
  intro n
  induction n with
  | zero => intro x1  σ; exact r_none
  | succ n ih =>
    intro x1  σ
    rw [l_X5_clear_2]
    refine r_iload_n 1 rfl rfl 3 rfl dX5_clear_2 ?_
    refine r_bipush 8 (by decide) 5 rfl dX5_clear_3 ?_
    refine r_icmp_ge 35 8 rfl (by decide) dX5_clear_5 (fun c1 => ?_) (fun c1 => ?_)
    · refine r_aload_n 0 rfl rfl 36 rfl dX5_clear_35 ?_
      refine r_iconst 0 (by decide) 37 rfl dX5_clear_36 ?_
      refine r_puti fp_X5_36 hb0.1 rfl 40 rfl dX5_clear_37 ?_
      refine r_aload_n 0 rfl rfl 41 rfl dX5_clear_40 ?_
      refine r_iconst 0 (by decide) 42 rfl dX5_clear_41 ?_
      refine r_puti fp_X5_40 hb0.1 rfl 45 rfl dX5_clear_42 ?_
      refine r_aload_n 0 rfl rfl 46 rfl dX5_clear_45 ?_
      refine r_iconst 0 (by decide) 47 rfl dX5_clear_46 ?_
      refine r_puti fp_X5_43 hb0.1 rfl 50 rfl dX5_clear_47 ?_
      refine r_aload_n 0 rfl rfl 51 rfl dX5_clear_50 ?_
      refine r_iconst 0 (by decide) 52 rfl dX5_clear_51 ?_
      refine r_puti fp_X5_46 hb0.1 rfl 55 rfl dX5_clear_52 ?_
      exact r_vret rfl dX5_clear_55
    · refine r_aload_n 0 rfl rfl 9 rfl dX5_clear_8 ?_
      refine r_getr fl_X5_24 hb0.1 rfl 12 rfl dX5_clear_9 ?_
      refine r_iload_n 1 rfl rfl 13 rfl dX5_clear_12 ?_
      refine r_iload_n 1 rfl rfl 14 rfl dX5_clear_13 ?_
      refine r_iast hb0.2.2.2.2.2.1 15 rfl dX5_clear_14 ?_
      refine r_aload_n 0 rfl rfl 16 rfl dX5_clear_15 ?_
      refine r_getr fl_X5_27 hb0.1 rfl 19 rfl dX5_clear_16 ?_
      refine r_iload_n 1 rfl rfl 20 rfl dX5_clear_19 ?_
      refine r_iconst (-1) (by decide) 21 rfl dX5_clear_20 ?_
      refine r_iast hb0.2.2.2.2.2.2.1 22 rfl dX5_clear_21 ?_
      refine r_aload_n 0 rfl rfl 23 rfl dX5_clear_22 ?_
      refine r_getr fl_X5_30 hb0.1 rfl 26 rfl dX5_clear_23 ?_
      refine r_iload_n 1 rfl rfl 27 rfl dX5_clear_26 ?_
      refine r_iconst 0 (by decide) 28 rfl dX5_clear_27 ?_
      refine r_iast hb0.2.2.2.2.2.2.2 29 rfl dX5_clear_28 ?_
      refine r_iinc 1 (by decide) 1 rfl [(1, .int _), (0, k_rf E b0)] rfl (by decide) 32 rfl dX5_clear_29 ?_
      refine r_goto 2 (by decide) dX5_clear_32 ?_
      exact r_sub [1, 0] rfl (ih _  _)
def f_X5_clear (b0 : Nat)  (σ : k_Mem) : Option (Unit × k_Mem) :=
  l_X5_clear_2 b0  1000 0 σ
set_option maxRecDepth 100000 in
theorem c_X5_clear (E : k_EV) (b0 : Nat) (hb0 : k_isT b0)  (σ : k_Mem) : k_MC m_X5_clear E k_vv [k_rf E b0] σ (f_X5_clear b0 σ) := by
  refine k_MC_of ⟨by decide, by decide⟩ (Nat.le_of_ble_eq_true rfl) ?_
  show k_GO _ _ _ 0 [(0, k_rf E b0)] [] σ _
  unfold f_X5_clear
  refine r_iconst 0 (by decide) 1 rfl dX5_clear_0 ?_
  refine r_istore_n [(1, .int _), (0, k_rf E b0)] rfl rfl (by decide) 2 rfl dX5_clear_1 ?_
  exact r_sub [1, 0] rfl (gl_X5_clear_2 E b0 hb0   1000 _  _)
/-! HandMarket$Town.isFull(I)Z -/
def j_X5_isFull_15 (b0 : Nat)  (xs0 : Int32) (σ : k_Mem) : Option (Int32 × k_Mem) :=
  if xs0 < 4 then (
    some (0, σ)
  ) else (
    some (1, σ)
  )
set_option maxRecDepth 100000 in
theorem gj_X5_isFull_15 (E : k_EV) (b0 : Nat) (hb0 : k_isT b0)   (xs0 : Int32)  (σ : k_Mem) : k_GO m_X5_isFull E k_vi 15 [] [.int xs0] σ (j_X5_isFull_15 b0  xs0 σ) := by
  unfold j_X5_isFull_15
  refine r_iconst 4 (by decide) 16 rfl dX5_isFull_15 ?_
  refine r_icmp_lt 23 19 rfl (by decide) dX5_isFull_16 (fun c2 => ?_) (fun c2 => ?_)
  · refine r_iconst 0 (by decide) 24 rfl dX5_isFull_23 ?_
    exact r_zret rfl (Or.inl rfl) dX5_isFull_24
  · refine r_iconst 1 (by decide) 20 rfl dX5_isFull_19 ?_
    refine r_goto 24 (by decide) dX5_isFull_20 ?_
    exact r_zret rfl (Or.inr rfl) dX5_isFull_24
def f_X5_isFull (b0 : Nat) (x1 : Int32) (σ : k_Mem) : Option (Int32 × k_Mem) :=
  if x1 = 0 then (
    j_X5_isFull_15 b0  (σ b0 7) σ
  ) else (
    j_X5_isFull_15 b0  (σ b0 8) σ
  )
set_option maxRecDepth 100000 in
theorem c_X5_isFull (E : k_EV) (b0 : Nat) (hb0 : k_isT b0) (x1 : Int32) (σ : k_Mem) : k_MC m_X5_isFull E k_vi [k_rf E b0, .int x1] σ (f_X5_isFull b0 x1 σ) := by
  refine k_MC_of ⟨by decide, by decide⟩ (Nat.le_of_ble_eq_true rfl) ?_
  show k_GO _ _ _ 0 [(0, k_rf E b0), (1, .int x1)] [] σ _
  unfold f_X5_isFull
  refine r_iload_n 1 rfl rfl 1 rfl dX5_isFull_0 ?_
  refine r_if_ne 11 4 rfl (by decide) dX5_isFull_1 (fun c1 => ?_) (fun c1 => ?_)
  · refine r_aload_n 0 rfl rfl 5 rfl dX5_isFull_4 ?_
    refine r_geti fl_X5_36 hb0.1 rfl 8 rfl dX5_isFull_5 ?_
    refine r_goto 15 (by decide) dX5_isFull_8 ?_
    exact r_sub [] rfl (gj_X5_isFull_15 E b0 hb0   _  _)
  · refine r_aload_n 0 rfl rfl 12 rfl dX5_isFull_11 ?_
    refine r_geti fl_X5_40 hb0.1 rfl 15 rfl dX5_isFull_12 ?_
    exact r_sub [] rfl (gj_X5_isFull_15 E b0 hb0   _  _)
/-! HandMarket$Town.add(IIIII)V -/
def j_X5_add_55 (b0 : Nat)  (x2 : Int32) (x3 : Int32) (x4 : Int32) (x5 : Int32) (x6 : Int32) (σ : k_Mem) : Option (Unit × k_Mem) :=
  if k_in x6 8 then (
    if k_in x6 8 then (
      if k_in x6 8 then (
        if k_in x6 8 then (
          some ((), (k_mset (k_mset (k_mset (k_mset σ (b0 + 1) (k_n x6) x2) (b0 + 2) (k_n x6) x3) (b0 + 3) (k_n x6) x4) (b0 + 4) (k_n x6) x5))
        ) else none
      ) else none
    ) else none
  ) else none
set_option maxRecDepth 100000 in
theorem gj_X5_add_55 (E : k_EV) (b0 : Nat) (hb0 : k_isT b0)   (x2 : Int32) (x3 : Int32) (x4 : Int32) (x5 : Int32) (x6 : Int32)  (σ : k_Mem) : k_GO m_X5_add E k_vv 55 [(0, k_rf E b0), (2, .int x2), (3, .int x3), (4, .int x4), (5, .int x5), (6, .int x6)] [] σ (j_X5_add_55 b0  x2 x3 x4 x5 x6 σ) := by
  unfold j_X5_add_55
  refine r_aload_n 0 rfl rfl 56 rfl dX5_add_55 ?_
  refine r_getr fl_X5_9 hb0.1 rfl 59 rfl dX5_add_56 ?_
  refine r_iload 5 rfl 61 rfl dX5_add_59 ?_
  refine r_iload_n 1 rfl rfl 62 rfl dX5_add_61 ?_
  refine r_iast hb0.2.1 63 rfl dX5_add_62 ?_
  refine r_aload_n 0 rfl rfl 64 rfl dX5_add_63 ?_
  refine r_getr fl_X5_15 hb0.1 rfl 67 rfl dX5_add_64 ?_
  refine r_iload 5 rfl 69 rfl dX5_add_67 ?_
  refine r_iload_n 2 rfl rfl 70 rfl dX5_add_69 ?_
  refine r_iast hb0.2.2.1 71 rfl dX5_add_70 ?_
  refine r_aload_n 0 rfl rfl 72 rfl dX5_add_71 ?_
  refine r_getr fl_X5_18 hb0.1 rfl 75 rfl dX5_add_72 ?_
  refine r_iload 5 rfl 77 rfl dX5_add_75 ?_
  refine r_iload 3 rfl 79 rfl dX5_add_77 ?_
  refine r_iast hb0.2.2.2.1 80 rfl dX5_add_79 ?_
  refine r_aload_n 0 rfl rfl 81 rfl dX5_add_80 ?_
  refine r_getr fl_X5_21 hb0.1 rfl 84 rfl dX5_add_81 ?_
  refine r_iload 5 rfl 86 rfl dX5_add_84 ?_
  refine r_iload 4 rfl 88 rfl dX5_add_86 ?_
  refine r_iast hb0.2.2.2.2.1 89 rfl dX5_add_88 ?_
  exact r_vret rfl dX5_add_89
def j_X5_add_26 (b0 : Nat)  (x1 : Int32) (x2 : Int32) (x3 : Int32) (x4 : Int32) (x5 : Int32) (xs0 : Int32) (σ : k_Mem) : Option (Unit × k_Mem) :=
  if x1 = 0 then (
    j_X5_add_55 b0  x2 x3 x4 x5 xs0 (k_mset σ b0 7 ((σ b0 7) + 1))
  ) else (
    j_X5_add_55 b0  x2 x3 x4 x5 xs0 (k_mset σ b0 8 ((σ b0 8) + 1))
  )
set_option maxRecDepth 100000 in
theorem gj_X5_add_26 (E : k_EV) (b0 : Nat) (hb0 : k_isT b0)   (x1 : Int32) (x2 : Int32) (x3 : Int32) (x4 : Int32) (x5 : Int32) (xs0 : Int32)  (σ : k_Mem) : k_GO m_X5_add E k_vv 26 [(0, k_rf E b0), (1, .int x1), (2, .int x2), (3, .int x3), (4, .int x4), (5, .int x5)] [.int xs0] σ (j_X5_add_26 b0  x1 x2 x3 x4 x5 xs0 σ) := by
  unfold j_X5_add_26
  refine r_istore [(6, .int _), (0, k_rf E b0), (1, .int _), (2, .int _), (3, .int _), (4, .int _), (5, .int _)] rfl (by decide) 28 rfl dX5_add_26 ?_
  refine r_iload_n 2 rfl rfl 29 rfl dX5_add_28 ?_
  refine r_if_ne 45 32 rfl (by decide) dX5_add_29 (fun c4 => ?_) (fun c4 => ?_)
  · refine r_aload_n 1 rfl rfl 33 rfl dX5_add_32 ?_
    refine r_dup 34 rfl dX5_add_33 rfl ?_
    refine r_geti fl_X5_36 hb0.1 rfl 37 rfl dX5_add_34 ?_
    refine r_iconst 1 (by decide) 38 rfl dX5_add_37 ?_
    refine r_iadd 39 rfl dX5_add_38 ?_
    refine r_puti fp_X5_36 hb0.1 rfl 42 rfl dX5_add_39 ?_
    refine r_goto 55 (by decide) dX5_add_42 ?_
    exact r_sub [1, 3, 4, 5, 6, 0] rfl (gj_X5_add_55 E b0 hb0   _ _ _ _ _  _)
  · refine r_aload_n 1 rfl rfl 46 rfl dX5_add_45 ?_
    refine r_dup 47 rfl dX5_add_46 rfl ?_
    refine r_geti fl_X5_40 hb0.1 rfl 50 rfl dX5_add_47 ?_
    refine r_iconst 1 (by decide) 51 rfl dX5_add_50 ?_
    refine r_iadd 52 rfl dX5_add_51 ?_
    refine r_puti fp_X5_40 hb0.1 rfl 55 rfl dX5_add_52 ?_
    exact r_sub [1, 3, 4, 5, 6, 0] rfl (gj_X5_add_55 E b0 hb0   _ _ _ _ _  _)
def f_X5_add (b0 : Nat) (x1 : Int32) (x2 : Int32) (x3 : Int32) (x4 : Int32) (x5 : Int32) (σ : k_Mem) : Option (Unit × k_Mem) :=
  k_bd (f_X5_isFull b0 x1 σ) (fun r1 σ1 =>
    if r1 = 0 then (
      if x1 = 0 then (
        j_X5_add_26 b0  x1 x2 x3 x4 x5 (σ1 b0 7) σ1
      ) else (
        j_X5_add_26 b0  x1 x2 x3 x4 x5 (4 + (σ1 b0 8)) σ1
      )
    ) else (
      some ((), σ1)
    )
  )
set_option maxRecDepth 100000 in
theorem c_X5_add (E : k_EV) (b0 : Nat) (hb0 : k_isT b0) (x1 : Int32) (x2 : Int32) (x3 : Int32) (x4 : Int32) (x5 : Int32) (σ : k_Mem) : k_MC m_X5_add E k_vv [k_rf E b0, .int x1, .int x2, .int x3, .int x4, .int x5] σ (f_X5_add b0 x1 x2 x3 x4 x5 σ) := by
  refine k_MC_of ⟨by decide, by decide⟩ (Nat.le_of_ble_eq_true rfl) ?_
  show k_GO _ _ _ 0 [(0, k_rf E b0), (1, .int x1), (2, .int x2), (3, .int x3), (4, .int x4), (5, .int x5)] [] σ _
  unfold f_X5_add
  refine r_aload_n 0 rfl rfl 1 rfl dX5_add_0 ?_
  refine r_iload_n 1 rfl rfl 2 rfl dX5_add_1 ?_
  refine r_calli (c_X5_isFull E b0 hb0 _ _) rfl hb0.1 rfl ml_X5_55 cw_X5_isFull vw_X5_isFull (by decide) (Nat.le_of_ble_eq_true rfl) 5 rfl dX5_add_2 (fun r1 σ1 => ?_)
  refine r_if_eq 9 8 rfl (by decide) dX5_add_5 (fun c2 => ?_) (fun c2 => ?_)
  · refine r_iload_n 1 rfl rfl 10 rfl dX5_add_9 ?_
    refine r_if_ne 20 13 rfl (by decide) dX5_add_10 (fun c3 => ?_) (fun c3 => ?_)
    · refine r_aload_n 0 rfl rfl 14 rfl dX5_add_13 ?_
      refine r_geti fl_X5_36 hb0.1 rfl 17 rfl dX5_add_14 ?_
      refine r_goto 26 (by decide) dX5_add_17 ?_
      exact r_sub [0, 1, 2, 3, 4, 5] rfl (gj_X5_add_26 E b0 hb0   _ _ _ _ _ _  _)
    · refine r_iconst 4 (by decide) 21 rfl dX5_add_20 ?_
      refine r_aload_n 0 rfl rfl 22 rfl dX5_add_21 ?_
      refine r_geti fl_X5_40 hb0.1 rfl 25 rfl dX5_add_22 ?_
      refine r_iadd 26 rfl dX5_add_25 ?_
      exact r_sub [0, 1, 2, 3, 4, 5] rfl (gj_X5_add_26 E b0 hb0   _ _ _ _ _ _  _)
  · exact r_vret rfl dX5_add_8
/-! HandMarket$Town.isRun(I)Z -/
def f_X5_isRun (b0 : Nat) (x1 : Int32) (σ : k_Mem) : Option (Int32 × k_Mem) :=
  if ((k_shr (σ b0 9) x1) &&& 1) = 1 then (
    some (1, σ)
  ) else (
    some (0, σ)
  )
set_option maxRecDepth 100000 in
theorem c_X5_isRun (E : k_EV) (b0 : Nat) (hb0 : k_isT b0) (x1 : Int32) (σ : k_Mem) : k_MC m_X5_isRun E k_vi [k_rf E b0, .int x1] σ (f_X5_isRun b0 x1 σ) := by
  refine k_MC_of ⟨by decide, by decide⟩ (Nat.le_of_ble_eq_true rfl) ?_
  show k_GO _ _ _ 0 [(0, k_rf E b0), (1, .int x1)] [] σ _
  unfold f_X5_isRun
  refine r_aload_n 0 rfl rfl 1 rfl dX5_isRun_0 ?_
  refine r_geti fl_X5_43 hb0.1 rfl 4 rfl dX5_isRun_1 ?_
  refine r_iload_n 1 rfl rfl 5 rfl dX5_isRun_4 ?_
  refine r_ishr 6 rfl dX5_isRun_5 ?_
  refine r_iconst 1 (by decide) 7 rfl dX5_isRun_6 ?_
  refine r_iand 8 rfl dX5_isRun_7 ?_
  refine r_iconst 1 (by decide) 9 rfl dX5_isRun_8 ?_
  refine r_icmp_ne 16 12 rfl (by decide) dX5_isRun_9 (fun c1 => ?_) (fun c1 => ?_)
  · refine r_iconst 1 (by decide) 13 rfl dX5_isRun_12 ?_
    refine r_goto 17 (by decide) dX5_isRun_13 ?_
    exact r_zret rfl (Or.inr rfl) dX5_isRun_17
  · refine r_iconst 0 (by decide) 17 rfl dX5_isRun_16 ?_
    exact r_zret rfl (Or.inl rfl) dX5_isRun_17
/-! HandMarket$Town.withBit(IIZ)I -/
def f_X5_withBit  (x0 : Int32) (x1 : Int32) (x2 : Int32) (σ : k_Mem) : Option (Int32 × k_Mem) :=
  if x2 = 0 then (
    some ((x0 &&& ((k_shl 1 x1) ^^^ (-1))), σ)
  ) else (
    some ((x0 ||| (k_shl 1 x1)), σ)
  )
set_option maxRecDepth 100000 in
theorem c_X5_withBit (E : k_EV)   (x0 : Int32) (x1 : Int32) (x2 : Int32) (σ : k_Mem) : k_MC m_X5_withBit E k_vi [.int x0, .int x1, .int x2] σ (f_X5_withBit x0 x1 x2 σ) := by
  refine k_MC_of ⟨by decide, by decide⟩ (Nat.le_of_ble_eq_true rfl) ?_
  show k_GO _ _ _ 0 [(0, .int x0), (1, .int x1), (2, .int x2)] [] σ _
  unfold f_X5_withBit
  refine r_iload_n 2 rfl rfl 1 rfl dX5_withBit_0 ?_
  refine r_if_eq 12 4 rfl (by decide) dX5_withBit_1 (fun c1 => ?_) (fun c1 => ?_)
  · refine r_iload_n 0 rfl rfl 13 rfl dX5_withBit_12 ?_
    refine r_iconst 1 (by decide) 14 rfl dX5_withBit_13 ?_
    refine r_iload_n 1 rfl rfl 15 rfl dX5_withBit_14 ?_
    refine r_ishl 16 rfl dX5_withBit_15 ?_
    refine r_iconst (-1) (by decide) 17 rfl dX5_withBit_16 ?_
    refine r_ixor 18 rfl dX5_withBit_17 ?_
    refine r_iand 19 rfl dX5_withBit_18 ?_
    exact r_iret rfl dX5_withBit_19
  · refine r_iload_n 0 rfl rfl 5 rfl dX5_withBit_4 ?_
    refine r_iconst 1 (by decide) 6 rfl dX5_withBit_5 ?_
    refine r_iload_n 1 rfl rfl 7 rfl dX5_withBit_6 ?_
    refine r_ishl 8 rfl dX5_withBit_7 ?_
    refine r_ior 9 rfl dX5_withBit_8 ?_
    refine r_goto 19 (by decide) dX5_withBit_9 ?_
    exact r_iret rfl dX5_withBit_19
/-! HandMarket$Town.setRun(IZ)V -/
def f_X5_setRun (b0 : Nat) (x1 : Int32) (x2 : Int32) (σ : k_Mem) : Option (Unit × k_Mem) :=
  k_bd (f_X5_withBit  (σ b0 9) x1 x2 σ) (fun r1 σ1 =>
    some ((), (k_mset σ1 b0 9 r1))
  )
set_option maxRecDepth 100000 in
theorem c_X5_setRun (E : k_EV) (b0 : Nat) (hb0 : k_isT b0) (x1 : Int32) (x2 : Int32) (σ : k_Mem) : k_MC m_X5_setRun E k_vv [k_rf E b0, .int x1, .int x2] σ (f_X5_setRun b0 x1 x2 σ) := by
  refine k_MC_of ⟨by decide, by decide⟩ (Nat.le_of_ble_eq_true rfl) ?_
  show k_GO _ _ _ 0 [(0, k_rf E b0), (1, .int x1), (2, .int x2)] [] σ _
  unfold f_X5_setRun
  refine r_aload_n 0 rfl rfl 1 rfl dX5_setRun_0 ?_
  refine r_aload_n 0 rfl rfl 2 rfl dX5_setRun_1 ?_
  refine r_geti fl_X5_43 hb0.1 rfl 5 rfl dX5_setRun_2 ?_
  refine r_iload_n 1 rfl rfl 6 rfl dX5_setRun_5 ?_
  refine r_iload_n 2 rfl rfl 7 rfl dX5_setRun_6 ?_
  refine r_callsi (c_X5_withBit E   _ _ _ _) rfl ml_X5_59 cw_X5_withBit sw_X5_withBit (by decide) (Nat.le_of_ble_eq_true rfl) 10 rfl dX5_setRun_7 (fun r1 σ1 => ?_)
  refine r_puti fp_X5_43 hb0.1 rfl 13 rfl dX5_setRun_10 ?_
  exact r_vret rfl dX5_setRun_13
/-! HandMarket$Town.areFolded(II)Z -/
def f_X5_areFolded (b0 : Nat) (x1 : Int32) (x2 : Int32) (σ : k_Mem) : Option (Int32 × k_Mem) :=
  if k_in x1 8 then (
    if ((k_shr (σ (b0 + 7) (k_n x1)) x2) &&& 1) = 1 then (
      some (1, σ)
    ) else (
      some (0, σ)
    )
  ) else none
set_option maxRecDepth 100000 in
theorem c_X5_areFolded (E : k_EV) (b0 : Nat) (hb0 : k_isT b0) (x1 : Int32) (x2 : Int32) (σ : k_Mem) : k_MC m_X5_areFolded E k_vi [k_rf E b0, .int x1, .int x2] σ (f_X5_areFolded b0 x1 x2 σ) := by
  refine k_MC_of ⟨by decide, by decide⟩ (Nat.le_of_ble_eq_true rfl) ?_
  show k_GO _ _ _ 0 [(0, k_rf E b0), (1, .int x1), (2, .int x2)] [] σ _
  unfold f_X5_areFolded
  refine r_aload_n 0 rfl rfl 1 rfl dX5_areFolded_0 ?_
  refine r_getr fl_X5_30 hb0.1 rfl 4 rfl dX5_areFolded_1 ?_
  refine r_iload_n 1 rfl rfl 5 rfl dX5_areFolded_4 ?_
  refine r_iald hb0.2.2.2.2.2.2.2 6 rfl dX5_areFolded_5 ?_
  refine r_iload_n 2 rfl rfl 7 rfl dX5_areFolded_6 ?_
  refine r_ishr 8 rfl dX5_areFolded_7 ?_
  refine r_iconst 1 (by decide) 9 rfl dX5_areFolded_8 ?_
  refine r_iand 10 rfl dX5_areFolded_9 ?_
  refine r_iconst 1 (by decide) 11 rfl dX5_areFolded_10 ?_
  refine r_icmp_ne 18 14 rfl (by decide) dX5_areFolded_11 (fun c1 => ?_) (fun c1 => ?_)
  · refine r_iconst 1 (by decide) 15 rfl dX5_areFolded_14 ?_
    refine r_goto 19 (by decide) dX5_areFolded_15 ?_
    exact r_zret rfl (Or.inr rfl) dX5_areFolded_19
  · refine r_iconst 0 (by decide) 19 rfl dX5_areFolded_18 ?_
    exact r_zret rfl (Or.inl rfl) dX5_areFolded_19
/-! HandMarket$Town.setFolded(IIZ)V -/
def f_X5_setFolded (b0 : Nat) (x1 : Int32) (x2 : Int32) (x3 : Int32) (σ : k_Mem) : Option (Unit × k_Mem) :=
  if k_in x1 8 then (
    k_bd (f_X5_withBit  (σ (b0 + 7) (k_n x1)) x2 x3 σ) (fun r1 σ1 =>
      if k_in x1 8 then (
        if k_in x2 8 then (
          k_bd (f_X5_withBit  ((k_mset σ1 (b0 + 7) (k_n x1) r1) (b0 + 7) (k_n x2)) x1 x3 (k_mset σ1 (b0 + 7) (k_n x1) r1)) (fun r2 σ2 =>
            if k_in x2 8 then (
              some ((), (k_mset σ2 (b0 + 7) (k_n x2) r2))
            ) else none
          )
        ) else none
      ) else none
    )
  ) else none
set_option maxRecDepth 100000 in
theorem c_X5_setFolded (E : k_EV) (b0 : Nat) (hb0 : k_isT b0) (x1 : Int32) (x2 : Int32) (x3 : Int32) (σ : k_Mem) : k_MC m_X5_setFolded E k_vv [k_rf E b0, .int x1, .int x2, .int x3] σ (f_X5_setFolded b0 x1 x2 x3 σ) := by
  refine k_MC_of ⟨by decide, by decide⟩ (Nat.le_of_ble_eq_true rfl) ?_
  show k_GO _ _ _ 0 [(0, k_rf E b0), (1, .int x1), (2, .int x2), (3, .int x3)] [] σ _
  unfold f_X5_setFolded
  refine r_aload_n 0 rfl rfl 1 rfl dX5_setFolded_0 ?_
  refine r_getr fl_X5_30 hb0.1 rfl 4 rfl dX5_setFolded_1 ?_
  refine r_iload_n 1 rfl rfl 5 rfl dX5_setFolded_4 ?_
  refine r_aload_n 0 rfl rfl 6 rfl dX5_setFolded_5 ?_
  refine r_getr fl_X5_30 hb0.1 rfl 9 rfl dX5_setFolded_6 ?_
  refine r_iload_n 1 rfl rfl 10 rfl dX5_setFolded_9 ?_
  refine r_iald hb0.2.2.2.2.2.2.2 11 rfl dX5_setFolded_10 ?_
  refine r_iload_n 2 rfl rfl 12 rfl dX5_setFolded_11 ?_
  refine r_iload_n 3 rfl rfl 13 rfl dX5_setFolded_12 ?_
  refine r_callsi (c_X5_withBit E   _ _ _ _) rfl ml_X5_59 cw_X5_withBit sw_X5_withBit (by decide) (Nat.le_of_ble_eq_true rfl) 16 rfl dX5_setFolded_13 (fun r1 σ1 => ?_)
  refine r_iast hb0.2.2.2.2.2.2.2 17 rfl dX5_setFolded_16 ?_
  refine r_aload_n 0 rfl rfl 18 rfl dX5_setFolded_17 ?_
  refine r_getr fl_X5_30 hb0.1 rfl 21 rfl dX5_setFolded_18 ?_
  refine r_iload_n 2 rfl rfl 22 rfl dX5_setFolded_21 ?_
  refine r_aload_n 0 rfl rfl 23 rfl dX5_setFolded_22 ?_
  refine r_getr fl_X5_30 hb0.1 rfl 26 rfl dX5_setFolded_23 ?_
  refine r_iload_n 2 rfl rfl 27 rfl dX5_setFolded_26 ?_
  refine r_iald hb0.2.2.2.2.2.2.2 28 rfl dX5_setFolded_27 ?_
  refine r_iload_n 1 rfl rfl 29 rfl dX5_setFolded_28 ?_
  refine r_iload_n 3 rfl rfl 30 rfl dX5_setFolded_29 ?_
  refine r_callsi (c_X5_withBit E   _ _ _ _) rfl ml_X5_59 cw_X5_withBit sw_X5_withBit (by decide) (Nat.le_of_ble_eq_true rfl) 33 rfl dX5_setFolded_30 (fun r2 σ2 => ?_)
  refine r_iast hb0.2.2.2.2.2.2.2 34 rfl dX5_setFolded_33 ?_
  exact r_vret rfl dX5_setFolded_34
/-! HandMarket$Town.isWed(I)Z -/
def f_X5_isWed (b0 : Nat) (x1 : Int32) (σ : k_Mem) : Option (Int32 × k_Mem) :=
  if k_in x1 8 then (
    if (σ (b0 + 6) (k_n x1)) = (-1) then (
      some (0, σ)
    ) else (
      some (1, σ)
    )
  ) else none
set_option maxRecDepth 100000 in
theorem c_X5_isWed (E : k_EV) (b0 : Nat) (hb0 : k_isT b0) (x1 : Int32) (σ : k_Mem) : k_MC m_X5_isWed E k_vi [k_rf E b0, .int x1] σ (f_X5_isWed b0 x1 σ) := by
  refine k_MC_of ⟨by decide, by decide⟩ (Nat.le_of_ble_eq_true rfl) ?_
  show k_GO _ _ _ 0 [(0, k_rf E b0), (1, .int x1)] [] σ _
  unfold f_X5_isWed
  refine r_aload_n 0 rfl rfl 1 rfl dX5_isWed_0 ?_
  refine r_getr fl_X5_27 hb0.1 rfl 4 rfl dX5_isWed_1 ?_
  refine r_iload_n 1 rfl rfl 5 rfl dX5_isWed_4 ?_
  refine r_iald hb0.2.2.2.2.2.2.1 6 rfl dX5_isWed_5 ?_
  refine r_iconst (-1) (by decide) 7 rfl dX5_isWed_6 ?_
  refine r_icmp_eq 14 10 rfl (by decide) dX5_isWed_7 (fun c1 => ?_) (fun c1 => ?_)
  · refine r_iconst 0 (by decide) 15 rfl dX5_isWed_14 ?_
    exact r_zret rfl (Or.inl rfl) dX5_isWed_15
  · refine r_iconst 1 (by decide) 11 rfl dX5_isWed_10 ?_
    refine r_goto 15 (by decide) dX5_isWed_11 ?_
    exact r_zret rfl (Or.inr rfl) dX5_isWed_15
/-! HandMarket$Town.join(II)V -/
def f_X5_join (b0 : Nat) (x1 : Int32) (x2 : Int32) (σ : k_Mem) : Option (Unit × k_Mem) :=
  if k_in x1 8 then (
    if k_in x2 8 then (
      some ((), (k_mset (k_mset σ (b0 + 6) (k_n x1) x2) (b0 + 6) (k_n x2) x1))
    ) else none
  ) else none
set_option maxRecDepth 100000 in
theorem c_X5_join (E : k_EV) (b0 : Nat) (hb0 : k_isT b0) (x1 : Int32) (x2 : Int32) (σ : k_Mem) : k_MC m_X5_join E k_vv [k_rf E b0, .int x1, .int x2] σ (f_X5_join b0 x1 x2 σ) := by
  refine k_MC_of ⟨by decide, by decide⟩ (Nat.le_of_ble_eq_true rfl) ?_
  show k_GO _ _ _ 0 [(0, k_rf E b0), (1, .int x1), (2, .int x2)] [] σ _
  unfold f_X5_join
  refine r_aload_n 0 rfl rfl 1 rfl dX5_join_0 ?_
  refine r_getr fl_X5_27 hb0.1 rfl 4 rfl dX5_join_1 ?_
  refine r_iload_n 1 rfl rfl 5 rfl dX5_join_4 ?_
  refine r_iload_n 2 rfl rfl 6 rfl dX5_join_5 ?_
  refine r_iast hb0.2.2.2.2.2.2.1 7 rfl dX5_join_6 ?_
  refine r_aload_n 0 rfl rfl 8 rfl dX5_join_7 ?_
  refine r_getr fl_X5_27 hb0.1 rfl 11 rfl dX5_join_8 ?_
  refine r_iload_n 2 rfl rfl 12 rfl dX5_join_11 ?_
  refine r_iload_n 1 rfl rfl 13 rfl dX5_join_12 ?_
  refine r_iast hb0.2.2.2.2.2.2.1 14 rfl dX5_join_13 ?_
  exact r_vret rfl dX5_join_14
/-! HandMarket$Town.wedBits()I -/
def j_X5_wedBits_24 (b0 : Nat) (k4 : Int32 → Int32 → k_Mem → Option (Int32 × k_Mem)) (x1 : Int32) (x2 : Int32) (σ : k_Mem) : Option (Int32 × k_Mem) :=
  k4 x1 (x2 + 1) σ
set_option maxRecDepth 100000 in
theorem gj_X5_wedBits_24 (E : k_EV) (b0 : Nat) (hb0 : k_isT b0) (k4 : Int32 → Int32 → k_Mem → Option (Int32 × k_Mem)) (hk4 : ∀ (x1 : Int32) (x2 : Int32)  (σ : k_Mem), k_GO m_X5_wedBits E k_vi 4 [(0, k_rf E b0), (1, .int x1), (2, .int x2)] [] σ (k4 x1 x2 σ)) (x1 : Int32) (x2 : Int32)  (σ : k_Mem) : k_GO m_X5_wedBits E k_vi 24 [(0, k_rf E b0), (1, .int x1), (2, .int x2)] [] σ (j_X5_wedBits_24 b0 k4 x1 x2 σ) := by
  unfold j_X5_wedBits_24
  refine r_iinc 1 (by decide) 2 rfl [(2, .int _), (0, k_rf E b0), (1, .int _)] rfl (by decide) 27 rfl dX5_wedBits_24 ?_
  refine r_goto 4 (by decide) dX5_wedBits_27 ?_
  exact r_sub [1, 2, 0] rfl (hk4 _ _  _)
def l_X5_wedBits_4 (b0 : Nat)  : Nat → Int32 → Int32 → k_Mem → Option (Int32 × k_Mem)
  | 0, _, _, _ => none
  | n + 1, x1, x2, σ =>
    if 8 ≤ x2 then (
      some (x1, σ)
    ) else (
      k_bd (f_X5_isWed b0 x2 σ) (fun r2 σ2 =>
        if r2 = 0 then (
          j_X5_wedBits_24 b0 (fun x1 x2 σ => l_X5_wedBits_4 b0  n x1 x2 σ) x1 x2 σ2
        ) else (
          j_X5_wedBits_24 b0 (fun x1 x2 σ => l_X5_wedBits_4 b0  n x1 x2 σ) (x1 ||| (k_shl 1 x2)) x2 σ2
        )
      )
    )
set_option maxRecDepth 100000 in
theorem gl_X5_wedBits_4 (E : k_EV) (b0 : Nat) (hb0 : k_isT b0)   : ∀ (n : Nat) (x1 : Int32) (x2 : Int32)  (σ : k_Mem), k_GO m_X5_wedBits E k_vi 4 [(0, k_rf E b0), (1, .int x1), (2, .int x2)] [] σ (l_X5_wedBits_4 b0  n x1 x2 σ) := by
  intro n
  induction n with
  | zero => intro x1 x2  σ; exact r_none
  | succ n ih =>
    intro x1 x2  σ
    rw [l_X5_wedBits_4]
    refine r_iload_n 2 rfl rfl 5 rfl dX5_wedBits_4 ?_
    refine r_bipush 8 (by decide) 7 rfl dX5_wedBits_5 ?_
    refine r_icmp_ge 30 10 rfl (by decide) dX5_wedBits_7 (fun c1 => ?_) (fun c1 => ?_)
    · refine r_iload_n 1 rfl rfl 31 rfl dX5_wedBits_30 ?_
      exact r_iret rfl dX5_wedBits_31
    · refine r_aload_n 0 rfl rfl 11 rfl dX5_wedBits_10 ?_
      refine r_iload_n 2 rfl rfl 12 rfl dX5_wedBits_11 ?_
      refine r_calli (c_X5_isWed E b0 hb0 _ _) rfl hb0.1 rfl ml_X5_63 cw_X5_isWed vw_X5_isWed (by decide) (Nat.le_of_ble_eq_true rfl) 15 rfl dX5_wedBits_12 (fun r2 σ2 => ?_)
      refine r_if_eq 24 18 rfl (by decide) dX5_wedBits_15 (fun c3 => ?_) (fun c3 => ?_)
      · exact r_sub [0, 1, 2] rfl (gj_X5_wedBits_24 E b0 hb0 _ (fun x1 x2  σ => ih x1 x2  σ) _ _  _)
      · refine r_iload_n 1 rfl rfl 19 rfl dX5_wedBits_18 ?_
        refine r_iconst 1 (by decide) 20 rfl dX5_wedBits_19 ?_
        refine r_iload_n 2 rfl rfl 21 rfl dX5_wedBits_20 ?_
        refine r_ishl 22 rfl dX5_wedBits_21 ?_
        refine r_ior 23 rfl dX5_wedBits_22 ?_
        refine r_istore_n [(1, .int _), (0, k_rf E b0), (2, .int _)] rfl rfl (by decide) 24 rfl dX5_wedBits_23 ?_
        exact r_sub [1, 0, 2] rfl (gj_X5_wedBits_24 E b0 hb0 _ (fun x1 x2  σ => ih x1 x2  σ) _ _  _)
def f_X5_wedBits (b0 : Nat)  (σ : k_Mem) : Option (Int32 × k_Mem) :=
  l_X5_wedBits_4 b0  1000 0 0 σ
set_option maxRecDepth 100000 in
theorem c_X5_wedBits (E : k_EV) (b0 : Nat) (hb0 : k_isT b0)  (σ : k_Mem) : k_MC m_X5_wedBits E k_vi [k_rf E b0] σ (f_X5_wedBits b0 σ) := by
  refine k_MC_of ⟨by decide, by decide⟩ (Nat.le_of_ble_eq_true rfl) ?_
  show k_GO _ _ _ 0 [(0, k_rf E b0)] [] σ _
  unfold f_X5_wedBits
  refine r_iconst 0 (by decide) 1 rfl dX5_wedBits_0 ?_
  refine r_istore_n [(1, .int _), (0, k_rf E b0)] rfl rfl (by decide) 2 rfl dX5_wedBits_1 ?_
  refine r_iconst 0 (by decide) 3 rfl dX5_wedBits_2 ?_
  refine r_istore_n [(2, .int _), (1, .int _), (0, k_rf E b0)] rfl rfl (by decide) 4 rfl dX5_wedBits_3 ?_
  exact r_sub [2, 1, 0] rfl (gl_X5_wedBits_4 E b0 hb0   1000 _ _  _)
/-! HandMarket$Town.handBits()I -/
def f_X5_handBits (b0 : Nat)  (σ : k_Mem) : Option (Int32 × k_Mem) :=
  some ((((k_shl 1 (σ b0 7)) - 1) ||| (k_shl ((k_shl 1 (σ b0 8)) - 1) 4)), σ)
set_option maxRecDepth 100000 in
theorem c_X5_handBits (E : k_EV) (b0 : Nat) (hb0 : k_isT b0)  (σ : k_Mem) : k_MC m_X5_handBits E k_vi [k_rf E b0] σ (f_X5_handBits b0 σ) := by
  refine k_MC_of ⟨by decide, by decide⟩ (Nat.le_of_ble_eq_true rfl) ?_
  show k_GO _ _ _ 0 [(0, k_rf E b0)] [] σ _
  unfold f_X5_handBits
  refine r_iconst 1 (by decide) 1 rfl dX5_handBits_0 ?_
  refine r_aload_n 0 rfl rfl 2 rfl dX5_handBits_1 ?_
  refine r_geti fl_X5_36 hb0.1 rfl 5 rfl dX5_handBits_2 ?_
  refine r_ishl 6 rfl dX5_handBits_5 ?_
  refine r_iconst 1 (by decide) 7 rfl dX5_handBits_6 ?_
  refine r_isub 8 rfl dX5_handBits_7 ?_
  refine r_iconst 1 (by decide) 9 rfl dX5_handBits_8 ?_
  refine r_aload_n 0 rfl rfl 10 rfl dX5_handBits_9 ?_
  refine r_geti fl_X5_40 hb0.1 rfl 13 rfl dX5_handBits_10 ?_
  refine r_ishl 14 rfl dX5_handBits_13 ?_
  refine r_iconst 1 (by decide) 15 rfl dX5_handBits_14 ?_
  refine r_isub 16 rfl dX5_handBits_15 ?_
  refine r_iconst 4 (by decide) 17 rfl dX5_handBits_16 ?_
  refine r_ishl 18 rfl dX5_handBits_17 ?_
  refine r_ior 19 rfl dX5_handBits_18 ?_
  exact r_iret rfl dX5_handBits_19
/-! HandMarket$Town.become(LHandMarket$Town;)V -/
def f_X5_become (b0 : Nat) (b1 : Nat)  (σ : k_Mem) : Option (Unit × k_Mem) :=
  if k_cpok 0 0 8 8 8 then (
    if k_cpok 0 0 8 8 8 then (
      k_ct (k_mrow (k_mrow σ (b0 + 1) (va_cpy (σ (b1 + 1)) (σ (b0 + 1)) (k_n 0) (k_n 0) (k_n 8))) (b0 + 2) (va_cpy ((k_mrow σ (b0 + 1) (va_cpy (σ (b1 + 1)) (σ (b0 + 1)) (k_n 0) (k_n 0) (k_n 8))) (b1 + 2)) ((k_mrow σ (b0 + 1) (va_cpy (σ (b1 + 1)) (σ (b0 + 1)) (k_n 0) (k_n 0) (k_n 8))) (b0 + 2)) (k_n 0) (k_n 0) (k_n 8))) (fun σ1 =>
        if k_cpok 0 0 8 8 8 then (
          if k_cpok 0 0 8 8 8 then (
            k_ct (k_mrow (k_mrow σ1 (b0 + 3) (va_cpy (σ1 (b1 + 3)) (σ1 (b0 + 3)) (k_n 0) (k_n 0) (k_n 8))) (b0 + 4) (va_cpy ((k_mrow σ1 (b0 + 3) (va_cpy (σ1 (b1 + 3)) (σ1 (b0 + 3)) (k_n 0) (k_n 0) (k_n 8))) (b1 + 4)) ((k_mrow σ1 (b0 + 3) (va_cpy (σ1 (b1 + 3)) (σ1 (b0 + 3)) (k_n 0) (k_n 0) (k_n 8))) (b0 + 4)) (k_n 0) (k_n 0) (k_n 8))) (fun σ2 =>
              if k_cpok 0 0 8 8 8 then (
                if k_cpok 0 0 8 8 8 then (
                  k_ct (k_mrow (k_mrow σ2 (b0 + 5) (va_cpy (σ2 (b1 + 5)) (σ2 (b0 + 5)) (k_n 0) (k_n 0) (k_n 8))) (b0 + 6) (va_cpy ((k_mrow σ2 (b0 + 5) (va_cpy (σ2 (b1 + 5)) (σ2 (b0 + 5)) (k_n 0) (k_n 0) (k_n 8))) (b1 + 6)) ((k_mrow σ2 (b0 + 5) (va_cpy (σ2 (b1 + 5)) (σ2 (b0 + 5)) (k_n 0) (k_n 0) (k_n 8))) (b0 + 6)) (k_n 0) (k_n 0) (k_n 8))) (fun σ3 =>
                    if k_cpok 0 0 8 8 8 then (
                      k_ct (k_mset (k_mrow σ3 (b0 + 7) (va_cpy (σ3 (b1 + 7)) (σ3 (b0 + 7)) (k_n 0) (k_n 0) (k_n 8))) b0 7 ((k_mrow σ3 (b0 + 7) (va_cpy (σ3 (b1 + 7)) (σ3 (b0 + 7)) (k_n 0) (k_n 0) (k_n 8))) b1 7)) (fun σ4 =>
                        k_ct (k_mset (k_mset (k_mset σ4 b0 8 (σ4 b1 8)) b0 9 ((k_mset σ4 b0 8 (σ4 b1 8)) b1 9)) b0 10 ((k_mset (k_mset σ4 b0 8 (σ4 b1 8)) b0 9 ((k_mset σ4 b0 8 (σ4 b1 8)) b1 9)) b1 10)) (fun σ5 =>
                          some ((), σ5)
                        )
                      )
                    ) else none
                  )
                ) else none
              ) else none
            )
          ) else none
        ) else none
      )
    ) else none
  ) else none
set_option maxRecDepth 100000 in
theorem c_X5_become (E : k_EV) (b0 : Nat) (b1 : Nat) (hb0 : k_isT b0) (hb1 : k_isT b1)  (σ : k_Mem) : k_MC m_X5_become E k_vv [k_rf E b0, k_rf E b1] σ (f_X5_become b0 b1 σ) := by
  refine k_MC_of ⟨by decide, by decide⟩ (Nat.le_of_ble_eq_true rfl) ?_
  show k_GO _ _ _ 0 [(0, k_rf E b0), (1, k_rf E b1)] [] σ _
  unfold f_X5_become
  refine r_aload_n 1 rfl rfl 1 rfl dX5_become_0 ?_
  refine r_getr fl_X5_9 hb1.1 rfl 4 rfl dX5_become_1 ?_
  refine r_iconst 0 (by decide) 5 rfl dX5_become_4 ?_
  refine r_aload_n 0 rfl rfl 6 rfl dX5_become_5 ?_
  refine r_getr fl_X5_9 hb0.1 rfl 9 rfl dX5_become_6 ?_
  refine r_iconst 0 (by decide) 10 rfl dX5_become_9 ?_
  refine r_bipush 8 (by decide) 12 rfl dX5_become_10 ?_
  refine r_copy hb1.2.1 hb0.2.1 ml_X5_49 ⟨Nat.le_of_ble_eq_true rfl, Nat.le_of_ble_eq_true rfl⟩ 15 rfl dX5_become_12 ?_
  refine r_aload_n 1 rfl rfl 16 rfl dX5_become_15 ?_
  refine r_getr fl_X5_15 hb1.1 rfl 19 rfl dX5_become_16 ?_
  refine r_iconst 0 (by decide) 20 rfl dX5_become_19 ?_
  refine r_aload_n 0 rfl rfl 21 rfl dX5_become_20 ?_
  refine r_getr fl_X5_15 hb0.1 rfl 24 rfl dX5_become_21 ?_
  refine r_iconst 0 (by decide) 25 rfl dX5_become_24 ?_
  refine r_bipush 8 (by decide) 27 rfl dX5_become_25 ?_
  refine r_copy hb1.2.2.1 hb0.2.2.1 ml_X5_49 ⟨Nat.le_of_ble_eq_true rfl, Nat.le_of_ble_eq_true rfl⟩ 30 rfl dX5_become_27 ?_
  refine r_ct ?_
  refine r_aload_n 1 rfl rfl 31 rfl dX5_become_30 ?_
  refine r_getr fl_X5_18 hb1.1 rfl 34 rfl dX5_become_31 ?_
  refine r_iconst 0 (by decide) 35 rfl dX5_become_34 ?_
  refine r_aload_n 0 rfl rfl 36 rfl dX5_become_35 ?_
  refine r_getr fl_X5_18 hb0.1 rfl 39 rfl dX5_become_36 ?_
  refine r_iconst 0 (by decide) 40 rfl dX5_become_39 ?_
  refine r_bipush 8 (by decide) 42 rfl dX5_become_40 ?_
  refine r_copy hb1.2.2.2.1 hb0.2.2.2.1 ml_X5_49 ⟨Nat.le_of_ble_eq_true rfl, Nat.le_of_ble_eq_true rfl⟩ 45 rfl dX5_become_42 ?_
  refine r_aload_n 1 rfl rfl 46 rfl dX5_become_45 ?_
  refine r_getr fl_X5_21 hb1.1 rfl 49 rfl dX5_become_46 ?_
  refine r_iconst 0 (by decide) 50 rfl dX5_become_49 ?_
  refine r_aload_n 0 rfl rfl 51 rfl dX5_become_50 ?_
  refine r_getr fl_X5_21 hb0.1 rfl 54 rfl dX5_become_51 ?_
  refine r_iconst 0 (by decide) 55 rfl dX5_become_54 ?_
  refine r_bipush 8 (by decide) 57 rfl dX5_become_55 ?_
  refine r_copy hb1.2.2.2.2.1 hb0.2.2.2.2.1 ml_X5_49 ⟨Nat.le_of_ble_eq_true rfl, Nat.le_of_ble_eq_true rfl⟩ 60 rfl dX5_become_57 ?_
  refine r_ct ?_
  refine r_aload_n 1 rfl rfl 61 rfl dX5_become_60 ?_
  refine r_getr fl_X5_24 hb1.1 rfl 64 rfl dX5_become_61 ?_
  refine r_iconst 0 (by decide) 65 rfl dX5_become_64 ?_
  refine r_aload_n 0 rfl rfl 66 rfl dX5_become_65 ?_
  refine r_getr fl_X5_24 hb0.1 rfl 69 rfl dX5_become_66 ?_
  refine r_iconst 0 (by decide) 70 rfl dX5_become_69 ?_
  refine r_bipush 8 (by decide) 72 rfl dX5_become_70 ?_
  refine r_copy hb1.2.2.2.2.2.1 hb0.2.2.2.2.2.1 ml_X5_49 ⟨Nat.le_of_ble_eq_true rfl, Nat.le_of_ble_eq_true rfl⟩ 75 rfl dX5_become_72 ?_
  refine r_aload_n 1 rfl rfl 76 rfl dX5_become_75 ?_
  refine r_getr fl_X5_27 hb1.1 rfl 79 rfl dX5_become_76 ?_
  refine r_iconst 0 (by decide) 80 rfl dX5_become_79 ?_
  refine r_aload_n 0 rfl rfl 81 rfl dX5_become_80 ?_
  refine r_getr fl_X5_27 hb0.1 rfl 84 rfl dX5_become_81 ?_
  refine r_iconst 0 (by decide) 85 rfl dX5_become_84 ?_
  refine r_bipush 8 (by decide) 87 rfl dX5_become_85 ?_
  refine r_copy hb1.2.2.2.2.2.2.1 hb0.2.2.2.2.2.2.1 ml_X5_49 ⟨Nat.le_of_ble_eq_true rfl, Nat.le_of_ble_eq_true rfl⟩ 90 rfl dX5_become_87 ?_
  refine r_ct ?_
  refine r_aload_n 1 rfl rfl 91 rfl dX5_become_90 ?_
  refine r_getr fl_X5_30 hb1.1 rfl 94 rfl dX5_become_91 ?_
  refine r_iconst 0 (by decide) 95 rfl dX5_become_94 ?_
  refine r_aload_n 0 rfl rfl 96 rfl dX5_become_95 ?_
  refine r_getr fl_X5_30 hb0.1 rfl 99 rfl dX5_become_96 ?_
  refine r_iconst 0 (by decide) 100 rfl dX5_become_99 ?_
  refine r_bipush 8 (by decide) 102 rfl dX5_become_100 ?_
  refine r_copy hb1.2.2.2.2.2.2.2 hb0.2.2.2.2.2.2.2 ml_X5_49 ⟨Nat.le_of_ble_eq_true rfl, Nat.le_of_ble_eq_true rfl⟩ 105 rfl dX5_become_102 ?_
  refine r_aload_n 0 rfl rfl 106 rfl dX5_become_105 ?_
  refine r_aload_n 1 rfl rfl 107 rfl dX5_become_106 ?_
  refine r_geti fl_X5_36 hb1.1 rfl 110 rfl dX5_become_107 ?_
  refine r_puti fp_X5_36 hb0.1 rfl 113 rfl dX5_become_110 ?_
  refine r_ct ?_
  refine r_aload_n 0 rfl rfl 114 rfl dX5_become_113 ?_
  refine r_aload_n 1 rfl rfl 115 rfl dX5_become_114 ?_
  refine r_geti fl_X5_40 hb1.1 rfl 118 rfl dX5_become_115 ?_
  refine r_puti fp_X5_40 hb0.1 rfl 121 rfl dX5_become_118 ?_
  refine r_aload_n 0 rfl rfl 122 rfl dX5_become_121 ?_
  refine r_aload_n 1 rfl rfl 123 rfl dX5_become_122 ?_
  refine r_geti fl_X5_43 hb1.1 rfl 126 rfl dX5_become_123 ?_
  refine r_puti fp_X5_43 hb0.1 rfl 129 rfl dX5_become_126 ?_
  refine r_aload_n 0 rfl rfl 130 rfl dX5_become_129 ?_
  refine r_aload_n 1 rfl rfl 131 rfl dX5_become_130 ?_
  refine r_geti fl_X5_46 hb1.1 rfl 134 rfl dX5_become_131 ?_
  refine r_puti fp_X5_46 hb0.1 rfl 137 rfl dX5_become_134 ?_
  refine r_ct ?_
  exact r_vret rfl dX5_become_137
/-! HandMarket$Town.isHand(I)Z -/
def j_X5_isHand_12 (b0 : Nat)  (x1 : Int32) (σ : k_Mem) : Option (Int32 × k_Mem) :=
  if x1 < 4 then (
    some (0, σ)
  ) else (
    if (4 + (σ b0 8)) ≤ x1 then (
      some (0, σ)
    ) else (
      some (1, σ)
    )
  )
set_option maxRecDepth 100000 in
theorem gj_X5_isHand_12 (E : k_EV) (b0 : Nat) (hb0 : k_isT b0)   (x1 : Int32)  (σ : k_Mem) : k_GO m_X5_isHand E k_vi 12 [(0, k_rf E b0), (1, .int x1)] [] σ (j_X5_isHand_12 b0  x1 σ) := by
  unfold j_X5_isHand_12
  refine r_iload_n 1 rfl rfl 13 rfl dX5_isHand_12 ?_
  refine r_iconst 4 (by decide) 14 rfl dX5_isHand_13 ?_
  refine r_icmp_lt 31 17 rfl (by decide) dX5_isHand_14 (fun c2 => ?_) (fun c2 => ?_)
  · refine r_iconst 0 (by decide) 32 rfl dX5_isHand_31 ?_
    exact r_zret rfl (Or.inl rfl) dX5_isHand_32
  · refine r_iload_n 1 rfl rfl 18 rfl dX5_isHand_17 ?_
    refine r_iconst 4 (by decide) 19 rfl dX5_isHand_18 ?_
    refine r_aload_n 0 rfl rfl 20 rfl dX5_isHand_19 ?_
    refine r_geti fl_X5_40 hb0.1 rfl 23 rfl dX5_isHand_20 ?_
    refine r_iadd 24 rfl dX5_isHand_23 ?_
    refine r_icmp_ge 31 27 rfl (by decide) dX5_isHand_24 (fun c3 => ?_) (fun c3 => ?_)
    · refine r_iconst 0 (by decide) 32 rfl dX5_isHand_31 ?_
      exact r_zret rfl (Or.inl rfl) dX5_isHand_32
    · refine r_iconst 1 (by decide) 28 rfl dX5_isHand_27 ?_
      refine r_goto 32 (by decide) dX5_isHand_28 ?_
      exact r_zret rfl (Or.inr rfl) dX5_isHand_32
def f_X5_isHand (b0 : Nat) (x1 : Int32) (σ : k_Mem) : Option (Int32 × k_Mem) :=
  if x1 < 0 then (
    j_X5_isHand_12 b0  x1 σ
  ) else (
    if x1 < (σ b0 7) then (
      some (1, σ)
    ) else (
      j_X5_isHand_12 b0  x1 σ
    )
  )
set_option maxRecDepth 100000 in
theorem c_X5_isHand (E : k_EV) (b0 : Nat) (hb0 : k_isT b0) (x1 : Int32) (σ : k_Mem) : k_MC m_X5_isHand E k_vi [k_rf E b0, .int x1] σ (f_X5_isHand b0 x1 σ) := by
  refine k_MC_of ⟨by decide, by decide⟩ (Nat.le_of_ble_eq_true rfl) ?_
  show k_GO _ _ _ 0 [(0, k_rf E b0), (1, .int x1)] [] σ _
  unfold f_X5_isHand
  refine r_iload_n 1 rfl rfl 1 rfl dX5_isHand_0 ?_
  refine r_if_lt 12 4 rfl (by decide) dX5_isHand_1 (fun c1 => ?_) (fun c1 => ?_)
  · exact r_sub [0, 1] rfl (gj_X5_isHand_12 E b0 hb0   _  _)
  · refine r_iload_n 1 rfl rfl 5 rfl dX5_isHand_4 ?_
    refine r_aload_n 0 rfl rfl 6 rfl dX5_isHand_5 ?_
    refine r_geti fl_X5_36 hb0.1 rfl 9 rfl dX5_isHand_6 ?_
    refine r_icmp_lt 27 12 rfl (by decide) dX5_isHand_9 (fun c4 => ?_) (fun c4 => ?_)
    · refine r_iconst 1 (by decide) 28 rfl dX5_isHand_27 ?_
      refine r_goto 32 (by decide) dX5_isHand_28 ?_
      exact r_zret rfl (Or.inr rfl) dX5_isHand_32
    · exact r_sub [0, 1] rfl (gj_X5_isHand_12 E b0 hb0   _  _)
/-! HandMarket$Town.sameSide(II)Z -/
def j_X5_sameSide_20   (xs0 : Int32) (xs1 : Int32) (σ : k_Mem) : Option (Int32 × k_Mem) :=
  if xs0 = xs1 then (
    some (1, σ)
  ) else (
    some (0, σ)
  )
set_option maxRecDepth 100000 in
theorem gj_X5_sameSide_20 (E : k_EV)     (xs0 : Int32) (xs1 : Int32)  (σ : k_Mem) : k_GO m_X5_sameSide E k_vi 20 [] [.int xs1, .int xs0] σ (j_X5_sameSide_20   xs0 xs1 σ) := by
  unfold j_X5_sameSide_20
  refine r_icmp_ne 27 23 rfl (by decide) dX5_sameSide_20 (fun c3 => ?_) (fun c3 => ?_)
  · refine r_iconst 1 (by decide) 24 rfl dX5_sameSide_23 ?_
    refine r_goto 28 (by decide) dX5_sameSide_24 ?_
    exact r_zret rfl (Or.inr rfl) dX5_sameSide_28
  · refine r_iconst 0 (by decide) 28 rfl dX5_sameSide_27 ?_
    exact r_zret rfl (Or.inl rfl) dX5_sameSide_28
def j_X5_sameSide_10   (x1 : Int32) (xs0 : Int32) (σ : k_Mem) : Option (Int32 × k_Mem) :=
  if 4 ≤ x1 then (
    j_X5_sameSide_20   xs0 0 σ
  ) else (
    j_X5_sameSide_20   xs0 1 σ
  )
set_option maxRecDepth 100000 in
theorem gj_X5_sameSide_10 (E : k_EV)     (x1 : Int32) (xs0 : Int32)  (σ : k_Mem) : k_GO m_X5_sameSide E k_vi 10 [(1, .int x1)] [.int xs0] σ (j_X5_sameSide_10   x1 xs0 σ) := by
  unfold j_X5_sameSide_10
  refine r_iload_n 0 rfl rfl 11 rfl dX5_sameSide_10 ?_
  refine r_iconst 4 (by decide) 12 rfl dX5_sameSide_11 ?_
  refine r_icmp_ge 19 15 rfl (by decide) dX5_sameSide_12 (fun c2 => ?_) (fun c2 => ?_)
  · refine r_iconst 0 (by decide) 20 rfl dX5_sameSide_19 ?_
    exact r_sub [] rfl (gj_X5_sameSide_20 E     _ _  _)
  · refine r_iconst 1 (by decide) 16 rfl dX5_sameSide_15 ?_
    refine r_goto 20 (by decide) dX5_sameSide_16 ?_
    exact r_sub [] rfl (gj_X5_sameSide_20 E     _ _  _)
def f_X5_sameSide  (x0 : Int32) (x1 : Int32) (σ : k_Mem) : Option (Int32 × k_Mem) :=
  if 4 ≤ x0 then (
    j_X5_sameSide_10   x1 0 σ
  ) else (
    j_X5_sameSide_10   x1 1 σ
  )
set_option maxRecDepth 100000 in
theorem c_X5_sameSide (E : k_EV)   (x0 : Int32) (x1 : Int32) (σ : k_Mem) : k_MC m_X5_sameSide E k_vi [.int x0, .int x1] σ (f_X5_sameSide x0 x1 σ) := by
  refine k_MC_of ⟨by decide, by decide⟩ (Nat.le_of_ble_eq_true rfl) ?_
  show k_GO _ _ _ 0 [(0, .int x0), (1, .int x1)] [] σ _
  unfold f_X5_sameSide
  refine r_iload_n 0 rfl rfl 1 rfl dX5_sameSide_0 ?_
  refine r_iconst 4 (by decide) 2 rfl dX5_sameSide_1 ?_
  refine r_icmp_ge 9 5 rfl (by decide) dX5_sameSide_2 (fun c1 => ?_) (fun c1 => ?_)
  · refine r_iconst 0 (by decide) 10 rfl dX5_sameSide_9 ?_
    exact r_sub [1] rfl (gj_X5_sameSide_10 E     _ _  _)
  · refine r_iconst 1 (by decide) 6 rfl dX5_sameSide_5 ?_
    refine r_goto 10 (by decide) dX5_sameSide_6 ?_
    exact r_sub [1] rfl (gj_X5_sameSide_10 E     _ _  _)
/-! HandMarket$Town.runsWith(I)I -/
def j_X5_runsWith_34 (b0 : Nat)  (x1 : Int32) (σ : k_Mem) : Option (Int32 × k_Mem) :=
  k_bd (f_X5_isRun b0 x1 σ) (fun r3 σ3 =>
    if r3 = 0 then (
      some ((-1), σ3)
    ) else (
      k_bd (f_X5_isHand b0 (x1 + 1) σ3) (fun r5 σ5 =>
        if r5 = 0 then (
          some ((-1), σ5)
        ) else (
          k_bd (f_X5_sameSide  x1 (x1 + 1) σ5) (fun r7 σ7 =>
            if r7 = 0 then (
              some ((-1), σ7)
            ) else (
              some ((x1 + 1), σ7)
            )
          )
        )
      )
    )
  )
set_option maxRecDepth 100000 in
theorem gj_X5_runsWith_34 (E : k_EV) (b0 : Nat) (hb0 : k_isT b0)   (x1 : Int32)  (σ : k_Mem) : k_GO m_X5_runsWith E k_vi 34 [(0, k_rf E b0), (1, .int x1)] [] σ (j_X5_runsWith_34 b0  x1 σ) := by
  unfold j_X5_runsWith_34
  refine r_aload_n 0 rfl rfl 35 rfl dX5_runsWith_34 ?_
  refine r_iload_n 1 rfl rfl 36 rfl dX5_runsWith_35 ?_
  refine r_calli (c_X5_isRun E b0 hb0 _ _) rfl hb0.1 rfl ml_X5_86 cw_X5_isRun vw_X5_isRun (by decide) (Nat.le_of_ble_eq_true rfl) 39 rfl dX5_runsWith_36 (fun r3 σ3 => ?_)
  refine r_if_eq 66 42 rfl (by decide) dX5_runsWith_39 (fun c4 => ?_) (fun c4 => ?_)
  · refine r_iconst (-1) (by decide) 67 rfl dX5_runsWith_66 ?_
    exact r_iret rfl dX5_runsWith_67
  · refine r_aload_n 0 rfl rfl 43 rfl dX5_runsWith_42 ?_
    refine r_iload_n 1 rfl rfl 44 rfl dX5_runsWith_43 ?_
    refine r_iconst 1 (by decide) 45 rfl dX5_runsWith_44 ?_
    refine r_iadd 46 rfl dX5_runsWith_45 ?_
    refine r_calli (c_X5_isHand E b0 hb0 _ _) rfl hb0.1 rfl ml_X5_79 cw_X5_isHand vw_X5_isHand (by decide) (Nat.le_of_ble_eq_true rfl) 49 rfl dX5_runsWith_46 (fun r5 σ5 => ?_)
    refine r_if_eq 66 52 rfl (by decide) dX5_runsWith_49 (fun c6 => ?_) (fun c6 => ?_)
    · refine r_iconst (-1) (by decide) 67 rfl dX5_runsWith_66 ?_
      exact r_iret rfl dX5_runsWith_67
    · refine r_iload_n 1 rfl rfl 53 rfl dX5_runsWith_52 ?_
      refine r_iload_n 1 rfl rfl 54 rfl dX5_runsWith_53 ?_
      refine r_iconst 1 (by decide) 55 rfl dX5_runsWith_54 ?_
      refine r_iadd 56 rfl dX5_runsWith_55 ?_
      refine r_callsi (c_X5_sameSide E   _ _ _) rfl ml_X5_82 cw_X5_sameSide sw_X5_sameSide (by decide) (Nat.le_of_ble_eq_true rfl) 59 rfl dX5_runsWith_56 (fun r7 σ7 => ?_)
      refine r_if_eq 66 62 rfl (by decide) dX5_runsWith_59 (fun c8 => ?_) (fun c8 => ?_)
      · refine r_iconst (-1) (by decide) 67 rfl dX5_runsWith_66 ?_
        exact r_iret rfl dX5_runsWith_67
      · refine r_iload_n 1 rfl rfl 63 rfl dX5_runsWith_62 ?_
        refine r_iconst 1 (by decide) 64 rfl dX5_runsWith_63 ?_
        refine r_iadd 65 rfl dX5_runsWith_64 ?_
        exact r_iret rfl dX5_runsWith_65
def f_X5_runsWith (b0 : Nat) (x1 : Int32) (σ : k_Mem) : Option (Int32 × k_Mem) :=
  k_bd (f_X5_isHand b0 (x1 - 1) σ) (fun r1 σ1 =>
    if r1 = 0 then (
      j_X5_runsWith_34 b0  x1 σ1
    ) else (
      k_bd (f_X5_sameSide  (x1 - 1) x1 σ1) (fun r9 σ9 =>
        if r9 = 0 then (
          j_X5_runsWith_34 b0  x1 σ9
        ) else (
          k_bd (f_X5_isRun b0 (x1 - 1) σ9) (fun r11 σ11 =>
            if r11 = 0 then (
              j_X5_runsWith_34 b0  x1 σ11
            ) else (
              some ((x1 - 1), σ11)
            )
          )
        )
      )
    )
  )
set_option maxRecDepth 100000 in
theorem c_X5_runsWith (E : k_EV) (b0 : Nat) (hb0 : k_isT b0) (x1 : Int32) (σ : k_Mem) : k_MC m_X5_runsWith E k_vi [k_rf E b0, .int x1] σ (f_X5_runsWith b0 x1 σ) := by
  refine k_MC_of ⟨by decide, by decide⟩ (Nat.le_of_ble_eq_true rfl) ?_
  show k_GO _ _ _ 0 [(0, k_rf E b0), (1, .int x1)] [] σ _
  unfold f_X5_runsWith
  refine r_aload_n 0 rfl rfl 1 rfl dX5_runsWith_0 ?_
  refine r_iload_n 1 rfl rfl 2 rfl dX5_runsWith_1 ?_
  refine r_iconst 1 (by decide) 3 rfl dX5_runsWith_2 ?_
  refine r_isub 4 rfl dX5_runsWith_3 ?_
  refine r_calli (c_X5_isHand E b0 hb0 _ _) rfl hb0.1 rfl ml_X5_79 cw_X5_isHand vw_X5_isHand (by decide) (Nat.le_of_ble_eq_true rfl) 7 rfl dX5_runsWith_4 (fun r1 σ1 => ?_)
  refine r_if_eq 34 10 rfl (by decide) dX5_runsWith_7 (fun c2 => ?_) (fun c2 => ?_)
  · exact r_sub [0, 1] rfl (gj_X5_runsWith_34 E b0 hb0   _  _)
  · refine r_iload_n 1 rfl rfl 11 rfl dX5_runsWith_10 ?_
    refine r_iconst 1 (by decide) 12 rfl dX5_runsWith_11 ?_
    refine r_isub 13 rfl dX5_runsWith_12 ?_
    refine r_iload_n 1 rfl rfl 14 rfl dX5_runsWith_13 ?_
    refine r_callsi (c_X5_sameSide E   _ _ _) rfl ml_X5_82 cw_X5_sameSide sw_X5_sameSide (by decide) (Nat.le_of_ble_eq_true rfl) 17 rfl dX5_runsWith_14 (fun r9 σ9 => ?_)
    refine r_if_eq 34 20 rfl (by decide) dX5_runsWith_17 (fun c10 => ?_) (fun c10 => ?_)
    · exact r_sub [0, 1] rfl (gj_X5_runsWith_34 E b0 hb0   _  _)
    · refine r_aload_n 0 rfl rfl 21 rfl dX5_runsWith_20 ?_
      refine r_iload_n 1 rfl rfl 22 rfl dX5_runsWith_21 ?_
      refine r_iconst 1 (by decide) 23 rfl dX5_runsWith_22 ?_
      refine r_isub 24 rfl dX5_runsWith_23 ?_
      refine r_calli (c_X5_isRun E b0 hb0 _ _) rfl hb0.1 rfl ml_X5_86 cw_X5_isRun vw_X5_isRun (by decide) (Nat.le_of_ble_eq_true rfl) 27 rfl dX5_runsWith_24 (fun r11 σ11 => ?_)
      refine r_if_eq 34 30 rfl (by decide) dX5_runsWith_27 (fun c12 => ?_) (fun c12 => ?_)
      · exact r_sub [0, 1] rfl (gj_X5_runsWith_34 E b0 hb0   _  _)
      · refine r_iload_n 1 rfl rfl 31 rfl dX5_runsWith_30 ?_
        refine r_iconst 1 (by decide) 32 rfl dX5_runsWith_31 ?_
        refine r_isub 33 rfl dX5_runsWith_32 ?_
        exact r_iret rfl dX5_runsWith_33
/-! HandMarket$Town.shows(II)I -/
def j_X5_shows_32 (b0 : Nat)  (x1 : Int32) (os0_ : Nat) (σ : k_Mem) : Option (Int32 × k_Mem) :=
  k_bd (f_X5_runsWith b0 x1 σ) (fun r3 σ3 =>
    if k_in x1 8 then (
      if k_in (σ3 (b0 + 5) (k_n x1)) 8 then (
        if r3 = (-1) then (
          some ((σ3 os0_ (k_n (σ3 (b0 + 5) (k_n x1)))), σ3)
        ) else (
          if k_in r3 8 then (
            if k_in (σ3 (b0 + 5) (k_n r3)) 8 then (
              some ((((σ3 os0_ (k_n (σ3 (b0 + 5) (k_n x1)))) + (σ3 os0_ (k_n (σ3 (b0 + 5) (k_n r3))))) / 2), σ3)
            ) else none
          ) else none
        )
      ) else none
    ) else none
  )
set_option maxRecDepth 100000 in
theorem gj_X5_shows_32 (E : k_EV) (b0 : Nat) (hb0 : k_isT b0)   (x1 : Int32) (os0_ : Nat) (hos0_ : k_SH os0_ = .inl (.int, 8, none)) (σ : k_Mem) : k_GO m_X5_shows E k_vi 32 [(0, k_rf E b0), (1, .int x1)] [k_rf E os0_] σ (j_X5_shows_32 b0  x1 os0_ σ) := by
  unfold j_X5_shows_32
  refine r_astore_n [(3, k_rf E os0_), (0, k_rf E b0), (1, .int _)] rfl rfl (by decide) 33 rfl dX5_shows_32 ?_
  refine r_aload_n 1 rfl rfl 34 rfl dX5_shows_33 ?_
  refine r_iload_n 2 rfl rfl 35 rfl dX5_shows_34 ?_
  refine r_calli (c_X5_runsWith E b0 hb0 _ _) rfl hb0.1 rfl ml_X5_76 cw_X5_runsWith vw_X5_runsWith (by decide) (Nat.le_of_ble_eq_true rfl) 38 rfl dX5_shows_35 (fun r3 σ3 => ?_)
  refine r_istore [(4, .int _), (3, k_rf E os0_), (0, k_rf E b0), (1, .int _)] rfl (by decide) 40 rfl dX5_shows_38 ?_
  refine r_aload_n 1 rfl rfl 41 rfl dX5_shows_40 ?_
  refine r_aload_n 2 rfl rfl 42 rfl dX5_shows_41 ?_
  refine r_getr fl_X5_24 hb0.1 rfl 45 rfl dX5_shows_42 ?_
  refine r_iload_n 3 rfl rfl 46 rfl dX5_shows_45 ?_
  refine r_iald hb0.2.2.2.2.2.1 47 rfl dX5_shows_46 ?_
  refine r_iald hos0_ 48 rfl dX5_shows_47 ?_
  refine r_istore [(5, .int _), (4, .int _), (3, k_rf E os0_), (0, k_rf E b0), (1, .int _)] rfl (by decide) 50 rfl dX5_shows_48 ?_
  refine r_iload 1 rfl 52 rfl dX5_shows_50 ?_
  refine r_iconst (-1) (by decide) 53 rfl dX5_shows_52 ?_
  refine r_icmp_ne 61 56 rfl (by decide) dX5_shows_53 (fun c4 => ?_) (fun c4 => ?_)
  · refine r_iload 0 rfl 58 rfl dX5_shows_56 ?_
    refine r_goto 75 (by decide) dX5_shows_58 ?_
    exact r_iret rfl dX5_shows_75
  · refine r_iload 0 rfl 63 rfl dX5_shows_61 ?_
    refine r_aload_n 2 rfl rfl 64 rfl dX5_shows_63 ?_
    refine r_aload_n 3 rfl rfl 65 rfl dX5_shows_64 ?_
    refine r_getr fl_X5_24 hb0.1 rfl 68 rfl dX5_shows_65 ?_
    refine r_iload 1 rfl 70 rfl dX5_shows_68 ?_
    refine r_iald hb0.2.2.2.2.2.1 71 rfl dX5_shows_70 ?_
    refine r_iald hos0_ 72 rfl dX5_shows_71 ?_
    refine r_iadd 73 rfl dX5_shows_72 ?_
    refine r_iconst 2 (by decide) 74 rfl dX5_shows_73 ?_
    refine r_idiv (by decide) 75 rfl dX5_shows_74 ?_
    exact r_iret rfl dX5_shows_75
def f_X5_shows (b0 : Nat) (x1 : Int32) (x2 : Int32) (σ : k_Mem) : Option (Int32 × k_Mem) :=
  if x2 = 2 then (
    if k_in x1 8 then (
      if k_in (σ (b0 + 5) (k_n x1)) 8 then (
        some ((σ (b0 + 4) (k_n (σ (b0 + 5) (k_n x1)))), σ)
      ) else none
    ) else none
  ) else (
    if x2 = 0 then (
      j_X5_shows_32 b0  x1 (b0 + 2) σ
    ) else (
      j_X5_shows_32 b0  x1 (b0 + 3) σ
    )
  )
set_option maxRecDepth 100000 in
theorem c_X5_shows (E : k_EV) (b0 : Nat) (hb0 : k_isT b0) (x1 : Int32) (x2 : Int32) (σ : k_Mem) : k_MC m_X5_shows E k_vi [k_rf E b0, .int x1, .int x2] σ (f_X5_shows b0 x1 x2 σ) := by
  refine k_MC_of ⟨by decide, by decide⟩ (Nat.le_of_ble_eq_true rfl) ?_
  show k_GO _ _ _ 0 [(0, k_rf E b0), (1, .int x1), (2, .int x2)] [] σ _
  unfold f_X5_shows
  refine r_iload_n 2 rfl rfl 1 rfl dX5_shows_0 ?_
  refine r_iconst 2 (by decide) 2 rfl dX5_shows_1 ?_
  refine r_icmp_ne 17 5 rfl (by decide) dX5_shows_2 (fun c1 => ?_) (fun c1 => ?_)
  · refine r_aload_n 0 rfl rfl 6 rfl dX5_shows_5 ?_
    refine r_getr fl_X5_21 hb0.1 rfl 9 rfl dX5_shows_6 ?_
    refine r_aload_n 0 rfl rfl 10 rfl dX5_shows_9 ?_
    refine r_getr fl_X5_24 hb0.1 rfl 13 rfl dX5_shows_10 ?_
    refine r_iload_n 1 rfl rfl 14 rfl dX5_shows_13 ?_
    refine r_iald hb0.2.2.2.2.2.1 15 rfl dX5_shows_14 ?_
    refine r_iald hb0.2.2.2.2.1 16 rfl dX5_shows_15 ?_
    exact r_iret rfl dX5_shows_16
  · refine r_iload_n 2 rfl rfl 18 rfl dX5_shows_17 ?_
    refine r_if_ne 28 21 rfl (by decide) dX5_shows_18 (fun c2 => ?_) (fun c2 => ?_)
    · refine r_aload_n 0 rfl rfl 22 rfl dX5_shows_21 ?_
      refine r_getr fl_X5_15 hb0.1 rfl 25 rfl dX5_shows_22 ?_
      refine r_goto 32 (by decide) dX5_shows_25 ?_
      exact r_sub [0, 1] rfl (gj_X5_shows_32 E b0 hb0   _ (b0 + 2) hb0.2.2.1 _)
    · refine r_aload_n 0 rfl rfl 29 rfl dX5_shows_28 ?_
      refine r_getr fl_X5_18 hb0.1 rfl 32 rfl dX5_shows_29 ?_
      exact r_sub [0, 1] rfl (gj_X5_shows_32 E b0 hb0   _ (b0 + 3) hb0.2.2.2.1 _)
/-! HandMarket$Town.isLeft(I)Z -/
def f_X5_isLeft (b0 : Nat) (x1 : Int32) (σ : k_Mem) : Option (Int32 × k_Mem) :=
  if x1 < 0 then (
    some (0, σ)
  ) else (
    if (σ b0 7) ≤ x1 then (
      some (0, σ)
    ) else (
      some (1, σ)
    )
  )
set_option maxRecDepth 100000 in
theorem c_X5_isLeft (E : k_EV) (b0 : Nat) (hb0 : k_isT b0) (x1 : Int32) (σ : k_Mem) : k_MC m_X5_isLeft E k_vi [k_rf E b0, .int x1] σ (f_X5_isLeft b0 x1 σ) := by
  refine k_MC_of ⟨by decide, by decide⟩ (Nat.le_of_ble_eq_true rfl) ?_
  show k_GO _ _ _ 0 [(0, k_rf E b0), (1, .int x1)] [] σ _
  unfold f_X5_isLeft
  refine r_iload_n 1 rfl rfl 1 rfl dX5_isLeft_0 ?_
  refine r_if_lt 16 4 rfl (by decide) dX5_isLeft_1 (fun c1 => ?_) (fun c1 => ?_)
  · refine r_iconst 0 (by decide) 17 rfl dX5_isLeft_16 ?_
    exact r_zret rfl (Or.inl rfl) dX5_isLeft_17
  · refine r_iload_n 1 rfl rfl 5 rfl dX5_isLeft_4 ?_
    refine r_aload_n 0 rfl rfl 6 rfl dX5_isLeft_5 ?_
    refine r_geti fl_X5_36 hb0.1 rfl 9 rfl dX5_isLeft_6 ?_
    refine r_icmp_ge 16 12 rfl (by decide) dX5_isLeft_9 (fun c2 => ?_) (fun c2 => ?_)
    · refine r_iconst 0 (by decide) 17 rfl dX5_isLeft_16 ?_
      exact r_zret rfl (Or.inl rfl) dX5_isLeft_17
    · refine r_iconst 1 (by decide) 13 rfl dX5_isLeft_12 ?_
      refine r_goto 17 (by decide) dX5_isLeft_13 ?_
      exact r_zret rfl (Or.inr rfl) dX5_isLeft_17
/-! HandMarket$Town.isRight(I)Z -/
def f_X5_isRight (b0 : Nat) (x1 : Int32) (σ : k_Mem) : Option (Int32 × k_Mem) :=
  if x1 < 4 then (
    some (0, σ)
  ) else (
    if (4 + (σ b0 8)) ≤ x1 then (
      some (0, σ)
    ) else (
      some (1, σ)
    )
  )
set_option maxRecDepth 100000 in
theorem c_X5_isRight (E : k_EV) (b0 : Nat) (hb0 : k_isT b0) (x1 : Int32) (σ : k_Mem) : k_MC m_X5_isRight E k_vi [k_rf E b0, .int x1] σ (f_X5_isRight b0 x1 σ) := by
  refine k_MC_of ⟨by decide, by decide⟩ (Nat.le_of_ble_eq_true rfl) ?_
  show k_GO _ _ _ 0 [(0, k_rf E b0), (1, .int x1)] [] σ _
  unfold f_X5_isRight
  refine r_iload_n 1 rfl rfl 1 rfl dX5_isRight_0 ?_
  refine r_iconst 4 (by decide) 2 rfl dX5_isRight_1 ?_
  refine r_icmp_lt 19 5 rfl (by decide) dX5_isRight_2 (fun c1 => ?_) (fun c1 => ?_)
  · refine r_iconst 0 (by decide) 20 rfl dX5_isRight_19 ?_
    exact r_zret rfl (Or.inl rfl) dX5_isRight_20
  · refine r_iload_n 1 rfl rfl 6 rfl dX5_isRight_5 ?_
    refine r_iconst 4 (by decide) 7 rfl dX5_isRight_6 ?_
    refine r_aload_n 0 rfl rfl 8 rfl dX5_isRight_7 ?_
    refine r_geti fl_X5_40 hb0.1 rfl 11 rfl dX5_isRight_8 ?_
    refine r_iadd 12 rfl dX5_isRight_11 ?_
    refine r_icmp_ge 19 15 rfl (by decide) dX5_isRight_12 (fun c2 => ?_) (fun c2 => ?_)
    · refine r_iconst 0 (by decide) 20 rfl dX5_isRight_19 ?_
      exact r_zret rfl (Or.inl rfl) dX5_isRight_20
    · refine r_iconst 1 (by decide) 16 rfl dX5_isRight_15 ?_
      refine r_goto 20 (by decide) dX5_isRight_16 ?_
      exact r_zret rfl (Or.inr rfl) dX5_isRight_20
/-! HandMarket$Town.couples()I -/
def f_X5_couples (b0 : Nat)  (σ : k_Mem) : Option (Int32 × k_Mem) :=
  k_bd (f_X5_wedBits b0  σ) (fun r1 σ1 =>
    k_bd (f_J6_bitCount_0f7a4  (r1 &&& 15) σ1) (fun r2 σ2 =>
      some (r2, σ2)
    )
  )
set_option maxRecDepth 100000 in
theorem c_X5_couples (E : k_EV) (b0 : Nat) (hb0 : k_isT b0)  (σ : k_Mem) : k_MC m_X5_couples E k_vi [k_rf E b0] σ (f_X5_couples b0 σ) := by
  refine k_MC_of ⟨by decide, by decide⟩ (Nat.le_of_ble_eq_true rfl) ?_
  show k_GO _ _ _ 0 [(0, k_rf E b0)] [] σ _
  unfold f_X5_couples
  refine r_aload_n 0 rfl rfl 1 rfl dX5_couples_0 ?_
  refine r_calli (c_X5_wedBits E b0 hb0  _) rfl hb0.1 rfl ml_X5_66 cw_X5_wedBits vw_X5_wedBits (by decide) (Nat.le_of_ble_eq_true rfl) 4 rfl dX5_couples_1 (fun r1 σ1 => ?_)
  refine r_bipush 15 (by decide) 6 rfl dX5_couples_4 ?_
  refine r_iand 7 rfl dX5_couples_6 ?_
  refine r_callsi (c_J6_bitCount_0f7a4 E   _ _) rfl ml_X5_70 cw_J6_bitCount_0f7a4 sw_J6_bitCount_0f7a4 (by decide) (Nat.le_of_ble_eq_true rfl) 10 rfl dX5_couples_7 (fun r2 σ2 => ?_)
  exact r_iret rfl dX5_couples_10
/-! HandMarket$Town.divorce(II)V -/
def f_X5_divorce (b0 : Nat) (x1 : Int32) (x2 : Int32) (σ : k_Mem) : Option (Unit × k_Mem) :=
  if k_in x1 8 then (
    if k_in x2 8 then (
      some ((), (k_mset (k_mset σ (b0 + 6) (k_n x1) (-1)) (b0 + 6) (k_n x2) (-1)))
    ) else none
  ) else none
set_option maxRecDepth 100000 in
theorem c_X5_divorce (E : k_EV) (b0 : Nat) (hb0 : k_isT b0) (x1 : Int32) (x2 : Int32) (σ : k_Mem) : k_MC m_X5_divorce E k_vv [k_rf E b0, .int x1, .int x2] σ (f_X5_divorce b0 x1 x2 σ) := by
  refine k_MC_of ⟨by decide, by decide⟩ (Nat.le_of_ble_eq_true rfl) ?_
  show k_GO _ _ _ 0 [(0, k_rf E b0), (1, .int x1), (2, .int x2)] [] σ _
  unfold f_X5_divorce
  refine r_aload_n 0 rfl rfl 1 rfl dX5_divorce_0 ?_
  refine r_getr fl_X5_27 hb0.1 rfl 4 rfl dX5_divorce_1 ?_
  refine r_iload_n 1 rfl rfl 5 rfl dX5_divorce_4 ?_
  refine r_iconst (-1) (by decide) 6 rfl dX5_divorce_5 ?_
  refine r_iast hb0.2.2.2.2.2.2.1 7 rfl dX5_divorce_6 ?_
  refine r_aload_n 0 rfl rfl 8 rfl dX5_divorce_7 ?_
  refine r_getr fl_X5_27 hb0.1 rfl 11 rfl dX5_divorce_8 ?_
  refine r_iload_n 2 rfl rfl 12 rfl dX5_divorce_11 ?_
  refine r_iconst (-1) (by decide) 13 rfl dX5_divorce_12 ?_
  refine r_iast hb0.2.2.2.2.2.2.1 14 rfl dX5_divorce_13 ?_
  exact r_vret rfl dX5_divorce_14
/-! HandMarket$Town.comeNearer([III)V -/
def j_X5_comeNearer_25 (o0 : Nat) (n0 : Nat)  (x3 : Int32) (xs0 : Int32) (σ : k_Mem) : Option (Unit × k_Mem) :=
  if k_in xs0 n0 then (
    if k_in x3 n0 then (
      if ((σ o0 (k_n xs0)) - (σ o0 (k_n x3))) < 2 then (
        if ((σ o0 (k_n xs0)) - (σ o0 (k_n x3))) = 1 then (
          if k_in x3 n0 then (
            if k_in x3 n0 then (
              some ((), (k_mset σ o0 (k_n x3) ((σ o0 (k_n x3)) + 1)))
            ) else none
          ) else none
        ) else (
          some ((), σ)
        )
      ) else (
        if k_in x3 n0 then (
          if k_in x3 n0 then (
            if k_in xs0 n0 then (
              if k_in xs0 n0 then (
                some ((), (k_mset (k_mset σ o0 (k_n x3) ((σ o0 (k_n x3)) + 1)) o0 (k_n xs0) (((k_mset σ o0 (k_n x3) ((σ o0 (k_n x3)) + 1)) o0 (k_n xs0)) - 1)))
              ) else none
            ) else none
          ) else none
        ) else none
      )
    ) else none
  ) else none
set_option maxRecDepth 100000 in
theorem gj_X5_comeNearer_25 (E : k_EV) (o0 : Nat) (n0 : Nat) (ho0 : k_SH o0 = .inl (.int, n0, none))   (x3 : Int32) (xs0 : Int32)  (σ : k_Mem) : k_GO m_X5_comeNearer E k_vv 25 [(0, k_rf E o0), (3, .int x3)] [.int xs0] σ (j_X5_comeNearer_25 o0 n0  x3 xs0 σ) := by
  unfold j_X5_comeNearer_25
  refine r_istore [(4, .int _), (0, k_rf E o0), (3, .int _)] rfl (by decide) 27 rfl dX5_comeNearer_25 ?_
  refine r_aload_n 1 rfl rfl 28 rfl dX5_comeNearer_27 ?_
  refine r_iload 0 rfl 30 rfl dX5_comeNearer_28 ?_
  refine r_iald ho0 31 rfl dX5_comeNearer_30 ?_
  refine r_aload_n 1 rfl rfl 32 rfl dX5_comeNearer_31 ?_
  refine r_iload_n 2 rfl rfl 33 rfl dX5_comeNearer_32 ?_
  refine r_iald ho0 34 rfl dX5_comeNearer_33 ?_
  refine r_isub 35 rfl dX5_comeNearer_34 ?_
  refine r_istore [(5, .int _), (4, .int _), (0, k_rf E o0), (3, .int _)] rfl (by decide) 37 rfl dX5_comeNearer_35 ?_
  refine r_iload 0 rfl 39 rfl dX5_comeNearer_37 ?_
  refine r_iconst 2 (by decide) 40 rfl dX5_comeNearer_39 ?_
  refine r_icmp_lt 61 43 rfl (by decide) dX5_comeNearer_40 (fun c3 => ?_) (fun c3 => ?_)
  · refine r_iload 0 rfl 63 rfl dX5_comeNearer_61 ?_
    refine r_iconst 1 (by decide) 64 rfl dX5_comeNearer_63 ?_
    refine r_icmp_ne 74 67 rfl (by decide) dX5_comeNearer_64 (fun c4 => ?_) (fun c4 => ?_)
    · refine r_aload_n 2 rfl rfl 68 rfl dX5_comeNearer_67 ?_
      refine r_iload_n 3 rfl rfl 69 rfl dX5_comeNearer_68 ?_
      refine r_dup2 70 rfl dX5_comeNearer_69 rfl rfl ?_
      refine r_iald ho0 71 rfl dX5_comeNearer_70 ?_
      refine r_iconst 1 (by decide) 72 rfl dX5_comeNearer_71 ?_
      refine r_iadd 73 rfl dX5_comeNearer_72 ?_
      refine r_iast ho0 74 rfl dX5_comeNearer_73 ?_
      exact r_vret rfl dX5_comeNearer_74
    · exact r_vret rfl dX5_comeNearer_74
  · refine r_aload_n 2 rfl rfl 44 rfl dX5_comeNearer_43 ?_
    refine r_iload_n 3 rfl rfl 45 rfl dX5_comeNearer_44 ?_
    refine r_dup2 46 rfl dX5_comeNearer_45 rfl rfl ?_
    refine r_iald ho0 47 rfl dX5_comeNearer_46 ?_
    refine r_iconst 1 (by decide) 48 rfl dX5_comeNearer_47 ?_
    refine r_iadd 49 rfl dX5_comeNearer_48 ?_
    refine r_iast ho0 50 rfl dX5_comeNearer_49 ?_
    refine r_aload_n 2 rfl rfl 51 rfl dX5_comeNearer_50 ?_
    refine r_iload 1 rfl 53 rfl dX5_comeNearer_51 ?_
    refine r_dup2 54 rfl dX5_comeNearer_53 rfl rfl ?_
    refine r_iald ho0 55 rfl dX5_comeNearer_54 ?_
    refine r_iconst 1 (by decide) 56 rfl dX5_comeNearer_55 ?_
    refine r_isub 57 rfl dX5_comeNearer_56 ?_
    refine r_iast ho0 58 rfl dX5_comeNearer_57 ?_
    refine r_goto 74 (by decide) dX5_comeNearer_58 ?_
    exact r_vret rfl dX5_comeNearer_74
def j_X5_comeNearer_14 (o0 : Nat) (n0 : Nat)  (x1 : Int32) (x2 : Int32) (xs0 : Int32) (σ : k_Mem) : Option (Unit × k_Mem) :=
  if xs0 = x1 then (
    j_X5_comeNearer_25 o0 n0  xs0 x2 σ
  ) else (
    j_X5_comeNearer_25 o0 n0  xs0 x1 σ
  )
set_option maxRecDepth 100000 in
theorem gj_X5_comeNearer_14 (E : k_EV) (o0 : Nat) (n0 : Nat) (ho0 : k_SH o0 = .inl (.int, n0, none))   (x1 : Int32) (x2 : Int32) (xs0 : Int32)  (σ : k_Mem) : k_GO m_X5_comeNearer E k_vv 14 [(0, k_rf E o0), (1, .int x1), (2, .int x2)] [.int xs0] σ (j_X5_comeNearer_14 o0 n0  x1 x2 xs0 σ) := by
  unfold j_X5_comeNearer_14
  refine r_istore_n [(3, .int _), (0, k_rf E o0), (1, .int _), (2, .int _)] rfl rfl (by decide) 15 rfl dX5_comeNearer_14 ?_
  refine r_iload_n 0 rfl rfl 16 rfl dX5_comeNearer_15 ?_
  refine r_iload_n 2 rfl rfl 17 rfl dX5_comeNearer_16 ?_
  refine r_icmp_ne 24 20 rfl (by decide) dX5_comeNearer_17 (fun c2 => ?_) (fun c2 => ?_)
  · refine r_iload_n 3 rfl rfl 21 rfl dX5_comeNearer_20 ?_
    refine r_goto 25 (by decide) dX5_comeNearer_21 ?_
    exact r_sub [1, 0] rfl (gj_X5_comeNearer_25 E o0 n0 ho0   _ _  _)
  · refine r_iload_n 2 rfl rfl 25 rfl dX5_comeNearer_24 ?_
    exact r_sub [1, 0] rfl (gj_X5_comeNearer_25 E o0 n0 ho0   _ _  _)
def f_X5_comeNearer (o0 : Nat) (n0 : Nat) (x1 : Int32) (x2 : Int32) (σ : k_Mem) : Option (Unit × k_Mem) :=
  if k_in x1 n0 then (
    if k_in x2 n0 then (
      if (σ o0 (k_n x2)) ≤ (σ o0 (k_n x1)) then (
        j_X5_comeNearer_14 o0 n0  x1 x2 x2 σ
      ) else (
        j_X5_comeNearer_14 o0 n0  x1 x2 x1 σ
      )
    ) else none
  ) else none
set_option maxRecDepth 100000 in
theorem c_X5_comeNearer (E : k_EV) (o0 : Nat) (n0 : Nat) (ho0 : k_SH o0 = .inl (.int, n0, none)) (x1 : Int32) (x2 : Int32) (σ : k_Mem) : k_MC m_X5_comeNearer E k_vv [k_rf E o0, .int x1, .int x2] σ (f_X5_comeNearer o0 n0 x1 x2 σ) := by
  refine k_MC_of ⟨by decide, by decide⟩ (Nat.le_of_ble_eq_true rfl) ?_
  show k_GO _ _ _ 0 [(0, k_rf E o0), (1, .int x1), (2, .int x2)] [] σ _
  unfold f_X5_comeNearer
  refine r_aload_n 0 rfl rfl 1 rfl dX5_comeNearer_0 ?_
  refine r_iload_n 1 rfl rfl 2 rfl dX5_comeNearer_1 ?_
  refine r_iald ho0 3 rfl dX5_comeNearer_2 ?_
  refine r_aload_n 0 rfl rfl 4 rfl dX5_comeNearer_3 ?_
  refine r_iload_n 2 rfl rfl 5 rfl dX5_comeNearer_4 ?_
  refine r_iald ho0 6 rfl dX5_comeNearer_5 ?_
  refine r_icmp_ge 13 9 rfl (by decide) dX5_comeNearer_6 (fun c1 => ?_) (fun c1 => ?_)
  · refine r_iload_n 2 rfl rfl 14 rfl dX5_comeNearer_13 ?_
    exact r_sub [0, 1, 2] rfl (gj_X5_comeNearer_14 E o0 n0 ho0   _ _ _  _)
  · refine r_iload_n 1 rfl rfl 10 rfl dX5_comeNearer_9 ?_
    refine r_goto 14 (by decide) dX5_comeNearer_10 ?_
    exact r_sub [0, 1, 2] rfl (gj_X5_comeNearer_14 E o0 n0 ho0   _ _ _  _)
/-! HandMarket$Town.passYear()V -/
def j_X5_passYear_43 (b0 : Nat) (k2 : Int32 → k_Mem → Option (Unit × k_Mem)) (x1 : Int32) (σ : k_Mem) : Option (Unit × k_Mem) :=
  k2 (x1 + 1) σ
set_option maxRecDepth 100000 in
theorem gj_X5_passYear_43 (E : k_EV) (b0 : Nat) (hb0 : k_isT b0) (k2 : Int32 → k_Mem → Option (Unit × k_Mem)) (hk2 : ∀ (x1 : Int32)  (σ : k_Mem), k_GO m_X5_passYear E k_vv 2 [(0, k_rf E b0), (1, .int x1)] [] σ (k2 x1 σ)) (x1 : Int32)  (σ : k_Mem) : k_GO m_X5_passYear E k_vv 43 [(0, k_rf E b0), (1, .int x1)] [] σ (j_X5_passYear_43 b0 k2 x1 σ) := by
  unfold j_X5_passYear_43
  refine r_iinc 1 (by decide) 1 rfl [(1, .int _), (0, k_rf E b0)] rfl (by decide) 46 rfl dX5_passYear_43 ?_
  refine r_goto 2 (by decide) dX5_passYear_46 ?_
  exact r_sub [1, 0] rfl (hk2 _  _)
def l_X5_passYear_2 (b0 : Nat)  : Nat → Int32 → k_Mem → Option (Unit × k_Mem)
  | 0, _, _ => none
  | n + 1, x1, σ =>
    if 4 ≤ x1 then (
      some ((), (k_mset σ b0 10 ((σ b0 10) + 1)))
    ) else (
      k_bd (f_X5_isWed b0 x1 σ) (fun r2 σ2 =>
        if r2 = 0 then (
          j_X5_passYear_43 b0 (fun x1 σ => l_X5_passYear_2 b0  n x1 σ) x1 σ2
        ) else (
          if k_in x1 8 then (
            k_bd (f_X5_comeNearer (b0 + 2) 8 x1 (σ2 (b0 + 6) (k_n x1)) σ2) (fun _ σ4 =>
              if k_in x1 8 then (
                k_bd (f_X5_comeNearer (b0 + 3) 8 x1 (σ4 (b0 + 6) (k_n x1)) σ4) (fun _ σ5 =>
                  j_X5_passYear_43 b0 (fun x1 σ => l_X5_passYear_2 b0  n x1 σ) x1 σ5
                )
              ) else none
            )
          ) else none
        )
      )
    )
set_option maxRecDepth 100000 in
theorem gl_X5_passYear_2 (E : k_EV) (b0 : Nat) (hb0 : k_isT b0)   : ∀ (n : Nat) (x1 : Int32)  (σ : k_Mem), k_GO m_X5_passYear E k_vv 2 [(0, k_rf E b0), (1, .int x1)] [] σ (l_X5_passYear_2 b0  n x1 σ) := by
  intro n
  induction n with
  | zero => intro x1  σ; exact r_none
  | succ n ih =>
    intro x1  σ
    rw [l_X5_passYear_2]
    refine r_iload_n 1 rfl rfl 3 rfl dX5_passYear_2 ?_
    refine r_iconst 4 (by decide) 4 rfl dX5_passYear_3 ?_
    refine r_icmp_ge 49 7 rfl (by decide) dX5_passYear_4 (fun c1 => ?_) (fun c1 => ?_)
    · refine r_aload_n 0 rfl rfl 50 rfl dX5_passYear_49 ?_
      refine r_dup 51 rfl dX5_passYear_50 rfl ?_
      refine r_geti fl_X5_46 hb0.1 rfl 54 rfl dX5_passYear_51 ?_
      refine r_iconst 1 (by decide) 55 rfl dX5_passYear_54 ?_
      refine r_iadd 56 rfl dX5_passYear_55 ?_
      refine r_puti fp_X5_46 hb0.1 rfl 59 rfl dX5_passYear_56 ?_
      exact r_vret rfl dX5_passYear_59
    · refine r_aload_n 0 rfl rfl 8 rfl dX5_passYear_7 ?_
      refine r_iload_n 1 rfl rfl 9 rfl dX5_passYear_8 ?_
      refine r_calli (c_X5_isWed E b0 hb0 _ _) rfl hb0.1 rfl ml_X5_63 cw_X5_isWed vw_X5_isWed (by decide) (Nat.le_of_ble_eq_true rfl) 12 rfl dX5_passYear_9 (fun r2 σ2 => ?_)
      refine r_if_eq 43 15 rfl (by decide) dX5_passYear_12 (fun c3 => ?_) (fun c3 => ?_)
      · exact r_sub [0, 1] rfl (gj_X5_passYear_43 E b0 hb0 _ (fun x1  σ => ih x1  σ) _  _)
      · refine r_aload_n 0 rfl rfl 16 rfl dX5_passYear_15 ?_
        refine r_getr fl_X5_15 hb0.1 rfl 19 rfl dX5_passYear_16 ?_
        refine r_iload_n 1 rfl rfl 20 rfl dX5_passYear_19 ?_
        refine r_aload_n 0 rfl rfl 21 rfl dX5_passYear_20 ?_
        refine r_getr fl_X5_27 hb0.1 rfl 24 rfl dX5_passYear_21 ?_
        refine r_iload_n 1 rfl rfl 25 rfl dX5_passYear_24 ?_
        refine r_iald hb0.2.2.2.2.2.2.1 26 rfl dX5_passYear_25 ?_
        refine r_callsv (c_X5_comeNearer E (b0 + 2) 8 hb0.2.2.1 _ _ _) rfl ml_X5_98 cw_X5_comeNearer sw_X5_comeNearer (by decide) (Nat.le_of_ble_eq_true rfl) 29 rfl dX5_passYear_26 (fun _ σ4 => ?_)
        refine r_aload_n 0 rfl rfl 30 rfl dX5_passYear_29 ?_
        refine r_getr fl_X5_18 hb0.1 rfl 33 rfl dX5_passYear_30 ?_
        refine r_iload_n 1 rfl rfl 34 rfl dX5_passYear_33 ?_
        refine r_aload_n 0 rfl rfl 35 rfl dX5_passYear_34 ?_
        refine r_getr fl_X5_27 hb0.1 rfl 38 rfl dX5_passYear_35 ?_
        refine r_iload_n 1 rfl rfl 39 rfl dX5_passYear_38 ?_
        refine r_iald hb0.2.2.2.2.2.2.1 40 rfl dX5_passYear_39 ?_
        refine r_callsv (c_X5_comeNearer E (b0 + 3) 8 hb0.2.2.2.1 _ _ _) rfl ml_X5_98 cw_X5_comeNearer sw_X5_comeNearer (by decide) (Nat.le_of_ble_eq_true rfl) 43 rfl dX5_passYear_40 (fun _ σ5 => ?_)
        exact r_sub [0, 1] rfl (gj_X5_passYear_43 E b0 hb0 _ (fun x1  σ => ih x1  σ) _  _)
def f_X5_passYear (b0 : Nat)  (σ : k_Mem) : Option (Unit × k_Mem) :=
  l_X5_passYear_2 b0  1000 0 σ
set_option maxRecDepth 100000 in
theorem c_X5_passYear (E : k_EV) (b0 : Nat) (hb0 : k_isT b0)  (σ : k_Mem) : k_MC m_X5_passYear E k_vv [k_rf E b0] σ (f_X5_passYear b0 σ) := by
  refine k_MC_of ⟨by decide, by decide⟩ (Nat.le_of_ble_eq_true rfl) ?_
  show k_GO _ _ _ 0 [(0, k_rf E b0)] [] σ _
  unfold f_X5_passYear
  refine r_iconst 0 (by decide) 1 rfl dX5_passYear_0 ?_
  refine r_istore_n [(1, .int _), (0, k_rf E b0)] rfl rfl (by decide) 2 rfl dX5_passYear_1 ?_
  exact r_sub [1, 0] rfl (gl_X5_passYear_2 E b0 hb0   1000 _  _)
/-! HandMarket$Town.unlike(II)I -/
def f_X5_unlike (b0 : Nat) (x1 : Int32) (x2 : Int32) (σ : k_Mem) : Option (Int32 × k_Mem) :=
  if k_in x1 8 then (
    if k_in x2 8 then (
      if k_in x1 8 then (
        if k_in x2 8 then (
          some (((k_abs ((σ (b0 + 2) (k_n x1)) - (σ (b0 + 2) (k_n x2)))) + (k_abs ((σ (b0 + 3) (k_n x1)) - (σ (b0 + 3) (k_n x2))))), σ)
        ) else none
      ) else none
    ) else none
  ) else none
set_option maxRecDepth 100000 in
theorem c_X5_unlike (E : k_EV) (b0 : Nat) (hb0 : k_isT b0) (x1 : Int32) (x2 : Int32) (σ : k_Mem) : k_MC m_X5_unlike E k_vi [k_rf E b0, .int x1, .int x2] σ (f_X5_unlike b0 x1 x2 σ) := by
  refine k_MC_of ⟨by decide, by decide⟩ (Nat.le_of_ble_eq_true rfl) ?_
  show k_GO _ _ _ 0 [(0, k_rf E b0), (1, .int x1), (2, .int x2)] [] σ _
  unfold f_X5_unlike
  refine r_aload_n 0 rfl rfl 1 rfl dX5_unlike_0 ?_
  refine r_getr fl_X5_15 hb0.1 rfl 4 rfl dX5_unlike_1 ?_
  refine r_iload_n 1 rfl rfl 5 rfl dX5_unlike_4 ?_
  refine r_iald hb0.2.2.1 6 rfl dX5_unlike_5 ?_
  refine r_aload_n 0 rfl rfl 7 rfl dX5_unlike_6 ?_
  refine r_getr fl_X5_15 hb0.1 rfl 10 rfl dX5_unlike_7 ?_
  refine r_iload_n 2 rfl rfl 11 rfl dX5_unlike_10 ?_
  refine r_iald hb0.2.2.1 12 rfl dX5_unlike_11 ?_
  refine r_isub 13 rfl dX5_unlike_12 ?_
  refine r_mabs ma_abs ml_X5_89 ⟨Nat.le_of_ble_eq_true rfl, Nat.le_of_ble_eq_true rfl⟩ 16 rfl dX5_unlike_13 ?_
  refine r_aload_n 0 rfl rfl 17 rfl dX5_unlike_16 ?_
  refine r_getr fl_X5_18 hb0.1 rfl 20 rfl dX5_unlike_17 ?_
  refine r_iload_n 1 rfl rfl 21 rfl dX5_unlike_20 ?_
  refine r_iald hb0.2.2.2.1 22 rfl dX5_unlike_21 ?_
  refine r_aload_n 0 rfl rfl 23 rfl dX5_unlike_22 ?_
  refine r_getr fl_X5_18 hb0.1 rfl 26 rfl dX5_unlike_23 ?_
  refine r_iload_n 2 rfl rfl 27 rfl dX5_unlike_26 ?_
  refine r_iald hb0.2.2.2.1 28 rfl dX5_unlike_27 ?_
  refine r_isub 29 rfl dX5_unlike_28 ?_
  refine r_mabs ma_abs ml_X5_89 ⟨Nat.le_of_ble_eq_true rfl, Nat.le_of_ble_eq_true rfl⟩ 32 rfl dX5_unlike_29 ?_
  refine r_iadd 33 rfl dX5_unlike_32 ?_
  exact r_iret rfl dX5_unlike_33
/-! HandMarket$Town.couplesAlike()Z -/
def j_X5_couplesAlike_31 (b0 : Nat) (k2 : Int32 → k_Mem → Option (Int32 × k_Mem)) (x1 : Int32) (σ : k_Mem) : Option (Int32 × k_Mem) :=
  k2 (x1 + 1) σ
set_option maxRecDepth 100000 in
theorem gj_X5_couplesAlike_31 (E : k_EV) (b0 : Nat) (hb0 : k_isT b0) (k2 : Int32 → k_Mem → Option (Int32 × k_Mem)) (hk2 : ∀ (x1 : Int32)  (σ : k_Mem), k_GO m_X5_couplesAlike E k_vi 2 [(0, k_rf E b0), (1, .int x1)] [] σ (k2 x1 σ)) (x1 : Int32)  (σ : k_Mem) : k_GO m_X5_couplesAlike E k_vi 31 [(0, k_rf E b0), (1, .int x1)] [] σ (j_X5_couplesAlike_31 b0 k2 x1 σ) := by
  unfold j_X5_couplesAlike_31
  refine r_iinc 1 (by decide) 1 rfl [(1, .int _), (0, k_rf E b0)] rfl (by decide) 34 rfl dX5_couplesAlike_31 ?_
  refine r_goto 2 (by decide) dX5_couplesAlike_34 ?_
  exact r_sub [1, 0] rfl (hk2 _  _)
def l_X5_couplesAlike_2 (b0 : Nat)  : Nat → Int32 → k_Mem → Option (Int32 × k_Mem)
  | 0, _, _ => none
  | n + 1, x1, σ =>
    if 4 ≤ x1 then (
      some (1, σ)
    ) else (
      k_bd (f_X5_isWed b0 x1 σ) (fun r2 σ2 =>
        if r2 = 0 then (
          j_X5_couplesAlike_31 b0 (fun x1 σ => l_X5_couplesAlike_2 b0  n x1 σ) x1 σ2
        ) else (
          if k_in x1 8 then (
            k_bd (f_X5_unlike b0 x1 (σ2 (b0 + 6) (k_n x1)) σ2) (fun r4 σ4 =>
              if r4 = 0 then (
                j_X5_couplesAlike_31 b0 (fun x1 σ => l_X5_couplesAlike_2 b0  n x1 σ) x1 σ4
              ) else (
                some (0, σ4)
              )
            )
          ) else none
        )
      )
    )
set_option maxRecDepth 100000 in
theorem gl_X5_couplesAlike_2 (E : k_EV) (b0 : Nat) (hb0 : k_isT b0)   : ∀ (n : Nat) (x1 : Int32)  (σ : k_Mem), k_GO m_X5_couplesAlike E k_vi 2 [(0, k_rf E b0), (1, .int x1)] [] σ (l_X5_couplesAlike_2 b0  n x1 σ) := by
  intro n
  induction n with
  | zero => intro x1  σ; exact r_none
  | succ n ih =>
    intro x1  σ
    rw [l_X5_couplesAlike_2]
    refine r_iload_n 1 rfl rfl 3 rfl dX5_couplesAlike_2 ?_
    refine r_iconst 4 (by decide) 4 rfl dX5_couplesAlike_3 ?_
    refine r_icmp_ge 37 7 rfl (by decide) dX5_couplesAlike_4 (fun c1 => ?_) (fun c1 => ?_)
    · refine r_iconst 1 (by decide) 38 rfl dX5_couplesAlike_37 ?_
      exact r_zret rfl (Or.inr rfl) dX5_couplesAlike_38
    · refine r_aload_n 0 rfl rfl 8 rfl dX5_couplesAlike_7 ?_
      refine r_iload_n 1 rfl rfl 9 rfl dX5_couplesAlike_8 ?_
      refine r_calli (c_X5_isWed E b0 hb0 _ _) rfl hb0.1 rfl ml_X5_63 cw_X5_isWed vw_X5_isWed (by decide) (Nat.le_of_ble_eq_true rfl) 12 rfl dX5_couplesAlike_9 (fun r2 σ2 => ?_)
      refine r_if_eq 31 15 rfl (by decide) dX5_couplesAlike_12 (fun c3 => ?_) (fun c3 => ?_)
      · exact r_sub [0, 1] rfl (gj_X5_couplesAlike_31 E b0 hb0 _ (fun x1  σ => ih x1  σ) _  _)
      · refine r_aload_n 0 rfl rfl 16 rfl dX5_couplesAlike_15 ?_
        refine r_iload_n 1 rfl rfl 17 rfl dX5_couplesAlike_16 ?_
        refine r_aload_n 0 rfl rfl 18 rfl dX5_couplesAlike_17 ?_
        refine r_getr fl_X5_27 hb0.1 rfl 21 rfl dX5_couplesAlike_18 ?_
        refine r_iload_n 1 rfl rfl 22 rfl dX5_couplesAlike_21 ?_
        refine r_iald hb0.2.2.2.2.2.2.1 23 rfl dX5_couplesAlike_22 ?_
        refine r_calli (c_X5_unlike E b0 hb0 _ _ _) rfl hb0.1 rfl ml_X5_94 cw_X5_unlike vw_X5_unlike (by decide) (Nat.le_of_ble_eq_true rfl) 26 rfl dX5_couplesAlike_23 (fun r4 σ4 => ?_)
        refine r_if_eq 31 29 rfl (by decide) dX5_couplesAlike_26 (fun c5 => ?_) (fun c5 => ?_)
        · exact r_sub [0, 1] rfl (gj_X5_couplesAlike_31 E b0 hb0 _ (fun x1  σ => ih x1  σ) _  _)
        · refine r_iconst 0 (by decide) 30 rfl dX5_couplesAlike_29 ?_
          exact r_zret rfl (Or.inl rfl) dX5_couplesAlike_30
def f_X5_couplesAlike (b0 : Nat)  (σ : k_Mem) : Option (Int32 × k_Mem) :=
  l_X5_couplesAlike_2 b0  1000 0 σ
set_option maxRecDepth 100000 in
theorem c_X5_couplesAlike (E : k_EV) (b0 : Nat) (hb0 : k_isT b0)  (σ : k_Mem) : k_MC m_X5_couplesAlike E k_vi [k_rf E b0] σ (f_X5_couplesAlike b0 σ) := by
  refine k_MC_of ⟨by decide, by decide⟩ (Nat.le_of_ble_eq_true rfl) ?_
  show k_GO _ _ _ 0 [(0, k_rf E b0)] [] σ _
  unfold f_X5_couplesAlike
  refine r_iconst 0 (by decide) 1 rfl dX5_couplesAlike_0 ?_
  refine r_istore_n [(1, .int _), (0, k_rf E b0)] rfl rfl (by decide) 2 rfl dX5_couplesAlike_1 ?_
  exact r_sub [1, 0] rfl (gl_X5_couplesAlike_2 E b0 hb0   1000 _  _)
/-! HandMarket$Town.swapPens(II)V -/
def f_X5_swapPens (b0 : Nat) (x1 : Int32) (x2 : Int32) (σ : k_Mem) : Option (Unit × k_Mem) :=
  if k_in x1 8 then (
    if k_in x2 8 then (
      if k_in x1 8 then (
        if k_in x2 8 then (
          some ((), (k_mset (k_mset σ (b0 + 5) (k_n x1) (σ (b0 + 5) (k_n x2))) (b0 + 5) (k_n x2) (σ (b0 + 5) (k_n x1))))
        ) else none
      ) else none
    ) else none
  ) else none
set_option maxRecDepth 100000 in
theorem c_X5_swapPens (E : k_EV) (b0 : Nat) (hb0 : k_isT b0) (x1 : Int32) (x2 : Int32) (σ : k_Mem) : k_MC m_X5_swapPens E k_vv [k_rf E b0, .int x1, .int x2] σ (f_X5_swapPens b0 x1 x2 σ) := by
  refine k_MC_of ⟨by decide, by decide⟩ (Nat.le_of_ble_eq_true rfl) ?_
  show k_GO _ _ _ 0 [(0, k_rf E b0), (1, .int x1), (2, .int x2)] [] σ _
  unfold f_X5_swapPens
  refine r_aload_n 0 rfl rfl 1 rfl dX5_swapPens_0 ?_
  refine r_getr fl_X5_24 hb0.1 rfl 4 rfl dX5_swapPens_1 ?_
  refine r_iload_n 1 rfl rfl 5 rfl dX5_swapPens_4 ?_
  refine r_iald hb0.2.2.2.2.2.1 6 rfl dX5_swapPens_5 ?_
  refine r_istore_n [(3, .int _), (0, k_rf E b0), (1, .int _), (2, .int _)] rfl rfl (by decide) 7 rfl dX5_swapPens_6 ?_
  refine r_aload_n 1 rfl rfl 8 rfl dX5_swapPens_7 ?_
  refine r_getr fl_X5_24 hb0.1 rfl 11 rfl dX5_swapPens_8 ?_
  refine r_iload_n 2 rfl rfl 12 rfl dX5_swapPens_11 ?_
  refine r_aload_n 1 rfl rfl 13 rfl dX5_swapPens_12 ?_
  refine r_getr fl_X5_24 hb0.1 rfl 16 rfl dX5_swapPens_13 ?_
  refine r_iload_n 3 rfl rfl 17 rfl dX5_swapPens_16 ?_
  refine r_iald hb0.2.2.2.2.2.1 18 rfl dX5_swapPens_17 ?_
  refine r_iast hb0.2.2.2.2.2.1 19 rfl dX5_swapPens_18 ?_
  refine r_aload_n 1 rfl rfl 20 rfl dX5_swapPens_19 ?_
  refine r_getr fl_X5_24 hb0.1 rfl 23 rfl dX5_swapPens_20 ?_
  refine r_iload_n 3 rfl rfl 24 rfl dX5_swapPens_23 ?_
  refine r_iload_n 0 rfl rfl 25 rfl dX5_swapPens_24 ?_
  refine r_iast hb0.2.2.2.2.2.1 26 rfl dX5_swapPens_25 ?_
  exact r_vret rfl dX5_swapPens_26
/-! HandMarket$Town.size()I -/
def f_X5_size (b0 : Nat)  (σ : k_Mem) : Option (Int32 × k_Mem) :=
  some (((σ b0 7) + (σ b0 8)), σ)
set_option maxRecDepth 100000 in
theorem c_X5_size (E : k_EV) (b0 : Nat) (hb0 : k_isT b0)  (σ : k_Mem) : k_MC m_X5_size E k_vi [k_rf E b0] σ (f_X5_size b0 σ) := by
  refine k_MC_of ⟨by decide, by decide⟩ (Nat.le_of_ble_eq_true rfl) ?_
  show k_GO _ _ _ 0 [(0, k_rf E b0)] [] σ _
  unfold f_X5_size
  refine r_aload_n 0 rfl rfl 1 rfl dX5_size_0 ?_
  refine r_geti fl_X5_36 hb0.1 rfl 4 rfl dX5_size_1 ?_
  refine r_aload_n 0 rfl rfl 5 rfl dX5_size_4 ?_
  refine r_geti fl_X5_40 hb0.1 rfl 8 rfl dX5_size_5 ?_
  refine r_iadd 9 rfl dX5_size_8 ?_
  exact r_iret rfl dX5_size_9
/-! HandMarket$Town.byOrder(I)I -/
def f_X5_byOrder (b0 : Nat) (x1 : Int32) (σ : k_Mem) : Option (Int32 × k_Mem) :=
  if (σ b0 7) ≤ x1 then (
    some (((4 + x1) - (σ b0 7)), σ)
  ) else (
    some (x1, σ)
  )
set_option maxRecDepth 100000 in
theorem c_X5_byOrder (E : k_EV) (b0 : Nat) (hb0 : k_isT b0) (x1 : Int32) (σ : k_Mem) : k_MC m_X5_byOrder E k_vi [k_rf E b0, .int x1] σ (f_X5_byOrder b0 x1 σ) := by
  refine k_MC_of ⟨by decide, by decide⟩ (Nat.le_of_ble_eq_true rfl) ?_
  show k_GO _ _ _ 0 [(0, k_rf E b0), (1, .int x1)] [] σ _
  unfold f_X5_byOrder
  refine r_iload_n 1 rfl rfl 1 rfl dX5_byOrder_0 ?_
  refine r_aload_n 0 rfl rfl 2 rfl dX5_byOrder_1 ?_
  refine r_geti fl_X5_36 hb0.1 rfl 5 rfl dX5_byOrder_2 ?_
  refine r_icmp_ge 12 8 rfl (by decide) dX5_byOrder_5 (fun c1 => ?_) (fun c1 => ?_)
  · refine r_iconst 4 (by decide) 13 rfl dX5_byOrder_12 ?_
    refine r_iload_n 1 rfl rfl 14 rfl dX5_byOrder_13 ?_
    refine r_iadd 15 rfl dX5_byOrder_14 ?_
    refine r_aload_n 0 rfl rfl 16 rfl dX5_byOrder_15 ?_
    refine r_geti fl_X5_36 hb0.1 rfl 19 rfl dX5_byOrder_16 ?_
    refine r_isub 20 rfl dX5_byOrder_19 ?_
    exact r_iret rfl dX5_byOrder_20
  · refine r_iload_n 1 rfl rfl 9 rfl dX5_byOrder_8 ?_
    refine r_goto 20 (by decide) dX5_byOrder_9 ?_
    exact r_iret rfl dX5_byOrder_20
/-! HandMarket$Town.foldings()I -/
def l_X5_foldings_4 (b0 : Nat)  : Nat → Int32 → Int32 → k_Mem → Option (Int32 × k_Mem)
  | 0, _, _, _ => none
  | n + 1, x1, x2, σ =>
    if 4 ≤ x2 then (
      some (x1, σ)
    ) else (
      if k_in x2 8 then (
        k_bd (f_J6_bitCount_0f7a4  (σ (b0 + 7) (k_n x2)) σ) (fun r2 σ2 =>
          l_X5_foldings_4 b0  n (x1 + r2) (x2 + 1) σ2
        )
      ) else none
    )
set_option maxRecDepth 100000 in
theorem gl_X5_foldings_4 (E : k_EV) (b0 : Nat) (hb0 : k_isT b0)   : ∀ (n : Nat) (x1 : Int32) (x2 : Int32)  (σ : k_Mem), k_GO m_X5_foldings E k_vi 4 [(0, k_rf E b0), (1, .int x1), (2, .int x2)] [] σ (l_X5_foldings_4 b0  n x1 x2 σ) := by
  intro n
  induction n with
  | zero => intro x1 x2  σ; exact r_none
  | succ n ih =>
    intro x1 x2  σ
    rw [l_X5_foldings_4]
    refine r_iload_n 2 rfl rfl 5 rfl dX5_foldings_4 ?_
    refine r_iconst 4 (by decide) 6 rfl dX5_foldings_5 ?_
    refine r_icmp_ge 27 9 rfl (by decide) dX5_foldings_6 (fun c1 => ?_) (fun c1 => ?_)
    · refine r_iload_n 1 rfl rfl 28 rfl dX5_foldings_27 ?_
      exact r_iret rfl dX5_foldings_28
    · refine r_iload_n 1 rfl rfl 10 rfl dX5_foldings_9 ?_
      refine r_aload_n 0 rfl rfl 11 rfl dX5_foldings_10 ?_
      refine r_getr fl_X5_30 hb0.1 rfl 14 rfl dX5_foldings_11 ?_
      refine r_iload_n 2 rfl rfl 15 rfl dX5_foldings_14 ?_
      refine r_iald hb0.2.2.2.2.2.2.2 16 rfl dX5_foldings_15 ?_
      refine r_callsi (c_J6_bitCount_0f7a4 E   _ _) rfl ml_X5_70 cw_J6_bitCount_0f7a4 sw_J6_bitCount_0f7a4 (by decide) (Nat.le_of_ble_eq_true rfl) 19 rfl dX5_foldings_16 (fun r2 σ2 => ?_)
      refine r_iadd 20 rfl dX5_foldings_19 ?_
      refine r_istore_n [(1, .int _), (0, k_rf E b0), (2, .int _)] rfl rfl (by decide) 21 rfl dX5_foldings_20 ?_
      refine r_iinc 1 (by decide) 2 rfl [(2, .int _), (1, .int _), (0, k_rf E b0)] rfl (by decide) 24 rfl dX5_foldings_21 ?_
      refine r_goto 4 (by decide) dX5_foldings_24 ?_
      exact r_sub [2, 1, 0] rfl (ih _ _  _)
def f_X5_foldings (b0 : Nat)  (σ : k_Mem) : Option (Int32 × k_Mem) :=
  l_X5_foldings_4 b0  1000 0 0 σ
set_option maxRecDepth 100000 in
theorem c_X5_foldings (E : k_EV) (b0 : Nat) (hb0 : k_isT b0)  (σ : k_Mem) : k_MC m_X5_foldings E k_vi [k_rf E b0] σ (f_X5_foldings b0 σ) := by
  refine k_MC_of ⟨by decide, by decide⟩ (Nat.le_of_ble_eq_true rfl) ?_
  show k_GO _ _ _ 0 [(0, k_rf E b0)] [] σ _
  unfold f_X5_foldings
  refine r_iconst 0 (by decide) 1 rfl dX5_foldings_0 ?_
  refine r_istore_n [(1, .int _), (0, k_rf E b0)] rfl rfl (by decide) 2 rfl dX5_foldings_1 ?_
  refine r_iconst 0 (by decide) 3 rfl dX5_foldings_2 ?_
  refine r_istore_n [(2, .int _), (1, .int _), (0, k_rf E b0)] rfl rfl (by decide) 4 rfl dX5_foldings_3 ?_
  exact r_sub [2, 1, 0] rfl (gl_X5_foldings_4 E b0 hb0   1000 _ _  _)
