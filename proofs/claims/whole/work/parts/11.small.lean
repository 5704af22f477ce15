/-! HandMarket$Tape.put(I)Z -/
def f_X4_put  (x1 : Int32) (σ : k_Mem) : Option (Int32 × k_Mem) :=
  if (σ 1 1) < 160 then (
    if k_in (σ 1 1) 160 then (
      k_ct (k_mset (k_mset σ 2 (k_n (σ 1 1)) (vp_nar .byte (Int8.toInt32 (Int32.toInt8 x1)))) 1 1 (((k_mset σ 2 (k_n (σ 1 1)) (vp_nar .byte (Int8.toInt32 (Int32.toInt8 x1)))) 1 1) + 1)) (fun σ2 =>
        some (1, σ2)
      )
    ) else none
  ) else (
    some (0, σ)
  )
set_option maxRecDepth 100000 in
theorem c_X4_put (E : k_EV)   (x1 : Int32) (σ : k_Mem) : k_MC m_X4_put E k_vi [k_rf E 1, .int x1] σ (f_X4_put x1 σ) := by
  refine k_MC_of ⟨by decide, by decide⟩ (Nat.le_of_ble_eq_true rfl) ?_
  show k_GO _ _ _ 0 [(0, k_rf E 1), (1, .int x1)] [] σ _
  unfold f_X4_put
  refine r_aload_n 0 rfl rfl 1 rfl dX4_put_0 ?_
  refine r_geti fl_X4_15 sh_1 rfl 4 rfl dX4_put_1 ?_
  refine r_sipush 160 (by decide) 7 rfl dX4_put_4 ?_
  refine r_icmp_lt 12 10 rfl (by decide) dX4_put_7 (fun c1 => ?_) (fun c1 => ?_)
  · refine r_aload_n 0 rfl rfl 13 rfl dX4_put_12 ?_
    refine r_getr fl_X4_11 sh_1 rfl 16 rfl dX4_put_13 ?_
    refine r_aload_n 0 rfl rfl 17 rfl dX4_put_16 ?_
    refine r_geti fl_X4_15 sh_1 rfl 20 rfl dX4_put_17 ?_
    refine r_iload_n 1 rfl rfl 21 rfl dX4_put_20 ?_
    refine r_i2b 22 rfl dX4_put_21 ?_
    refine r_bast sh_2 23 rfl dX4_put_22 ?_
    refine r_aload_n 0 rfl rfl 24 rfl dX4_put_23 ?_
    refine r_dup 25 rfl dX4_put_24 rfl ?_
    refine r_geti fl_X4_15 sh_1 rfl 28 rfl dX4_put_25 ?_
    refine r_iconst 1 (by decide) 29 rfl dX4_put_28 ?_
    refine r_iadd 30 rfl dX4_put_29 ?_
    refine r_puti fp_X4_15 sh_1 rfl 33 rfl dX4_put_30 ?_
    refine r_ct ?_
    refine r_iconst 1 (by decide) 34 rfl dX4_put_33 ?_
    exact r_zret rfl (Or.inr rfl) dX4_put_34
  · refine r_iconst 0 (by decide) 11 rfl dX4_put_10 ?_
    exact r_zret rfl (Or.inl rfl) dX4_put_11
/-! HandMarket$Tape.rewind()V -/
def f_X4_rewind   (σ : k_Mem) : Option (Unit × k_Mem) :=
  some ((), (k_mset (k_mset (k_mset σ 1 2 0) 1 3 0) 1 4 0))
set_option maxRecDepth 100000 in
theorem c_X4_rewind (E : k_EV)    (σ : k_Mem) : k_MC m_X4_rewind E k_vv [k_rf E 1] σ (f_X4_rewind  σ) := by
  refine k_MC_of ⟨by decide, by decide⟩ (Nat.le_of_ble_eq_true rfl) ?_
  show k_GO _ _ _ 0 [(0, k_rf E 1)] [] σ _
  unfold f_X4_rewind
  refine r_aload_n 0 rfl rfl 1 rfl dX4_rewind_0 ?_
  refine r_iconst 0 (by decide) 2 rfl dX4_rewind_1 ?_
  refine r_puti fp_X4_19 sh_1 rfl 5 rfl dX4_rewind_2 ?_
  refine r_aload_n 0 rfl rfl 6 rfl dX4_rewind_5 ?_
  refine r_iconst 0 (by decide) 7 rfl dX4_rewind_6 ?_
  refine r_puti fp_X4_22 sh_1 rfl 10 rfl dX4_rewind_7 ?_
  refine r_aload_n 0 rfl rfl 11 rfl dX4_rewind_10 ?_
  refine r_iconst 0 (by decide) 12 rfl dX4_rewind_11 ?_
  refine r_puti fp_X4_25 sh_1 rfl 15 rfl dX4_rewind_12 ?_
  exact r_vret rfl dX4_rewind_15
/-! HandMarket$Tape.runEnd(III)I -/
def l_X4_runEnd_3   : Nat → Int32 → Int32 → Int32 → k_Mem → Option (Int32 × k_Mem)
  | 0, _, _, _, _ => none
  | n + 1, x2, x3, x4, σ =>
    if (σ 1 1) ≤ x4 then (
      some (x4, σ)
    ) else (
      if k_in x4 160 then (
        if (σ 2 (k_n x4)) < x2 then (
          some (x4, σ)
        ) else (
          if k_in x4 160 then (
            if x3 < (σ 2 (k_n x4)) then (
              some (x4, σ)
            ) else (
              l_X4_runEnd_3   n x2 x3 (x4 + 1) σ
            )
          ) else none
        )
      ) else none
    )
set_option maxRecDepth 100000 in
theorem gl_X4_runEnd_3 (E : k_EV)     : ∀ (n : Nat) (x2 : Int32) (x3 : Int32) (x4 : Int32)  (σ : k_Mem), k_GO m_X4_runEnd E k_vi 3 [(0, k_rf E 1), (2, .int x2), (3, .int x3), (4, .int x4)] [] σ (l_X4_runEnd_3   n x2 x3 x4 σ) := by
  intro n
  induction n with
  | zero => intro x2 x3 x4  σ; exact r_none
  | succ n ih =>
    intro x2 x3 x4  σ
    rw [l_X4_runEnd_3]
    refine r_iload 3 rfl 5 rfl dX4_runEnd_3 ?_
    refine r_aload_n 0 rfl rfl 6 rfl dX4_runEnd_5 ?_
    refine r_geti fl_X4_15 sh_1 rfl 9 rfl dX4_runEnd_6 ?_
    refine r_icmp_ge 40 12 rfl (by decide) dX4_runEnd_9 (fun c1 => ?_) (fun c1 => ?_)
    · refine r_iload 3 rfl 42 rfl dX4_runEnd_40 ?_
      exact r_iret rfl dX4_runEnd_42
    · refine r_aload_n 0 rfl rfl 13 rfl dX4_runEnd_12 ?_
      refine r_getr fl_X4_11 sh_1 rfl 16 rfl dX4_runEnd_13 ?_
      refine r_iload 3 rfl 18 rfl dX4_runEnd_16 ?_
      refine r_bald sh_2 19 rfl dX4_runEnd_18 ?_
      refine r_iload_n 1 rfl rfl 20 rfl dX4_runEnd_19 ?_
      refine r_icmp_lt 40 23 rfl (by decide) dX4_runEnd_20 (fun c2 => ?_) (fun c2 => ?_)
      · refine r_iload 3 rfl 42 rfl dX4_runEnd_40 ?_
        exact r_iret rfl dX4_runEnd_42
      · refine r_aload_n 0 rfl rfl 24 rfl dX4_runEnd_23 ?_
        refine r_getr fl_X4_11 sh_1 rfl 27 rfl dX4_runEnd_24 ?_
        refine r_iload 3 rfl 29 rfl dX4_runEnd_27 ?_
        refine r_bald sh_2 30 rfl dX4_runEnd_29 ?_
        refine r_iload_n 2 rfl rfl 31 rfl dX4_runEnd_30 ?_
        refine r_icmp_gt 40 34 rfl (by decide) dX4_runEnd_31 (fun c3 => ?_) (fun c3 => ?_)
        · refine r_iload 3 rfl 42 rfl dX4_runEnd_40 ?_
          exact r_iret rfl dX4_runEnd_42
        · refine r_iinc 1 (by decide) 3 rfl [(4, .int _), (0, k_rf E 1), (2, .int _), (3, .int _)] rfl (by decide) 37 rfl dX4_runEnd_34 ?_
          refine r_goto 3 (by decide) dX4_runEnd_37 ?_
          exact r_sub [1, 2, 3, 0] rfl (ih _ _ _  _)
def f_X4_runEnd  (x1 : Int32) (x2 : Int32) (x3 : Int32) (σ : k_Mem) : Option (Int32 × k_Mem) :=
  l_X4_runEnd_3   1000 x2 x3 x1 σ
set_option maxRecDepth 100000 in
theorem c_X4_runEnd (E : k_EV)   (x1 : Int32) (x2 : Int32) (x3 : Int32) (σ : k_Mem) : k_MC m_X4_runEnd E k_vi [k_rf E 1, .int x1, .int x2, .int x3] σ (f_X4_runEnd x1 x2 x3 σ) := by
  refine k_MC_of ⟨by decide, by decide⟩ (Nat.le_of_ble_eq_true rfl) ?_
  show k_GO _ _ _ 0 [(0, k_rf E 1), (1, .int x1), (2, .int x2), (3, .int x3)] [] σ _
  unfold f_X4_runEnd
  refine r_iload_n 1 rfl rfl 1 rfl dX4_runEnd_0 ?_
  refine r_istore [(4, .int _), (0, k_rf E 1), (1, .int _), (2, .int _), (3, .int _)] rfl (by decide) 3 rfl dX4_runEnd_1 ?_
  exact r_sub [1, 3, 4, 0] rfl (gl_X4_runEnd_3 E     1000 _ _ _  _)
/-! HandMarket$Tape.takeNumber()V -/
def l_X4_takeNumber_47   : Nat → Int32 → k_Mem → Option (Unit × k_Mem)
  | 0, _, _ => none
  | n + 1, x2, σ =>
    if (σ 1 4) ≤ x2 then (
      some ((), σ)
    ) else (
      if k_in x2 160 then (
        l_X4_takeNumber_47   n (x2 + 1) (k_mset σ 1 5 ((((σ 1 5) * 10) + (σ 2 (k_n x2))) - 48))
      ) else none
    )
set_option maxRecDepth 100000 in
theorem gl_X4_takeNumber_47 (E : k_EV)     : ∀ (n : Nat) (x2 : Int32)  (σ : k_Mem), k_GO m_X4_takeNumber E k_vv 47 [(0, k_rf E 1), (2, .int x2)] [] σ (l_X4_takeNumber_47   n x2 σ) := by
  intro n
  induction n with
  | zero => intro x2  σ; exact r_none
  | succ n ih =>
    intro x2  σ
    rw [l_X4_takeNumber_47]
    refine r_iload_n 1 rfl rfl 48 rfl dX4_takeNumber_47 ?_
    refine r_aload_n 0 rfl rfl 49 rfl dX4_takeNumber_48 ?_
    refine r_geti fl_X4_25 sh_1 rfl 52 rfl dX4_takeNumber_49 ?_
    refine r_icmp_ge 82 55 rfl (by decide) dX4_takeNumber_52 (fun c3 => ?_) (fun c3 => ?_)
    · exact r_vret rfl dX4_takeNumber_82
    · refine r_aload_n 0 rfl rfl 56 rfl dX4_takeNumber_55 ?_
      refine r_aload_n 0 rfl rfl 57 rfl dX4_takeNumber_56 ?_
      refine r_geti fl_X4_35 sh_1 rfl 60 rfl dX4_takeNumber_57 ?_
      refine r_bipush 10 (by decide) 62 rfl dX4_takeNumber_60 ?_
      refine r_imul 63 rfl dX4_takeNumber_62 ?_
      refine r_aload_n 0 rfl rfl 64 rfl dX4_takeNumber_63 ?_
      refine r_getr fl_X4_11 sh_1 rfl 67 rfl dX4_takeNumber_64 ?_
      refine r_iload_n 1 rfl rfl 68 rfl dX4_takeNumber_67 ?_
      refine r_bald sh_2 69 rfl dX4_takeNumber_68 ?_
      refine r_iadd 70 rfl dX4_takeNumber_69 ?_
      refine r_bipush 48 (by decide) 72 rfl dX4_takeNumber_70 ?_
      refine r_isub 73 rfl dX4_takeNumber_72 ?_
      refine r_puti fp_X4_35 sh_1 rfl 76 rfl dX4_takeNumber_73 ?_
      refine r_iinc 1 (by decide) 1 rfl [(2, .int _), (0, k_rf E 1)] rfl (by decide) 79 rfl dX4_takeNumber_76 ?_
      refine r_goto 47 (by decide) dX4_takeNumber_79 ?_
      exact r_sub [1, 0] rfl (ih _  _)
def j_X4_takeNumber_26   (xs1 : Int32) (σ : k_Mem) : Option (Unit × k_Mem) :=
  if ((k_mset (k_mset σ 1 2 xs1) 1 5 0) 1 2) = 2 then (
    l_X4_takeNumber_47   1000 ((k_mset (k_mset σ 1 2 xs1) 1 5 0) 1 3) (k_mset (k_mset σ 1 2 xs1) 1 5 0)
  ) else (
    some ((), (k_mset (k_mset σ 1 2 xs1) 1 5 0))
  )
set_option maxRecDepth 100000 in
theorem gj_X4_takeNumber_26 (E : k_EV)     (xs1 : Int32)  (σ : k_Mem) : k_GO m_X4_takeNumber E k_vv 26 [(0, k_rf E 1)] [.int xs1, k_rf E 1] σ (j_X4_takeNumber_26   xs1 σ) := by
  unfold j_X4_takeNumber_26
  refine r_puti fp_X4_19 sh_1 rfl 29 rfl dX4_takeNumber_26 ?_
  refine r_aload_n 0 rfl rfl 30 rfl dX4_takeNumber_29 ?_
  refine r_iconst 0 (by decide) 31 rfl dX4_takeNumber_30 ?_
  refine r_puti fp_X4_35 sh_1 rfl 34 rfl dX4_takeNumber_31 ?_
  refine r_aload_n 0 rfl rfl 35 rfl dX4_takeNumber_34 ?_
  refine r_geti fl_X4_19 sh_1 rfl 38 rfl dX4_takeNumber_35 ?_
  refine r_iconst 2 (by decide) 39 rfl dX4_takeNumber_38 ?_
  refine r_icmp_ne 82 42 rfl (by decide) dX4_takeNumber_39 (fun c2 => ?_) (fun c2 => ?_)
  · refine r_aload_n 0 rfl rfl 43 rfl dX4_takeNumber_42 ?_
    refine r_geti fl_X4_22 sh_1 rfl 46 rfl dX4_takeNumber_43 ?_
    refine r_istore_n [(2, .int _), (0, k_rf E 1)] rfl rfl (by decide) 47 rfl dX4_takeNumber_46 ?_
    exact r_sub [1, 0] rfl (gl_X4_takeNumber_47 E     1000 _  _)
  · exact r_vret rfl dX4_takeNumber_82
def j_X4_takeNumber_21    (σ : k_Mem) : Option (Unit × k_Mem) :=
  j_X4_takeNumber_26   2 σ
set_option maxRecDepth 100000 in
theorem gj_X4_takeNumber_21 (E : k_EV)       (σ : k_Mem) : k_GO m_X4_takeNumber E k_vv 21 [(0, k_rf E 1)] [k_rf E 1] σ (j_X4_takeNumber_21    σ) := by
  unfold j_X4_takeNumber_21
  refine r_iconst 2 (by decide) 22 rfl dX4_takeNumber_21 ?_
  refine r_goto 26 (by decide) dX4_takeNumber_22 ?_
  exact r_sub [0] rfl (gj_X4_takeNumber_26 E     _  _)
def f_X4_takeNumber   (σ : k_Mem) : Option (Unit × k_Mem) :=
  if ((σ 1 4) - (σ 1 3)) = 1 then (
    j_X4_takeNumber_21    σ
  ) else (
    if ((σ 1 4) - (σ 1 3)) = 2 then (
      j_X4_takeNumber_21    σ
    ) else (
      j_X4_takeNumber_26   4 σ
    )
  )
set_option maxRecDepth 100000 in
theorem c_X4_takeNumber (E : k_EV)    (σ : k_Mem) : k_MC m_X4_takeNumber E k_vv [k_rf E 1] σ (f_X4_takeNumber  σ) := by
  refine k_MC_of ⟨by decide, by decide⟩ (Nat.le_of_ble_eq_true rfl) ?_
  show k_GO _ _ _ 0 [(0, k_rf E 1)] [] σ _
  unfold f_X4_takeNumber
  refine r_aload_n 0 rfl rfl 1 rfl dX4_takeNumber_0 ?_
  refine r_geti fl_X4_25 sh_1 rfl 4 rfl dX4_takeNumber_1 ?_
  refine r_aload_n 0 rfl rfl 5 rfl dX4_takeNumber_4 ?_
  refine r_geti fl_X4_22 sh_1 rfl 8 rfl dX4_takeNumber_5 ?_
  refine r_isub 9 rfl dX4_takeNumber_8 ?_
  refine r_istore_n [(1, .int _), (0, k_rf E 1)] rfl rfl (by decide) 10 rfl dX4_takeNumber_9 ?_
  refine r_aload_n 1 rfl rfl 11 rfl dX4_takeNumber_10 ?_
  refine r_iload_n 0 rfl rfl 12 rfl dX4_takeNumber_11 ?_
  refine r_iconst 1 (by decide) 13 rfl dX4_takeNumber_12 ?_
  refine r_icmp_eq 21 16 rfl (by decide) dX4_takeNumber_13 (fun c1 => ?_) (fun c1 => ?_)
  · exact r_sub [1] rfl (gj_X4_takeNumber_21 E       _)
  · refine r_iload_n 0 rfl rfl 17 rfl dX4_takeNumber_16 ?_
    refine r_iconst 2 (by decide) 18 rfl dX4_takeNumber_17 ?_
    refine r_icmp_ne 25 21 rfl (by decide) dX4_takeNumber_18 (fun c4 => ?_) (fun c4 => ?_)
    · exact r_sub [1] rfl (gj_X4_takeNumber_21 E       _)
    · refine r_iconst 4 (by decide) 26 rfl dX4_takeNumber_25 ?_
      exact r_sub [1] rfl (gj_X4_takeNumber_26 E     _  _)
/-! HandMarket$Tape.advance()V -/
def f_X4_advance   (σ : k_Mem) : Option (Unit × k_Mem) :=
  k_bd (f_X4_runEnd  (σ 1 4) 32 32 σ) (fun r1 σ1 =>
    if ((k_mset σ1 1 3 r1) 1 3) < ((k_mset σ1 1 3 r1) 1 1) then (
      if k_in ((k_mset σ1 1 3 r1) 1 3) 160 then (
        if ((k_mset σ1 1 3 r1) 2 (k_n ((k_mset σ1 1 3 r1) 1 3))) = 59 then (
          some ((), (k_mset (k_mset (k_mset σ1 1 3 r1) 1 2 3) 1 4 (((k_mset (k_mset σ1 1 3 r1) 1 2 3) 1 3) + 1)))
        ) else (
          k_bd (f_X4_runEnd  ((k_mset σ1 1 3 r1) 1 3) 97 122 (k_mset σ1 1 3 r1)) (fun r4 σ4 =>
            if r4 ≤ (σ4 1 3) then (
              k_bd (f_X4_runEnd  (σ4 1 3) 48 57 σ4) (fun r6 σ6 =>
                k_bd (f_X4_takeNumber   (k_mset σ6 1 4 r6)) (fun _ σ7 =>
                  some ((), σ7)
                )
              )
            ) else (
              k_bd (f_X4_runEnd  ((k_mset σ4 1 2 1) 1 3) 97 122 (k_mset σ4 1 2 1)) (fun r8 σ8 =>
                some ((), (k_mset σ8 1 4 r8))
              )
            )
          )
        )
      ) else none
    ) else (
      some ((), (k_mset (k_mset σ1 1 3 r1) 1 2 0))
    )
  )
set_option maxRecDepth 100000 in
theorem c_X4_advance (E : k_EV)    (σ : k_Mem) : k_MC m_X4_advance E k_vv [k_rf E 1] σ (f_X4_advance  σ) := by
  refine k_MC_of ⟨by decide, by decide⟩ (Nat.le_of_ble_eq_true rfl) ?_
  show k_GO _ _ _ 0 [(0, k_rf E 1)] [] σ _
  unfold f_X4_advance
  refine r_aload_n 0 rfl rfl 1 rfl dX4_advance_0 ?_
  refine r_aload_n 0 rfl rfl 2 rfl dX4_advance_1 ?_
  refine r_aload_n 0 rfl rfl 3 rfl dX4_advance_2 ?_
  refine r_geti fl_X4_25 sh_1 rfl 6 rfl dX4_advance_3 ?_
  refine r_bipush 32 (by decide) 8 rfl dX4_advance_6 ?_
  refine r_bipush 32 (by decide) 10 rfl dX4_advance_8 ?_
  refine r_calli (c_X4_runEnd E   _ _ _ _) rfl sh_1 rfl ml_X4_28 cw_X4_runEnd vw_X4_runEnd (by decide) (Nat.le_of_ble_eq_true rfl) 13 rfl dX4_advance_10 (fun r1 σ1 => ?_)
  refine r_puti fp_X4_22 sh_1 rfl 16 rfl dX4_advance_13 ?_
  refine r_aload_n 0 rfl rfl 17 rfl dX4_advance_16 ?_
  refine r_geti fl_X4_22 sh_1 rfl 20 rfl dX4_advance_17 ?_
  refine r_aload_n 0 rfl rfl 21 rfl dX4_advance_20 ?_
  refine r_geti fl_X4_15 sh_1 rfl 24 rfl dX4_advance_21 ?_
  refine r_icmp_lt 35 27 rfl (by decide) dX4_advance_24 (fun c2 => ?_) (fun c2 => ?_)
  · refine r_aload_n 0 rfl rfl 36 rfl dX4_advance_35 ?_
    refine r_getr fl_X4_11 sh_1 rfl 39 rfl dX4_advance_36 ?_
    refine r_aload_n 0 rfl rfl 40 rfl dX4_advance_39 ?_
    refine r_geti fl_X4_22 sh_1 rfl 43 rfl dX4_advance_40 ?_
    refine r_bald sh_2 44 rfl dX4_advance_43 ?_
    refine r_bipush 59 (by decide) 46 rfl dX4_advance_44 ?_
    refine r_icmp_ne 67 49 rfl (by decide) dX4_advance_46 (fun c3 => ?_) (fun c3 => ?_)
    · refine r_aload_n 0 rfl rfl 50 rfl dX4_advance_49 ?_
      refine r_iconst 3 (by decide) 51 rfl dX4_advance_50 ?_
      refine r_puti fp_X4_19 sh_1 rfl 54 rfl dX4_advance_51 ?_
      refine r_aload_n 0 rfl rfl 55 rfl dX4_advance_54 ?_
      refine r_aload_n 0 rfl rfl 56 rfl dX4_advance_55 ?_
      refine r_geti fl_X4_22 sh_1 rfl 59 rfl dX4_advance_56 ?_
      refine r_iconst 1 (by decide) 60 rfl dX4_advance_59 ?_
      refine r_iadd 61 rfl dX4_advance_60 ?_
      refine r_puti fp_X4_25 sh_1 rfl 64 rfl dX4_advance_61 ?_
      refine r_goto 130 (by decide) dX4_advance_64 ?_
      exact r_vret rfl dX4_advance_130
    · refine r_aload_n 0 rfl rfl 68 rfl dX4_advance_67 ?_
      refine r_aload_n 0 rfl rfl 69 rfl dX4_advance_68 ?_
      refine r_geti fl_X4_22 sh_1 rfl 72 rfl dX4_advance_69 ?_
      refine r_bipush 97 (by decide) 74 rfl dX4_advance_72 ?_
      refine r_bipush 122 (by decide) 76 rfl dX4_advance_74 ?_
      refine r_calli (c_X4_runEnd E   _ _ _ _) rfl sh_1 rfl ml_X4_28 cw_X4_runEnd vw_X4_runEnd (by decide) (Nat.le_of_ble_eq_true rfl) 79 rfl dX4_advance_76 (fun r4 σ4 => ?_)
      refine r_aload_n 0 rfl rfl 80 rfl dX4_advance_79 ?_
      refine r_geti fl_X4_22 sh_1 rfl 83 rfl dX4_advance_80 ?_
      refine r_icmp_le 110 86 rfl (by decide) dX4_advance_83 (fun c5 => ?_) (fun c5 => ?_)
      · refine r_aload_n 0 rfl rfl 111 rfl dX4_advance_110 ?_
        refine r_aload_n 0 rfl rfl 112 rfl dX4_advance_111 ?_
        refine r_aload_n 0 rfl rfl 113 rfl dX4_advance_112 ?_
        refine r_geti fl_X4_22 sh_1 rfl 116 rfl dX4_advance_113 ?_
        refine r_bipush 48 (by decide) 118 rfl dX4_advance_116 ?_
        refine r_bipush 57 (by decide) 120 rfl dX4_advance_118 ?_
        refine r_calli (c_X4_runEnd E   _ _ _ _) rfl sh_1 rfl ml_X4_28 cw_X4_runEnd vw_X4_runEnd (by decide) (Nat.le_of_ble_eq_true rfl) 123 rfl dX4_advance_120 (fun r6 σ6 => ?_)
        refine r_puti fp_X4_25 sh_1 rfl 126 rfl dX4_advance_123 ?_
        refine r_aload_n 0 rfl rfl 127 rfl dX4_advance_126 ?_
        refine r_callv (c_X4_takeNumber E    _) rfl sh_1 rfl ml_X4_32 cw_X4_takeNumber vw_X4_takeNumber (by decide) (Nat.le_of_ble_eq_true rfl) 130 rfl dX4_advance_127 (fun _ σ7 => ?_)
        exact r_vret rfl dX4_advance_130
      · refine r_aload_n 0 rfl rfl 87 rfl dX4_advance_86 ?_
        refine r_iconst 1 (by decide) 88 rfl dX4_advance_87 ?_
        refine r_puti fp_X4_19 sh_1 rfl 91 rfl dX4_advance_88 ?_
        refine r_aload_n 0 rfl rfl 92 rfl dX4_advance_91 ?_
        refine r_aload_n 0 rfl rfl 93 rfl dX4_advance_92 ?_
        refine r_aload_n 0 rfl rfl 94 rfl dX4_advance_93 ?_
        refine r_geti fl_X4_22 sh_1 rfl 97 rfl dX4_advance_94 ?_
        refine r_bipush 97 (by decide) 99 rfl dX4_advance_97 ?_
        refine r_bipush 122 (by decide) 101 rfl dX4_advance_99 ?_
        refine r_calli (c_X4_runEnd E   _ _ _ _) rfl sh_1 rfl ml_X4_28 cw_X4_runEnd vw_X4_runEnd (by decide) (Nat.le_of_ble_eq_true rfl) 104 rfl dX4_advance_101 (fun r8 σ8 => ?_)
        refine r_puti fp_X4_25 sh_1 rfl 107 rfl dX4_advance_104 ?_
        refine r_goto 130 (by decide) dX4_advance_107 ?_
        exact r_vret rfl dX4_advance_130
  · refine r_aload_n 0 rfl rfl 28 rfl dX4_advance_27 ?_
    refine r_iconst 0 (by decide) 29 rfl dX4_advance_28 ?_
    refine r_puti fp_X4_19 sh_1 rfl 32 rfl dX4_advance_29 ?_
    refine r_goto 130 (by decide) dX4_advance_32 ?_
    exact r_vret rfl dX4_advance_130
/-! HandMarket$Scribe.refuse(I)Z -/
def f_X1_refuse  (x1 : Int32) (σ : k_Mem) : Option (Int32 × k_Mem) :=
  some (0, (k_mset (k_mset σ 3 2 x1) 3 3 ((k_mset σ 3 2 x1) 1 3)))
set_option maxRecDepth 100000 in
theorem c_X1_refuse (E : k_EV)   (x1 : Int32) (σ : k_Mem) : k_MC m_X1_refuse E k_vi [k_rf E 3, .int x1] σ (f_X1_refuse x1 σ) := by
  refine k_MC_of ⟨by decide, by decide⟩ (Nat.le_of_ble_eq_true rfl) ?_
  show k_GO _ _ _ 0 [(0, k_rf E 3), (1, .int x1)] [] σ _
  unfold f_X1_refuse
  refine r_aload_n 0 rfl rfl 1 rfl dX1_refuse_0 ?_
  refine r_iload_n 1 rfl rfl 2 rfl dX1_refuse_1 ?_
  refine r_puti fp_X1_25 sh_3 rfl 5 rfl dX1_refuse_2 ?_
  refine r_aload_n 0 rfl rfl 6 rfl dX1_refuse_5 ?_
  refine r_aload_n 0 rfl rfl 7 rfl dX1_refuse_6 ?_
  refine r_getr fl_X1_18 sh_3 rfl 10 rfl dX1_refuse_7 ?_
  refine r_geti fl_X1_163 sh_1 rfl 13 rfl dX1_refuse_10 ?_
  refine r_puti fp_X1_29 sh_3 rfl 16 rfl dX1_refuse_13 ?_
  refine r_iconst 0 (by decide) 17 rfl dX1_refuse_16 ?_
  exact r_zret rfl (Or.inl rfl) dX1_refuse_17
/-! HandMarket$Scribe.stands(I)Z -/
def f_X1_stands  (x1 : Int32) (σ : k_Mem) : Option (Int32 × k_Mem) :=
  if (σ 1 2) = 4 then (
    k_bd (f_X1_refuse  1 σ) (fun r2 σ2 =>
      if r2 = 0 ∨ r2 = 1 then some (r2, σ2) else none
    )
  ) else (
    if (σ 1 2) = x1 then (
      some (1, σ)
    ) else (
      k_bd (f_X1_refuse  2 σ) (fun r5 σ5 =>
        if r5 = 0 then (
          some (0, σ5)
        ) else (
          some (1, σ5)
        )
      )
    )
  )
set_option maxRecDepth 100000 in
theorem c_X1_stands (E : k_EV)   (x1 : Int32) (σ : k_Mem) : k_MC m_X1_stands E k_vi [k_rf E 3, .int x1] σ (f_X1_stands x1 σ) := by
  refine k_MC_of ⟨by decide, by decide⟩ (Nat.le_of_ble_eq_true rfl) ?_
  show k_GO _ _ _ 0 [(0, k_rf E 3), (1, .int x1)] [] σ _
  unfold f_X1_stands
  refine r_aload_n 0 rfl rfl 1 rfl dX1_stands_0 ?_
  refine r_getr fl_X1_18 sh_3 rfl 4 rfl dX1_stands_1 ?_
  refine r_geti fl_X1_46 sh_1 rfl 7 rfl dX1_stands_4 ?_
  refine r_iconst 4 (by decide) 8 rfl dX1_stands_7 ?_
  refine r_icmp_ne 17 11 rfl (by decide) dX1_stands_8 (fun c1 => ?_) (fun c1 => ?_)
  · refine r_aload_n 0 rfl rfl 12 rfl dX1_stands_11 ?_
    refine r_iconst 1 (by decide) 13 rfl dX1_stands_12 ?_
    refine r_calli (c_X1_refuse E   _ _) rfl sh_3 rfl ml_X1_97 cw_X1_refuse vw_X1_refuse (by decide) (Nat.le_of_ble_eq_true rfl) 16 rfl dX1_stands_13 (fun r2 σ2 => ?_)
    refine r_grd (fun c3 => ?_)
    exact r_zret rfl c3 dX1_stands_16
  · refine r_aload_n 0 rfl rfl 18 rfl dX1_stands_17 ?_
    refine r_getr fl_X1_18 sh_3 rfl 21 rfl dX1_stands_18 ?_
    refine r_geti fl_X1_46 sh_1 rfl 24 rfl dX1_stands_21 ?_
    refine r_iload_n 1 rfl rfl 25 rfl dX1_stands_24 ?_
    refine r_icmp_eq 36 28 rfl (by decide) dX1_stands_25 (fun c4 => ?_) (fun c4 => ?_)
    · refine r_iconst 1 (by decide) 37 rfl dX1_stands_36 ?_
      refine r_goto 41 (by decide) dX1_stands_37 ?_
      exact r_zret rfl (Or.inr rfl) dX1_stands_41
    · refine r_aload_n 0 rfl rfl 29 rfl dX1_stands_28 ?_
      refine r_iconst 2 (by decide) 30 rfl dX1_stands_29 ?_
      refine r_calli (c_X1_refuse E   _ _) rfl sh_3 rfl ml_X1_97 cw_X1_refuse vw_X1_refuse (by decide) (Nat.le_of_ble_eq_true rfl) 33 rfl dX1_stands_30 (fun r5 σ5 => ?_)
      refine r_if_eq 40 36 rfl (by decide) dX1_stands_33 (fun c6 => ?_) (fun c6 => ?_)
      · refine r_iconst 0 (by decide) 41 rfl dX1_stands_40 ?_
        exact r_zret rfl (Or.inl rfl) dX1_stands_41
      · refine r_iconst 1 (by decide) 37 rfl dX1_stands_36 ?_
        refine r_goto 41 (by decide) dX1_stands_37 ?_
        exact r_zret rfl (Or.inr rfl) dX1_stands_41
/-! HandMarket$Tape.spells(Ljava/lang/String;)Z -/
def l_X4_spells_28 (w1 : Nat)  : Nat → Int32 → k_Mem → Option (Int32 × k_Mem)
  | 0, _, _ => none
  | n + 1, x2, σ =>
    if (nI (k_slen.getD w1 0)) ≤ x2 then (
      some (1, σ)
    ) else (
      if k_in ((σ 1 3) + x2) 160 then (
        if k_in x2 (k_slen.getD w1 0) then (
          if (σ 2 (k_n ((σ 1 3) + x2))) = ((k_sbyt.getD w1 []).getD (k_n x2) 0) then (
            l_X4_spells_28 w1  n (x2 + 1) σ
          ) else (
            some (0, σ)
          )
        ) else none
      ) else none
    )
set_option maxRecDepth 100000 in
theorem gl_X4_spells_28 (E : k_EV) (w1 : Nat) (hw1 : w1 < 10)   : ∀ (n : Nat) (x2 : Int32)  (σ : k_Mem), k_GO m_X4_spells E k_vi 28 [(0, k_rf E 1), (1, k_rs E w1), (2, .int x2)] [] σ (l_X4_spells_28 w1  n x2 σ) := by
  intro n
  induction n with
  | zero => intro x2  σ; exact r_none
  | succ n ih =>
    intro x2  σ
    rw [l_X4_spells_28]
    refine r_iload_n 2 rfl rfl 29 rfl dX4_spells_28 ?_
    refine r_aload_n 1 rfl rfl 30 rfl dX4_spells_29 ?_
    refine r_slen hw1 (Nat.le_of_ble_eq_true rfl) 33 rfl dX4_spells_30 ?_
    refine r_icmp_ge 63 36 rfl (by decide) dX4_spells_33 (fun c3 => ?_) (fun c3 => ?_)
    · refine r_iconst 1 (by decide) 64 rfl dX4_spells_63 ?_
      exact r_zret rfl (Or.inr rfl) dX4_spells_64
    · refine r_aload_n 0 rfl rfl 37 rfl dX4_spells_36 ?_
      refine r_getr fl_X4_11 sh_1 rfl 40 rfl dX4_spells_37 ?_
      refine r_aload_n 0 rfl rfl 41 rfl dX4_spells_40 ?_
      refine r_geti fl_X4_22 sh_1 rfl 44 rfl dX4_spells_41 ?_
      refine r_iload_n 2 rfl rfl 45 rfl dX4_spells_44 ?_
      refine r_iadd 46 rfl dX4_spells_45 ?_
      refine r_bald sh_2 47 rfl dX4_spells_46 ?_
      refine r_aload_n 1 rfl rfl 48 rfl dX4_spells_47 ?_
      refine r_iload_n 2 rfl rfl 49 rfl dX4_spells_48 ?_
      refine r_schar hw1 (Nat.le_of_ble_eq_true rfl) 52 rfl dX4_spells_49 ?_
      refine r_icmp_eq 57 55 rfl (by decide) dX4_spells_52 (fun c4 => ?_) (fun c4 => ?_)
      · refine r_iinc 1 (by decide) 2 rfl [(2, .int _), (0, k_rf E 1), (1, k_rs E w1)] rfl (by decide) 60 rfl dX4_spells_57 ?_
        refine r_goto 28 (by decide) dX4_spells_60 ?_
        exact r_sub [1, 2, 0] rfl (ih _  _)
      · refine r_iconst 0 (by decide) 56 rfl dX4_spells_55 ?_
        exact r_zret rfl (Or.inl rfl) dX4_spells_56
def f_X4_spells (w1 : Nat)  (σ : k_Mem) : Option (Int32 × k_Mem) :=
  if (σ 1 2) = 1 then (
    if ((σ 1 4) - (σ 1 3)) = (nI (k_slen.getD w1 0)) then (
      l_X4_spells_28 w1  1000 0 σ
    ) else (
      some (0, σ)
    )
  ) else (
    some (0, σ)
  )
set_option maxRecDepth 100000 in
theorem c_X4_spells (E : k_EV) (w1 : Nat) (hw1 : w1 < 10)  (σ : k_Mem) : k_MC m_X4_spells E k_vi [k_rf E 1, k_rs E w1] σ (f_X4_spells w1 σ) := by
  refine k_MC_of ⟨by decide, by decide⟩ (Nat.le_of_ble_eq_true rfl) ?_
  show k_GO _ _ _ 0 [(0, k_rf E 1), (1, k_rs E w1)] [] σ _
  unfold f_X4_spells
  refine r_aload_n 0 rfl rfl 1 rfl dX4_spells_0 ?_
  refine r_geti fl_X4_19 sh_1 rfl 4 rfl dX4_spells_1 ?_
  refine r_iconst 1 (by decide) 5 rfl dX4_spells_4 ?_
  refine r_icmp_ne 24 8 rfl (by decide) dX4_spells_5 (fun c1 => ?_) (fun c1 => ?_)
  · refine r_aload_n 0 rfl rfl 9 rfl dX4_spells_8 ?_
    refine r_geti fl_X4_25 sh_1 rfl 12 rfl dX4_spells_9 ?_
    refine r_aload_n 0 rfl rfl 13 rfl dX4_spells_12 ?_
    refine r_geti fl_X4_22 sh_1 rfl 16 rfl dX4_spells_13 ?_
    refine r_isub 17 rfl dX4_spells_16 ?_
    refine r_aload_n 1 rfl rfl 18 rfl dX4_spells_17 ?_
    refine r_slen hw1 (Nat.le_of_ble_eq_true rfl) 21 rfl dX4_spells_18 ?_
    refine r_icmp_eq 26 24 rfl (by decide) dX4_spells_21 (fun c2 => ?_) (fun c2 => ?_)
    · refine r_iconst 0 (by decide) 27 rfl dX4_spells_26 ?_
      refine r_istore_n [(2, .int _), (0, k_rf E 1), (1, k_rs E w1)] rfl rfl (by decide) 28 rfl dX4_spells_27 ?_
      exact r_sub [1, 2, 0] rfl (gl_X4_spells_28 E w1 hw1   1000 _  _)
    · refine r_iconst 0 (by decide) 25 rfl dX4_spells_24 ?_
      exact r_zret rfl (Or.inl rfl) dX4_spells_25
  · refine r_iconst 0 (by decide) 25 rfl dX4_spells_24 ?_
    exact r_zret rfl (Or.inl rfl) dX4_spells_25
/-! HandMarket$Scribe.kindNamed()I -/
def f_X1_kindNamed   (σ : k_Mem) : Option (Int32 × k_Mem) :=
  k_bd (f_X4_spells 0  σ) (fun r1 σ1 =>
    if r1 = 0 then (
      k_bd (f_X4_spells 1  σ1) (fun r3 σ3 =>
        if r3 = 0 then (
          k_bd (f_X4_spells 2  σ3) (fun r5 σ5 =>
            if r5 = 0 then (
              k_bd (f_X4_spells 3  σ5) (fun r7 σ7 =>
                if r7 = 0 then (
                  some ((-1), σ7)
                ) else (
                  some (3, σ7)
                )
              )
            ) else (
              some (2, σ5)
            )
          )
        ) else (
          some (1, σ3)
        )
      )
    ) else (
      some (0, σ1)
    )
  )
set_option maxRecDepth 100000 in
theorem c_X1_kindNamed (E : k_EV)    (σ : k_Mem) : k_MC m_X1_kindNamed E k_vi [k_rf E 3] σ (f_X1_kindNamed  σ) := by
  refine k_MC_of ⟨by decide, by decide⟩ (Nat.le_of_ble_eq_true rfl) ?_
  show k_GO _ _ _ 0 [(0, k_rf E 3)] [] σ _
  unfold f_X1_kindNamed
  refine r_aload_n 0 rfl rfl 1 rfl dX1_kindNamed_0 ?_
  refine r_getr fl_X1_18 sh_3 rfl 4 rfl dX1_kindNamed_1 ?_
  refine r_ldcs (tx := "plain") 0 (by decide) rfl 6 rfl dX1_kindNamed_4 ?_
  refine r_calli (c_X4_spells E 0 (by decide)  _) rfl sh_1 rfl ml_X1_75 cw_X4_spells vw_X4_spells (by decide) (Nat.le_of_ble_eq_true rfl) 9 rfl dX1_kindNamed_6 (fun r1 σ1 => ?_)
  refine r_if_eq 14 12 rfl (by decide) dX1_kindNamed_9 (fun c2 => ?_) (fun c2 => ?_)
  · refine r_aload_n 0 rfl rfl 15 rfl dX1_kindNamed_14 ?_
    refine r_getr fl_X1_18 sh_3 rfl 18 rfl dX1_kindNamed_15 ?_
    refine r_ldcs (tx := "taught") 1 (by decide) rfl 20 rfl dX1_kindNamed_18 ?_
    refine r_calli (c_X4_spells E 1 (by decide)  _) rfl sh_1 rfl ml_X1_75 cw_X4_spells vw_X4_spells (by decide) (Nat.le_of_ble_eq_true rfl) 23 rfl dX1_kindNamed_20 (fun r3 σ3 => ?_)
    refine r_if_eq 28 26 rfl (by decide) dX1_kindNamed_23 (fun c4 => ?_) (fun c4 => ?_)
    · refine r_aload_n 0 rfl rfl 29 rfl dX1_kindNamed_28 ?_
      refine r_getr fl_X1_18 sh_3 rfl 32 rfl dX1_kindNamed_29 ?_
      refine r_ldcs (tx := "vain") 2 (by decide) rfl 34 rfl dX1_kindNamed_32 ?_
      refine r_calli (c_X4_spells E 2 (by decide)  _) rfl sh_1 rfl ml_X1_75 cw_X4_spells vw_X4_spells (by decide) (Nat.le_of_ble_eq_true rfl) 37 rfl dX1_kindNamed_34 (fun r5 σ5 => ?_)
      refine r_if_eq 42 40 rfl (by decide) dX1_kindNamed_37 (fun c6 => ?_) (fun c6 => ?_)
      · refine r_aload_n 0 rfl rfl 43 rfl dX1_kindNamed_42 ?_
        refine r_getr fl_X1_18 sh_3 rfl 46 rfl dX1_kindNamed_43 ?_
        refine r_ldcs (tx := "trembler") 3 (by decide) rfl 48 rfl dX1_kindNamed_46 ?_
        refine r_calli (c_X4_spells E 3 (by decide)  _) rfl sh_1 rfl ml_X1_75 cw_X4_spells vw_X4_spells (by decide) (Nat.le_of_ble_eq_true rfl) 51 rfl dX1_kindNamed_48 (fun r7 σ7 => ?_)
        refine r_if_eq 58 54 rfl (by decide) dX1_kindNamed_51 (fun c8 => ?_) (fun c8 => ?_)
        · refine r_iconst (-1) (by decide) 59 rfl dX1_kindNamed_58 ?_
          exact r_iret rfl dX1_kindNamed_59
        · refine r_iconst 3 (by decide) 55 rfl dX1_kindNamed_54 ?_
          refine r_goto 59 (by decide) dX1_kindNamed_55 ?_
          exact r_iret rfl dX1_kindNamed_59
      · refine r_iconst 2 (by decide) 41 rfl dX1_kindNamed_40 ?_
        exact r_iret rfl dX1_kindNamed_41
    · refine r_iconst 1 (by decide) 27 rfl dX1_kindNamed_26 ?_
      exact r_iret rfl dX1_kindNamed_27
  · refine r_iconst 0 (by decide) 13 rfl dX1_kindNamed_12 ?_
    exact r_iret rfl dX1_kindNamed_13
/-! HandMarket$Scribe.follows(I)Z -/
def f_X1_follows  (x1 : Int32) (σ : k_Mem) : Option (Int32 × k_Mem) :=
  k_bd (f_X4_advance   σ) (fun _ σ1 =>
    k_bd (f_X1_stands  x1 σ1) (fun r2 σ2 =>
      if r2 = 0 ∨ r2 = 1 then some (r2, σ2) else none
    )
  )
set_option maxRecDepth 100000 in
theorem c_X1_follows (E : k_EV)   (x1 : Int32) (σ : k_Mem) : k_MC m_X1_follows E k_vi [k_rf E 3, .int x1] σ (f_X1_follows x1 σ) := by
  refine k_MC_of ⟨by decide, by decide⟩ (Nat.le_of_ble_eq_true rfl) ?_
  show k_GO _ _ _ 0 [(0, k_rf E 3), (1, .int x1)] [] σ _
  unfold f_X1_follows
  refine r_aload_n 0 rfl rfl 1 rfl dX1_follows_0 ?_
  refine r_getr fl_X1_18 sh_3 rfl 4 rfl dX1_follows_1 ?_
  refine r_callv (c_X4_advance E    _) rfl sh_1 rfl ml_X1_43 cw_X4_advance vw_X4_advance (by decide) (Nat.le_of_ble_eq_true rfl) 7 rfl dX1_follows_4 (fun _ σ1 => ?_)
  refine r_aload_n 0 rfl rfl 8 rfl dX1_follows_7 ?_
  refine r_iload_n 1 rfl rfl 9 rfl dX1_follows_8 ?_
  refine r_calli (c_X1_stands E   _ _) rfl sh_3 rfl ml_X1_63 cw_X1_stands vw_X1_stands (by decide) (Nat.le_of_ble_eq_true rfl) 12 rfl dX1_follows_9 (fun r2 σ2 => ?_)
  refine r_grd (fun c3 => ?_)
  exact r_zret rfl c3 dX1_follows_12
/-! HandMarket$Scribe.number(II)I -/
def j_X1_number_39    (σ : k_Mem) : Option (Int32 × k_Mem) :=
  k_bd (f_X1_refuse  3 σ) (fun r5 σ5 =>
    some ((-1), σ5)
  )
set_option maxRecDepth 100000 in
theorem gj_X1_number_39 (E : k_EV)       (σ : k_Mem) : k_GO m_X1_number E k_vi 39 [(0, k_rf E 3)] [] σ (j_X1_number_39    σ) := by
  unfold j_X1_number_39
  refine r_aload_n 0 rfl rfl 40 rfl dX1_number_39 ?_
  refine r_iconst 3 (by decide) 41 rfl dX1_number_40 ?_
  refine r_calli (c_X1_refuse E   _ _) rfl sh_3 rfl ml_X1_97 cw_X1_refuse vw_X1_refuse (by decide) (Nat.le_of_ble_eq_true rfl) 44 rfl dX1_number_41 (fun r5 σ5 => ?_)
  refine r_pop 45 rfl dX1_number_44 rfl ?_
  refine r_iconst (-1) (by decide) 46 rfl dX1_number_45 ?_
  exact r_iret rfl dX1_number_46
def f_X1_number  (x1 : Int32) (x2 : Int32) (σ : k_Mem) : Option (Int32 × k_Mem) :=
  k_bd (f_X4_advance   σ) (fun _ σ1 =>
    k_bd (f_X1_stands  2 σ1) (fun r2 σ2 =>
      if r2 = 0 then (
        some ((-1), σ2)
      ) else (
        if (σ2 1 5) < x1 then (
          j_X1_number_39    σ2
        ) else (
          if (σ2 1 5) ≤ x2 then (
            some ((σ2 1 5), σ2)
          ) else (
            j_X1_number_39    σ2
          )
        )
      )
    )
  )
set_option maxRecDepth 100000 in
theorem c_X1_number (E : k_EV)   (x1 : Int32) (x2 : Int32) (σ : k_Mem) : k_MC m_X1_number E k_vi [k_rf E 3, .int x1, .int x2] σ (f_X1_number x1 x2 σ) := by
  refine k_MC_of ⟨by decide, by decide⟩ (Nat.le_of_ble_eq_true rfl) ?_
  show k_GO _ _ _ 0 [(0, k_rf E 3), (1, .int x1), (2, .int x2)] [] σ _
  unfold f_X1_number
  refine r_aload_n 0 rfl rfl 1 rfl dX1_number_0 ?_
  refine r_getr fl_X1_18 sh_3 rfl 4 rfl dX1_number_1 ?_
  refine r_callv (c_X4_advance E    _) rfl sh_1 rfl ml_X1_43 cw_X4_advance vw_X4_advance (by decide) (Nat.le_of_ble_eq_true rfl) 7 rfl dX1_number_4 (fun _ σ1 => ?_)
  refine r_aload_n 0 rfl rfl 8 rfl dX1_number_7 ?_
  refine r_iconst 2 (by decide) 9 rfl dX1_number_8 ?_
  refine r_calli (c_X1_stands E   _ _) rfl sh_3 rfl ml_X1_63 cw_X1_stands vw_X1_stands (by decide) (Nat.le_of_ble_eq_true rfl) 12 rfl dX1_number_9 (fun r2 σ2 => ?_)
  refine r_if_ne 17 15 rfl (by decide) dX1_number_12 (fun c3 => ?_) (fun c3 => ?_)
  · refine r_iconst (-1) (by decide) 16 rfl dX1_number_15 ?_
    exact r_iret rfl dX1_number_16
  · refine r_aload_n 0 rfl rfl 18 rfl dX1_number_17 ?_
    refine r_getr fl_X1_18 sh_3 rfl 21 rfl dX1_number_18 ?_
    refine r_geti fl_X1_160 sh_1 rfl 24 rfl dX1_number_21 ?_
    refine r_iload_n 1 rfl rfl 25 rfl dX1_number_24 ?_
    refine r_icmp_lt 39 28 rfl (by decide) dX1_number_25 (fun c4 => ?_) (fun c4 => ?_)
    · exact r_sub [0] rfl (gj_X1_number_39 E       _)
    · refine r_aload_n 0 rfl rfl 29 rfl dX1_number_28 ?_
      refine r_getr fl_X1_18 sh_3 rfl 32 rfl dX1_number_29 ?_
      refine r_geti fl_X1_160 sh_1 rfl 35 rfl dX1_number_32 ?_
      refine r_iload_n 2 rfl rfl 36 rfl dX1_number_35 ?_
      refine r_icmp_le 47 39 rfl (by decide) dX1_number_36 (fun c6 => ?_) (fun c6 => ?_)
      · refine r_aload_n 0 rfl rfl 48 rfl dX1_number_47 ?_
        refine r_getr fl_X1_18 sh_3 rfl 51 rfl dX1_number_48 ?_
        refine r_geti fl_X1_160 sh_1 rfl 54 rfl dX1_number_51 ?_
        exact r_iret rfl dX1_number_54
      · exact r_sub [0] rfl (gj_X1_number_39 E       _)
/-! HandMarket$Scribe.handLine(I)Z -/
def j_X1_handLine_113   (x1 : Int32) (x3 : Int32) (x4 : Int32) (x5 : Int32) (xs0 : Int32) (σ : k_Mem) : Option (Int32 × k_Mem) :=
  if xs0 = (-1) then (
    some (0, σ)
  ) else (
    k_bd (f_X5_add 38 x3 x1 x4 x5 xs0 σ) (fun _ σ16 =>
      k_bd (f_X1_follows  3 σ16) (fun r17 σ17 =>
        if r17 = 0 ∨ r17 = 1 then some (r17, σ17) else none
      )
    )
  )
set_option maxRecDepth 100000 in
theorem gj_X1_handLine_113 (E : k_EV)     (x1 : Int32) (x3 : Int32) (x4 : Int32) (x5 : Int32) (xs0 : Int32)  (σ : k_Mem) : k_GO m_X1_handLine E k_vi 113 [(0, k_rf E 3), (1, .int x1), (3, .int x3), (4, .int x4), (5, .int x5)] [.int xs0] σ (j_X1_handLine_113   x1 x3 x4 x5 xs0 σ) := by
  unfold j_X1_handLine_113
  refine r_istore [(6, .int _), (0, k_rf E 3), (1, .int _), (3, .int _), (4, .int _), (5, .int _)] rfl (by decide) 115 rfl dX1_handLine_113 ?_
  refine r_iload 0 rfl 117 rfl dX1_handLine_115 ?_
  refine r_iconst (-1) (by decide) 118 rfl dX1_handLine_117 ?_
  refine r_icmp_ne 123 121 rfl (by decide) dX1_handLine_118 (fun c15 => ?_) (fun c15 => ?_)
  · refine r_iconst 0 (by decide) 122 rfl dX1_handLine_121 ?_
    exact r_zret rfl (Or.inl rfl) dX1_handLine_122
  · refine r_aload_n 1 rfl rfl 124 rfl dX1_handLine_123 ?_
    refine r_getr fl_X1_12 sh_3 rfl 127 rfl dX1_handLine_124 ?_
    refine r_iload_n 3 rfl rfl 128 rfl dX1_handLine_127 ?_
    refine r_iload_n 2 rfl rfl 129 rfl dX1_handLine_128 ?_
    refine r_iload 4 rfl 131 rfl dX1_handLine_129 ?_
    refine r_iload 5 rfl 133 rfl dX1_handLine_131 ?_
    refine r_iload 0 rfl 135 rfl dX1_handLine_133 ?_
    refine r_callv (c_X5_add E 38 tw_38 _ _ _ _ _ _) rfl sh_38 rfl ml_X1_122 cw_X5_add vw_X5_add (by decide) (Nat.le_of_ble_eq_true rfl) 138 rfl dX1_handLine_135 (fun _ σ16 => ?_)
    refine r_aload_n 1 rfl rfl 139 rfl dX1_handLine_138 ?_
    refine r_iconst 3 (by decide) 140 rfl dX1_handLine_139 ?_
    refine r_calli (c_X1_follows E   _ _) rfl sh_3 rfl ml_X1_108 cw_X1_follows vw_X1_follows (by decide) (Nat.le_of_ble_eq_true rfl) 143 rfl dX1_handLine_140 (fun r17 σ17 => ?_)
    refine r_grd (fun c18 => ?_)
    exact r_zret rfl c18 dX1_handLine_143
def j_X1_handLine_95   (x1 : Int32) (x3 : Int32) (x4 : Int32) (xs0 : Int32) (σ : k_Mem) : Option (Int32 × k_Mem) :=
  if xs0 = (-1) then (
    j_X1_handLine_113   x1 x3 x4 xs0 (-1) σ
  ) else (
    k_bd (f_X1_number  0 2 σ) (fun r19 σ19 =>
      j_X1_handLine_113   x1 x3 x4 xs0 r19 σ19
    )
  )
set_option maxRecDepth 100000 in
theorem gj_X1_handLine_95 (E : k_EV)     (x1 : Int32) (x3 : Int32) (x4 : Int32) (xs0 : Int32)  (σ : k_Mem) : k_GO m_X1_handLine E k_vi 95 [(0, k_rf E 3), (1, .int x1), (3, .int x3), (4, .int x4)] [.int xs0] σ (j_X1_handLine_95   x1 x3 x4 xs0 σ) := by
  unfold j_X1_handLine_95
  refine r_istore [(5, .int _), (0, k_rf E 3), (1, .int _), (3, .int _), (4, .int _)] rfl (by decide) 97 rfl dX1_handLine_95 ?_
  refine r_iload 0 rfl 99 rfl dX1_handLine_97 ?_
  refine r_iconst (-1) (by decide) 100 rfl dX1_handLine_99 ?_
  refine r_icmp_ne 107 103 rfl (by decide) dX1_handLine_100 (fun c14 => ?_) (fun c14 => ?_)
  · refine r_iconst (-1) (by decide) 104 rfl dX1_handLine_103 ?_
    refine r_goto 113 (by decide) dX1_handLine_104 ?_
    exact r_sub [1, 2, 3, 4, 0] rfl (gj_X1_handLine_113 E     _ _ _ _ _  _)
  · refine r_aload_n 1 rfl rfl 108 rfl dX1_handLine_107 ?_
    refine r_iconst 0 (by decide) 109 rfl dX1_handLine_108 ?_
    refine r_iconst 2 (by decide) 110 rfl dX1_handLine_109 ?_
    refine r_calli (c_X1_number E   _ _ _) rfl sh_3 rfl ml_X1_118 cw_X1_number vw_X1_number (by decide) (Nat.le_of_ble_eq_true rfl) 113 rfl dX1_handLine_110 (fun r19 σ19 => ?_)
    exact r_sub [1, 2, 3, 4, 0] rfl (gj_X1_handLine_113 E     _ _ _ _ _  _)
def j_X1_handLine_51   (x1 : Int32) (xs0 : Int32) (σ : k_Mem) : Option (Int32 × k_Mem) :=
  k_bd (f_X5_isFull 38 xs0 σ) (fun r10 σ10 =>
    if r10 = 0 then (
      k_bd (f_X1_number  0 9 σ10) (fun r12 σ12 =>
        if r12 = (-1) then (
          j_X1_handLine_95   x1 xs0 r12 (-1) σ12
        ) else (
          k_bd (f_X1_number  0 9 σ12) (fun r20 σ20 =>
            j_X1_handLine_95   x1 xs0 r12 r20 σ20
          )
        )
      )
    ) else (
      k_bd (f_X1_refuse  5 σ10) (fun r21 σ21 =>
        if r21 = 0 ∨ r21 = 1 then some (r21, σ21) else none
      )
    )
  )
set_option maxRecDepth 100000 in
theorem gj_X1_handLine_51 (E : k_EV)     (x1 : Int32) (xs0 : Int32)  (σ : k_Mem) : k_GO m_X1_handLine E k_vi 51 [(0, k_rf E 3), (1, .int x1)] [.int xs0] σ (j_X1_handLine_51   x1 xs0 σ) := by
  unfold j_X1_handLine_51
  refine r_istore_n [(3, .int _), (0, k_rf E 3), (1, .int _)] rfl rfl (by decide) 52 rfl dX1_handLine_51 ?_
  refine r_aload_n 1 rfl rfl 53 rfl dX1_handLine_52 ?_
  refine r_getr fl_X1_12 sh_3 rfl 56 rfl dX1_handLine_53 ?_
  refine r_iload_n 0 rfl rfl 57 rfl dX1_handLine_56 ?_
  refine r_calli (c_X5_isFull E 38 tw_38 _ _) rfl sh_38 rfl ml_X1_115 cw_X5_isFull vw_X5_isFull (by decide) (Nat.le_of_ble_eq_true rfl) 60 rfl dX1_handLine_57 (fun r10 σ10 => ?_)
  refine r_if_eq 69 63 rfl (by decide) dX1_handLine_60 (fun c11 => ?_) (fun c11 => ?_)
  · refine r_aload_n 1 rfl rfl 70 rfl dX1_handLine_69 ?_
    refine r_iconst 0 (by decide) 71 rfl dX1_handLine_70 ?_
    refine r_bipush 9 (by decide) 73 rfl dX1_handLine_71 ?_
    refine r_calli (c_X1_number E   _ _ _) rfl sh_3 rfl ml_X1_118 cw_X1_number vw_X1_number (by decide) (Nat.le_of_ble_eq_true rfl) 76 rfl dX1_handLine_73 (fun r12 σ12 => ?_)
    refine r_istore [(4, .int _), (3, .int _), (0, k_rf E 3), (1, .int _)] rfl (by decide) 78 rfl dX1_handLine_76 ?_
    refine r_iload 0 rfl 80 rfl dX1_handLine_78 ?_
    refine r_iconst (-1) (by decide) 81 rfl dX1_handLine_80 ?_
    refine r_icmp_ne 88 84 rfl (by decide) dX1_handLine_81 (fun c13 => ?_) (fun c13 => ?_)
    · refine r_iconst (-1) (by decide) 85 rfl dX1_handLine_84 ?_
      refine r_goto 95 (by decide) dX1_handLine_85 ?_
      exact r_sub [2, 3, 1, 0] rfl (gj_X1_handLine_95 E     _ _ _ _  _)
    · refine r_aload_n 2 rfl rfl 89 rfl dX1_handLine_88 ?_
      refine r_iconst 0 (by decide) 90 rfl dX1_handLine_89 ?_
      refine r_bipush 9 (by decide) 92 rfl dX1_handLine_90 ?_
      refine r_calli (c_X1_number E   _ _ _) rfl sh_3 rfl ml_X1_118 cw_X1_number vw_X1_number (by decide) (Nat.le_of_ble_eq_true rfl) 95 rfl dX1_handLine_92 (fun r20 σ20 => ?_)
      exact r_sub [2, 3, 1, 0] rfl (gj_X1_handLine_95 E     _ _ _ _  _)
  · refine r_aload_n 1 rfl rfl 64 rfl dX1_handLine_63 ?_
    refine r_iconst 5 (by decide) 65 rfl dX1_handLine_64 ?_
    refine r_calli (c_X1_refuse E   _ _) rfl sh_3 rfl ml_X1_97 cw_X1_refuse vw_X1_refuse (by decide) (Nat.le_of_ble_eq_true rfl) 68 rfl dX1_handLine_65 (fun r21 σ21 => ?_)
    refine r_grd (fun c22 => ?_)
    exact r_zret rfl c22 dX1_handLine_68
def j_X1_handLine_42   (x1 : Int32) (x2 : Int32) (σ : k_Mem) : Option (Int32 × k_Mem) :=
  if x2 = 0 then (
    j_X1_handLine_51   x1 1 σ
  ) else (
    j_X1_handLine_51   x1 0 σ
  )
set_option maxRecDepth 100000 in
theorem gj_X1_handLine_42 (E : k_EV)     (x1 : Int32) (x2 : Int32)  (σ : k_Mem) : k_GO m_X1_handLine E k_vi 42 [(0, k_rf E 3), (1, .int x1), (2, .int x2)] [] σ (j_X1_handLine_42   x1 x2 σ) := by
  unfold j_X1_handLine_42
  refine r_iload_n 2 rfl rfl 43 rfl dX1_handLine_42 ?_
  refine r_if_eq 50 46 rfl (by decide) dX1_handLine_43 (fun c9 => ?_) (fun c9 => ?_)
  · refine r_iconst 1 (by decide) 51 rfl dX1_handLine_50 ?_
    exact r_sub [0, 1] rfl (gj_X1_handLine_51 E     _ _  _)
  · refine r_iconst 0 (by decide) 47 rfl dX1_handLine_46 ?_
    refine r_goto 51 (by decide) dX1_handLine_47 ?_
    exact r_sub [0, 1] rfl (gj_X1_handLine_51 E     _ _  _)
def f_X1_handLine  (x1 : Int32) (σ : k_Mem) : Option (Int32 × k_Mem) :=
  k_bd (f_X1_follows  1 σ) (fun r1 σ1 =>
    if r1 = 0 then (
      some (0, σ1)
    ) else (
      k_bd (f_X4_spells 4  σ1) (fun r3 σ3 =>
        if r3 = 0 then (
          k_bd (f_X4_spells 5  σ3) (fun r5 σ5 =>
            if r5 = 0 then (
              k_bd (f_X1_refuse  2 σ5) (fun r7 σ7 =>
                if r7 = 0 ∨ r7 = 1 then some (r7, σ7) else none
              )
            ) else (
              j_X1_handLine_42   x1 r3 σ5
            )
          )
        ) else (
          j_X1_handLine_42   x1 r3 σ3
        )
      )
    )
  )
set_option maxRecDepth 100000 in
theorem c_X1_handLine (E : k_EV)   (x1 : Int32) (σ : k_Mem) : k_MC m_X1_handLine E k_vi [k_rf E 3, .int x1] σ (f_X1_handLine x1 σ) := by
  refine k_MC_of ⟨by decide, by decide⟩ (Nat.le_of_ble_eq_true rfl) ?_
  show k_GO _ _ _ 0 [(0, k_rf E 3), (1, .int x1)] [] σ _
  unfold f_X1_handLine
  refine r_aload_n 0 rfl rfl 1 rfl dX1_handLine_0 ?_
  refine r_iconst 1 (by decide) 2 rfl dX1_handLine_1 ?_
  refine r_calli (c_X1_follows E   _ _) rfl sh_3 rfl ml_X1_108 cw_X1_follows vw_X1_follows (by decide) (Nat.le_of_ble_eq_true rfl) 5 rfl dX1_handLine_2 (fun r1 σ1 => ?_)
  refine r_if_ne 10 8 rfl (by decide) dX1_handLine_5 (fun c2 => ?_) (fun c2 => ?_)
  · refine r_iconst 0 (by decide) 9 rfl dX1_handLine_8 ?_
    exact r_zret rfl (Or.inl rfl) dX1_handLine_9
  · refine r_aload_n 0 rfl rfl 11 rfl dX1_handLine_10 ?_
    refine r_getr fl_X1_18 sh_3 rfl 14 rfl dX1_handLine_11 ?_
    refine r_ldcs (tx := "left") 4 (by decide) rfl 16 rfl dX1_handLine_14 ?_
    refine r_calli (c_X4_spells E 4 (by decide)  _) rfl sh_1 rfl ml_X1_75 cw_X4_spells vw_X4_spells (by decide) (Nat.le_of_ble_eq_true rfl) 19 rfl dX1_handLine_16 (fun r3 σ3 => ?_)
    refine r_istore_n [(2, .int _), (0, k_rf E 3), (1, .int _)] rfl rfl (by decide) 20 rfl dX1_handLine_19 ?_
    refine r_iload_n 0 rfl rfl 21 rfl dX1_handLine_20 ?_
    refine r_if_ne 42 24 rfl (by decide) dX1_handLine_21 (fun c4 => ?_) (fun c4 => ?_)
    · refine r_aload_n 1 rfl rfl 25 rfl dX1_handLine_24 ?_
      refine r_getr fl_X1_18 sh_3 rfl 28 rfl dX1_handLine_25 ?_
      refine r_ldcs (tx := "right") 5 (by decide) rfl 30 rfl dX1_handLine_28 ?_
      refine r_calli (c_X4_spells E 5 (by decide)  _) rfl sh_1 rfl ml_X1_75 cw_X4_spells vw_X4_spells (by decide) (Nat.le_of_ble_eq_true rfl) 33 rfl dX1_handLine_30 (fun r5 σ5 => ?_)
      refine r_if_ne 42 36 rfl (by decide) dX1_handLine_33 (fun c6 => ?_) (fun c6 => ?_)
      · refine r_aload_n 1 rfl rfl 37 rfl dX1_handLine_36 ?_
        refine r_iconst 2 (by decide) 38 rfl dX1_handLine_37 ?_
        refine r_calli (c_X1_refuse E   _ _) rfl sh_3 rfl ml_X1_97 cw_X1_refuse vw_X1_refuse (by decide) (Nat.le_of_ble_eq_true rfl) 41 rfl dX1_handLine_38 (fun r7 σ7 => ?_)
        refine r_grd (fun c8 => ?_)
        exact r_zret rfl c8 dX1_handLine_41
      · exact r_sub [1, 2, 0] rfl (gj_X1_handLine_42 E     _ _  _)
    · exact r_sub [1, 2, 0] rfl (gj_X1_handLine_42 E     _ _  _)
/-! HandMarket$Scribe.penLine()Z -/
def f_X1_penLine   (σ : k_Mem) : Option (Int32 × k_Mem) :=
  k_bd (f_X1_number  0 7 σ) (fun r1 σ1 =>
    if r1 = (-1) then (
      some (0, σ1)
    ) else (
      if ((k_shr (σ1 3 5) r1) &&& 1) = 1 then (
        k_bd (f_X1_refuse  4 σ1) (fun r4 σ4 =>
          if r4 = 0 ∨ r4 = 1 then some (r4, σ4) else none
        )
      ) else (
        k_bd (f_X1_number  0 7 σ1) (fun r6 σ6 =>
          if r6 = (-1) then (
            some (0, σ6)
          ) else (
            if k_in r1 8 then (
              k_bd (f_X1_follows  3 (k_mset (k_mset σ6 3 5 ((σ6 3 5) ||| (k_shl 1 r1))) 43 (k_n r1) r6)) (fun r8 σ8 =>
                if r8 = 0 ∨ r8 = 1 then some (r8, σ8) else none
              )
            ) else none
          )
        )
      )
    )
  )
set_option maxRecDepth 100000 in
theorem c_X1_penLine (E : k_EV)    (σ : k_Mem) : k_MC m_X1_penLine E k_vi [k_rf E 3] σ (f_X1_penLine  σ) := by
  refine k_MC_of ⟨by decide, by decide⟩ (Nat.le_of_ble_eq_true rfl) ?_
  show k_GO _ _ _ 0 [(0, k_rf E 3)] [] σ _
  unfold f_X1_penLine
  refine r_aload_n 0 rfl rfl 1 rfl dX1_penLine_0 ?_
  refine r_iconst 0 (by decide) 2 rfl dX1_penLine_1 ?_
  refine r_bipush 7 (by decide) 4 rfl dX1_penLine_2 ?_
  refine r_calli (c_X1_number E   _ _ _) rfl sh_3 rfl ml_X1_118 cw_X1_number vw_X1_number (by decide) (Nat.le_of_ble_eq_true rfl) 7 rfl dX1_penLine_4 (fun r1 σ1 => ?_)
  refine r_istore_n [(1, .int _), (0, k_rf E 3)] rfl rfl (by decide) 8 rfl dX1_penLine_7 ?_
  refine r_iload_n 0 rfl rfl 9 rfl dX1_penLine_8 ?_
  refine r_iconst (-1) (by decide) 10 rfl dX1_penLine_9 ?_
  refine r_icmp_ne 15 13 rfl (by decide) dX1_penLine_10 (fun c2 => ?_) (fun c2 => ?_)
  · refine r_iconst 0 (by decide) 14 rfl dX1_penLine_13 ?_
    exact r_zret rfl (Or.inl rfl) dX1_penLine_14
  · refine r_aload_n 1 rfl rfl 16 rfl dX1_penLine_15 ?_
    refine r_geti fl_X1_35 sh_3 rfl 19 rfl dX1_penLine_16 ?_
    refine r_iload_n 0 rfl rfl 20 rfl dX1_penLine_19 ?_
    refine r_ishr 21 rfl dX1_penLine_20 ?_
    refine r_iconst 1 (by decide) 22 rfl dX1_penLine_21 ?_
    refine r_iand 23 rfl dX1_penLine_22 ?_
    refine r_iconst 1 (by decide) 24 rfl dX1_penLine_23 ?_
    refine r_icmp_ne 33 27 rfl (by decide) dX1_penLine_24 (fun c3 => ?_) (fun c3 => ?_)
    · refine r_aload_n 1 rfl rfl 28 rfl dX1_penLine_27 ?_
      refine r_iconst 4 (by decide) 29 rfl dX1_penLine_28 ?_
      refine r_calli (c_X1_refuse E   _ _) rfl sh_3 rfl ml_X1_97 cw_X1_refuse vw_X1_refuse (by decide) (Nat.le_of_ble_eq_true rfl) 32 rfl dX1_penLine_29 (fun r4 σ4 => ?_)
      refine r_grd (fun c5 => ?_)
      exact r_zret rfl c5 dX1_penLine_32
    · refine r_aload_n 1 rfl rfl 34 rfl dX1_penLine_33 ?_
      refine r_iconst 0 (by decide) 35 rfl dX1_penLine_34 ?_
      refine r_bipush 7 (by decide) 37 rfl dX1_penLine_35 ?_
      refine r_calli (c_X1_number E   _ _ _) rfl sh_3 rfl ml_X1_118 cw_X1_number vw_X1_number (by decide) (Nat.le_of_ble_eq_true rfl) 40 rfl dX1_penLine_37 (fun r6 σ6 => ?_)
      refine r_istore_n [(2, .int _), (1, .int _), (0, k_rf E 3)] rfl rfl (by decide) 41 rfl dX1_penLine_40 ?_
      refine r_iload_n 0 rfl rfl 42 rfl dX1_penLine_41 ?_
      refine r_iconst (-1) (by decide) 43 rfl dX1_penLine_42 ?_
      refine r_icmp_ne 48 46 rfl (by decide) dX1_penLine_43 (fun c7 => ?_) (fun c7 => ?_)
      · refine r_iconst 0 (by decide) 47 rfl dX1_penLine_46 ?_
        exact r_zret rfl (Or.inl rfl) dX1_penLine_47
      · refine r_aload_n 2 rfl rfl 49 rfl dX1_penLine_48 ?_
        refine r_dup 50 rfl dX1_penLine_49 rfl ?_
        refine r_geti fl_X1_35 sh_3 rfl 53 rfl dX1_penLine_50 ?_
        refine r_iconst 1 (by decide) 54 rfl dX1_penLine_53 ?_
        refine r_iload_n 1 rfl rfl 55 rfl dX1_penLine_54 ?_
        refine r_ishl 56 rfl dX1_penLine_55 ?_
        refine r_ior 57 rfl dX1_penLine_56 ?_
        refine r_puti fp_X1_35 sh_3 rfl 60 rfl dX1_penLine_57 ?_
        refine r_aload_n 2 rfl rfl 61 rfl dX1_penLine_60 ?_
        refine r_getr fl_X1_12 sh_3 rfl 64 rfl dX1_penLine_61 ?_
        refine r_getr fl_X1_126 sh_38 rfl 67 rfl dX1_penLine_64 ?_
        refine r_iload_n 1 rfl rfl 68 rfl dX1_penLine_67 ?_
        refine r_iload_n 0 rfl rfl 69 rfl dX1_penLine_68 ?_
        refine r_iast sh_43 70 rfl dX1_penLine_69 ?_
        refine r_aload_n 2 rfl rfl 71 rfl dX1_penLine_70 ?_
        refine r_iconst 3 (by decide) 72 rfl dX1_penLine_71 ?_
        refine r_calli (c_X1_follows E   _ _) rfl sh_3 rfl ml_X1_108 cw_X1_follows vw_X1_follows (by decide) (Nat.le_of_ble_eq_true rfl) 75 rfl dX1_penLine_72 (fun r8 σ8 => ?_)
        refine r_grd (fun c9 => ?_)
        exact r_zret rfl c9 dX1_penLine_75
/-! HandMarket$Scribe.runLine()Z -/
def f_X1_runLine   (σ : k_Mem) : Option (Int32 × k_Mem) :=
  k_bd (f_X1_number  0 7 σ) (fun r1 σ1 =>
    if r1 = (-1) then (
      some (0, σ1)
    ) else (
      k_bd (f_X5_isRun 38 r1 σ1) (fun r3 σ3 =>
        if r3 = 0 then (
          k_bd (f_X5_setRun 38 r1 1 σ3) (fun _ σ5 =>
            k_bd (f_X1_follows  3 σ5) (fun r6 σ6 =>
              if r6 = 0 ∨ r6 = 1 then some (r6, σ6) else none
            )
          )
        ) else (
          k_bd (f_X1_refuse  4 σ3) (fun r8 σ8 =>
            if r8 = 0 ∨ r8 = 1 then some (r8, σ8) else none
          )
        )
      )
    )
  )
set_option maxRecDepth 100000 in
theorem c_X1_runLine (E : k_EV)    (σ : k_Mem) : k_MC m_X1_runLine E k_vi [k_rf E 3] σ (f_X1_runLine  σ) := by
  refine k_MC_of ⟨by decide, by decide⟩ (Nat.le_of_ble_eq_true rfl) ?_
  show k_GO _ _ _ 0 [(0, k_rf E 3)] [] σ _
  unfold f_X1_runLine
  refine r_aload_n 0 rfl rfl 1 rfl dX1_runLine_0 ?_
  refine r_iconst 0 (by decide) 2 rfl dX1_runLine_1 ?_
  refine r_bipush 7 (by decide) 4 rfl dX1_runLine_2 ?_
  refine r_calli (c_X1_number E   _ _ _) rfl sh_3 rfl ml_X1_118 cw_X1_number vw_X1_number (by decide) (Nat.le_of_ble_eq_true rfl) 7 rfl dX1_runLine_4 (fun r1 σ1 => ?_)
  refine r_istore_n [(1, .int _), (0, k_rf E 3)] rfl rfl (by decide) 8 rfl dX1_runLine_7 ?_
  refine r_iload_n 0 rfl rfl 9 rfl dX1_runLine_8 ?_
  refine r_iconst (-1) (by decide) 10 rfl dX1_runLine_9 ?_
  refine r_icmp_ne 15 13 rfl (by decide) dX1_runLine_10 (fun c2 => ?_) (fun c2 => ?_)
  · refine r_iconst 0 (by decide) 14 rfl dX1_runLine_13 ?_
    exact r_zret rfl (Or.inl rfl) dX1_runLine_14
  · refine r_aload_n 1 rfl rfl 16 rfl dX1_runLine_15 ?_
    refine r_getr fl_X1_12 sh_3 rfl 19 rfl dX1_runLine_16 ?_
    refine r_iload_n 0 rfl rfl 20 rfl dX1_runLine_19 ?_
    refine r_calli (c_X5_isRun E 38 tw_38 _ _) rfl sh_38 rfl ml_X1_129 cw_X5_isRun vw_X5_isRun (by decide) (Nat.le_of_ble_eq_true rfl) 23 rfl dX1_runLine_20 (fun r3 σ3 => ?_)
    refine r_if_eq 32 26 rfl (by decide) dX1_runLine_23 (fun c4 => ?_) (fun c4 => ?_)
    · refine r_aload_n 1 rfl rfl 33 rfl dX1_runLine_32 ?_
      refine r_getr fl_X1_12 sh_3 rfl 36 rfl dX1_runLine_33 ?_
      refine r_iload_n 0 rfl rfl 37 rfl dX1_runLine_36 ?_
      refine r_iconst 1 (by decide) 38 rfl dX1_runLine_37 ?_
      refine r_callv (c_X5_setRun E 38 tw_38 _ _ _) rfl sh_38 rfl ml_X1_132 cw_X5_setRun vw_X5_setRun (by decide) (Nat.le_of_ble_eq_true rfl) 41 rfl dX1_runLine_38 (fun _ σ5 => ?_)
      refine r_aload_n 1 rfl rfl 42 rfl dX1_runLine_41 ?_
      refine r_iconst 3 (by decide) 43 rfl dX1_runLine_42 ?_
      refine r_calli (c_X1_follows E   _ _) rfl sh_3 rfl ml_X1_108 cw_X1_follows vw_X1_follows (by decide) (Nat.le_of_ble_eq_true rfl) 46 rfl dX1_runLine_43 (fun r6 σ6 => ?_)
      refine r_grd (fun c7 => ?_)
      exact r_zret rfl c7 dX1_runLine_46
    · refine r_aload_n 1 rfl rfl 27 rfl dX1_runLine_26 ?_
      refine r_iconst 4 (by decide) 28 rfl dX1_runLine_27 ?_
      refine r_calli (c_X1_refuse E   _ _) rfl sh_3 rfl ml_X1_97 cw_X1_refuse vw_X1_refuse (by decide) (Nat.le_of_ble_eq_true rfl) 31 rfl dX1_runLine_28 (fun r8 σ8 => ?_)
      refine r_grd (fun c9 => ?_)
      exact r_zret rfl c9 dX1_runLine_31
/-! HandMarket$Scribe.foldLine()Z -/
def j_X1_foldLine_23   (x1 : Int32) (xs0 : Int32) (σ : k_Mem) : Option (Int32 × k_Mem) :=
  if xs0 = (-1) then (
    some (0, σ)
  ) else (
    k_bd (f_X5_areFolded 38 x1 xs0 σ) (fun r4 σ4 =>
      if r4 = 0 then (
        k_bd (f_X5_setFolded 38 x1 xs0 1 σ4) (fun _ σ6 =>
          k_bd (f_X1_follows  3 σ6) (fun r7 σ7 =>
            if r7 = 0 ∨ r7 = 1 then some (r7, σ7) else none
          )
        )
      ) else (
        k_bd (f_X1_refuse  4 σ4) (fun r9 σ9 =>
          if r9 = 0 ∨ r9 = 1 then some (r9, σ9) else none
        )
      )
    )
  )
set_option maxRecDepth 100000 in
theorem gj_X1_foldLine_23 (E : k_EV)     (x1 : Int32) (xs0 : Int32)  (σ : k_Mem) : k_GO m_X1_foldLine E k_vi 23 [(0, k_rf E 3), (1, .int x1)] [.int xs0] σ (j_X1_foldLine_23   x1 xs0 σ) := by
  unfold j_X1_foldLine_23
  refine r_istore_n [(2, .int _), (0, k_rf E 3), (1, .int _)] rfl rfl (by decide) 24 rfl dX1_foldLine_23 ?_
  refine r_iload_n 0 rfl rfl 25 rfl dX1_foldLine_24 ?_
  refine r_iconst (-1) (by decide) 26 rfl dX1_foldLine_25 ?_
  refine r_icmp_ne 31 29 rfl (by decide) dX1_foldLine_26 (fun c3 => ?_) (fun c3 => ?_)
  · refine r_iconst 0 (by decide) 30 rfl dX1_foldLine_29 ?_
    exact r_zret rfl (Or.inl rfl) dX1_foldLine_30
  · refine r_aload_n 1 rfl rfl 32 rfl dX1_foldLine_31 ?_
    refine r_getr fl_X1_12 sh_3 rfl 35 rfl dX1_foldLine_32 ?_
    refine r_iload_n 2 rfl rfl 36 rfl dX1_foldLine_35 ?_
    refine r_iload_n 0 rfl rfl 37 rfl dX1_foldLine_36 ?_
    refine r_calli (c_X5_areFolded E 38 tw_38 _ _ _) rfl sh_38 rfl ml_X1_136 cw_X5_areFolded vw_X5_areFolded (by decide) (Nat.le_of_ble_eq_true rfl) 40 rfl dX1_foldLine_37 (fun r4 σ4 => ?_)
    refine r_if_eq 49 43 rfl (by decide) dX1_foldLine_40 (fun c5 => ?_) (fun c5 => ?_)
    · refine r_aload_n 1 rfl rfl 50 rfl dX1_foldLine_49 ?_
      refine r_getr fl_X1_12 sh_3 rfl 53 rfl dX1_foldLine_50 ?_
      refine r_iload_n 2 rfl rfl 54 rfl dX1_foldLine_53 ?_
      refine r_iload_n 0 rfl rfl 55 rfl dX1_foldLine_54 ?_
      refine r_iconst 1 (by decide) 56 rfl dX1_foldLine_55 ?_
      refine r_callv (c_X5_setFolded E 38 tw_38 _ _ _ _) rfl sh_38 rfl ml_X1_140 cw_X5_setFolded vw_X5_setFolded (by decide) (Nat.le_of_ble_eq_true rfl) 59 rfl dX1_foldLine_56 (fun _ σ6 => ?_)
      refine r_aload_n 1 rfl rfl 60 rfl dX1_foldLine_59 ?_
      refine r_iconst 3 (by decide) 61 rfl dX1_foldLine_60 ?_
      refine r_calli (c_X1_follows E   _ _) rfl sh_3 rfl ml_X1_108 cw_X1_follows vw_X1_follows (by decide) (Nat.le_of_ble_eq_true rfl) 64 rfl dX1_foldLine_61 (fun r7 σ7 => ?_)
      refine r_grd (fun c8 => ?_)
      exact r_zret rfl c8 dX1_foldLine_64
    · refine r_aload_n 1 rfl rfl 44 rfl dX1_foldLine_43 ?_
      refine r_iconst 4 (by decide) 45 rfl dX1_foldLine_44 ?_
      refine r_calli (c_X1_refuse E   _ _) rfl sh_3 rfl ml_X1_97 cw_X1_refuse vw_X1_refuse (by decide) (Nat.le_of_ble_eq_true rfl) 48 rfl dX1_foldLine_45 (fun r9 σ9 => ?_)
      refine r_grd (fun c10 => ?_)
      exact r_zret rfl c10 dX1_foldLine_48
def f_X1_foldLine   (σ : k_Mem) : Option (Int32 × k_Mem) :=
  k_bd (f_X1_number  0 3 σ) (fun r1 σ1 =>
    if r1 = (-1) then (
      j_X1_foldLine_23   r1 (-1) σ1
    ) else (
      k_bd (f_X1_number  4 7 σ1) (fun r11 σ11 =>
        j_X1_foldLine_23   r1 r11 σ11
      )
    )
  )
set_option maxRecDepth 100000 in
theorem c_X1_foldLine (E : k_EV)    (σ : k_Mem) : k_MC m_X1_foldLine E k_vi [k_rf E 3] σ (f_X1_foldLine  σ) := by
  refine k_MC_of ⟨by decide, by decide⟩ (Nat.le_of_ble_eq_true rfl) ?_
  show k_GO _ _ _ 0 [(0, k_rf E 3)] [] σ _
  unfold f_X1_foldLine
  refine r_aload_n 0 rfl rfl 1 rfl dX1_foldLine_0 ?_
  refine r_iconst 0 (by decide) 2 rfl dX1_foldLine_1 ?_
  refine r_iconst 3 (by decide) 3 rfl dX1_foldLine_2 ?_
  refine r_calli (c_X1_number E   _ _ _) rfl sh_3 rfl ml_X1_118 cw_X1_number vw_X1_number (by decide) (Nat.le_of_ble_eq_true rfl) 6 rfl dX1_foldLine_3 (fun r1 σ1 => ?_)
  refine r_istore_n [(1, .int _), (0, k_rf E 3)] rfl rfl (by decide) 7 rfl dX1_foldLine_6 ?_
  refine r_iload_n 0 rfl rfl 8 rfl dX1_foldLine_7 ?_
  refine r_iconst (-1) (by decide) 9 rfl dX1_foldLine_8 ?_
  refine r_icmp_ne 16 12 rfl (by decide) dX1_foldLine_9 (fun c2 => ?_) (fun c2 => ?_)
  · refine r_iconst (-1) (by decide) 13 rfl dX1_foldLine_12 ?_
    refine r_goto 23 (by decide) dX1_foldLine_13 ?_
    exact r_sub [1, 0] rfl (gj_X1_foldLine_23 E     _ _  _)
  · refine r_aload_n 1 rfl rfl 17 rfl dX1_foldLine_16 ?_
    refine r_iconst 4 (by decide) 18 rfl dX1_foldLine_17 ?_
    refine r_bipush 7 (by decide) 20 rfl dX1_foldLine_18 ?_
    refine r_calli (c_X1_number E   _ _ _) rfl sh_3 rfl ml_X1_118 cw_X1_number vw_X1_number (by decide) (Nat.le_of_ble_eq_true rfl) 23 rfl dX1_foldLine_20 (fun r11 σ11 => ?_)
    exact r_sub [1, 0] rfl (gj_X1_foldLine_23 E     _ _  _)
/-! HandMarket$Scribe.wedLine()Z -/
def f_X1_wedLine   (σ : k_Mem) : Option (Int32 × k_Mem) :=
  k_bd (f_X1_number  0 3 σ) (fun r1 σ1 =>
    if r1 = (-1) then (
      some (0, σ1)
    ) else (
      k_bd (f_X5_isWed 38 r1 σ1) (fun r3 σ3 =>
        if r3 = 0 then (
          k_bd (f_X1_number  4 7 σ3) (fun r5 σ5 =>
            if r5 = (-1) then (
              some (0, σ5)
            ) else (
              k_bd (f_X5_isWed 38 r5 σ5) (fun r7 σ7 =>
                if r7 = 0 then (
                  k_bd (f_X5_join 38 r1 r5 σ7) (fun _ σ9 =>
                    k_bd (f_X1_follows  3 σ9) (fun r10 σ10 =>
                      if r10 = 0 ∨ r10 = 1 then some (r10, σ10) else none
                    )
                  )
                ) else (
                  k_bd (f_X1_refuse  4 σ7) (fun r12 σ12 =>
                    if r12 = 0 ∨ r12 = 1 then some (r12, σ12) else none
                  )
                )
              )
            )
          )
        ) else (
          k_bd (f_X1_refuse  4 σ3) (fun r14 σ14 =>
            if r14 = 0 ∨ r14 = 1 then some (r14, σ14) else none
          )
        )
      )
    )
  )
set_option maxRecDepth 100000 in
theorem c_X1_wedLine (E : k_EV)    (σ : k_Mem) : k_MC m_X1_wedLine E k_vi [k_rf E 3] σ (f_X1_wedLine  σ) := by
  refine k_MC_of ⟨by decide, by decide⟩ (Nat.le_of_ble_eq_true rfl) ?_
  show k_GO _ _ _ 0 [(0, k_rf E 3)] [] σ _
  unfold f_X1_wedLine
  refine r_aload_n 0 rfl rfl 1 rfl dX1_wedLine_0 ?_
  refine r_iconst 0 (by decide) 2 rfl dX1_wedLine_1 ?_
  refine r_iconst 3 (by decide) 3 rfl dX1_wedLine_2 ?_
  refine r_calli (c_X1_number E   _ _ _) rfl sh_3 rfl ml_X1_118 cw_X1_number vw_X1_number (by decide) (Nat.le_of_ble_eq_true rfl) 6 rfl dX1_wedLine_3 (fun r1 σ1 => ?_)
  refine r_istore_n [(1, .int _), (0, k_rf E 3)] rfl rfl (by decide) 7 rfl dX1_wedLine_6 ?_
  refine r_iload_n 0 rfl rfl 8 rfl dX1_wedLine_7 ?_
  refine r_iconst (-1) (by decide) 9 rfl dX1_wedLine_8 ?_
  refine r_icmp_ne 14 12 rfl (by decide) dX1_wedLine_9 (fun c2 => ?_) (fun c2 => ?_)
  · refine r_iconst 0 (by decide) 13 rfl dX1_wedLine_12 ?_
    exact r_zret rfl (Or.inl rfl) dX1_wedLine_13
  · refine r_aload_n 1 rfl rfl 15 rfl dX1_wedLine_14 ?_
    refine r_getr fl_X1_12 sh_3 rfl 18 rfl dX1_wedLine_15 ?_
    refine r_iload_n 0 rfl rfl 19 rfl dX1_wedLine_18 ?_
    refine r_calli (c_X5_isWed E 38 tw_38 _ _) rfl sh_38 rfl ml_X1_144 cw_X5_isWed vw_X5_isWed (by decide) (Nat.le_of_ble_eq_true rfl) 22 rfl dX1_wedLine_19 (fun r3 σ3 => ?_)
    refine r_if_eq 31 25 rfl (by decide) dX1_wedLine_22 (fun c4 => ?_) (fun c4 => ?_)
    · refine r_aload_n 1 rfl rfl 32 rfl dX1_wedLine_31 ?_
      refine r_iconst 4 (by decide) 33 rfl dX1_wedLine_32 ?_
      refine r_bipush 7 (by decide) 35 rfl dX1_wedLine_33 ?_
      refine r_calli (c_X1_number E   _ _ _) rfl sh_3 rfl ml_X1_118 cw_X1_number vw_X1_number (by decide) (Nat.le_of_ble_eq_true rfl) 38 rfl dX1_wedLine_35 (fun r5 σ5 => ?_)
      refine r_istore_n [(2, .int _), (1, .int _), (0, k_rf E 3)] rfl rfl (by decide) 39 rfl dX1_wedLine_38 ?_
      refine r_iload_n 0 rfl rfl 40 rfl dX1_wedLine_39 ?_
      refine r_iconst (-1) (by decide) 41 rfl dX1_wedLine_40 ?_
      refine r_icmp_ne 46 44 rfl (by decide) dX1_wedLine_41 (fun c6 => ?_) (fun c6 => ?_)
      · refine r_iconst 0 (by decide) 45 rfl dX1_wedLine_44 ?_
        exact r_zret rfl (Or.inl rfl) dX1_wedLine_45
      · refine r_aload_n 2 rfl rfl 47 rfl dX1_wedLine_46 ?_
        refine r_getr fl_X1_12 sh_3 rfl 50 rfl dX1_wedLine_47 ?_
        refine r_iload_n 0 rfl rfl 51 rfl dX1_wedLine_50 ?_
        refine r_calli (c_X5_isWed E 38 tw_38 _ _) rfl sh_38 rfl ml_X1_144 cw_X5_isWed vw_X5_isWed (by decide) (Nat.le_of_ble_eq_true rfl) 54 rfl dX1_wedLine_51 (fun r7 σ7 => ?_)
        refine r_if_eq 63 57 rfl (by decide) dX1_wedLine_54 (fun c8 => ?_) (fun c8 => ?_)
        · refine r_aload_n 2 rfl rfl 64 rfl dX1_wedLine_63 ?_
          refine r_getr fl_X1_12 sh_3 rfl 67 rfl dX1_wedLine_64 ?_
          refine r_iload_n 1 rfl rfl 68 rfl dX1_wedLine_67 ?_
          refine r_iload_n 0 rfl rfl 69 rfl dX1_wedLine_68 ?_
          refine r_callv (c_X5_join E 38 tw_38 _ _ _) rfl sh_38 rfl ml_X1_147 cw_X5_join vw_X5_join (by decide) (Nat.le_of_ble_eq_true rfl) 72 rfl dX1_wedLine_69 (fun _ σ9 => ?_)
          refine r_aload_n 2 rfl rfl 73 rfl dX1_wedLine_72 ?_
          refine r_iconst 3 (by decide) 74 rfl dX1_wedLine_73 ?_
          refine r_calli (c_X1_follows E   _ _) rfl sh_3 rfl ml_X1_108 cw_X1_follows vw_X1_follows (by decide) (Nat.le_of_ble_eq_true rfl) 77 rfl dX1_wedLine_74 (fun r10 σ10 => ?_)
          refine r_grd (fun c11 => ?_)
          exact r_zret rfl c11 dX1_wedLine_77
        · refine r_aload_n 2 rfl rfl 58 rfl dX1_wedLine_57 ?_
          refine r_iconst 4 (by decide) 59 rfl dX1_wedLine_58 ?_
          refine r_calli (c_X1_refuse E   _ _) rfl sh_3 rfl ml_X1_97 cw_X1_refuse vw_X1_refuse (by decide) (Nat.le_of_ble_eq_true rfl) 62 rfl dX1_wedLine_59 (fun r12 σ12 => ?_)
          refine r_grd (fun c13 => ?_)
          exact r_zret rfl c13 dX1_wedLine_62
    · refine r_aload_n 1 rfl rfl 26 rfl dX1_wedLine_25 ?_
      refine r_iconst 4 (by decide) 27 rfl dX1_wedLine_26 ?_
      refine r_calli (c_X1_refuse E   _ _) rfl sh_3 rfl ml_X1_97 cw_X1_refuse vw_X1_refuse (by decide) (Nat.le_of_ble_eq_true rfl) 30 rfl dX1_wedLine_27 (fun r14 σ14 => ?_)
      refine r_grd (fun c15 => ?_)
      exact r_zret rfl c15 dX1_wedLine_30
/-! HandMarket$Scribe.line()Z -/
def f_X1_line   (σ : k_Mem) : Option (Int32 × k_Mem) :=
  k_bd (f_X1_stands  1 σ) (fun r1 σ1 =>
    if r1 = 0 then (
      some (0, σ1)
    ) else (
      k_bd (f_X1_kindNamed   σ1) (fun r3 σ3 =>
        if r3 = (-1) then (
          k_bd (f_X4_spells 6  σ3) (fun r5 σ5 =>
            if r5 = 0 then (
              k_bd (f_X4_spells 7  σ5) (fun r7 σ7 =>
                if r7 = 0 then (
                  k_bd (f_X4_spells 8  σ7) (fun r9 σ9 =>
                    if r9 = 0 then (
                      k_bd (f_X4_spells 9  σ9) (fun r11 σ11 =>
                        if r11 = 0 then (
                          k_bd (f_X1_refuse  2 σ11) (fun r13 σ13 =>
                            if r13 = 0 ∨ r13 = 1 then some (r13, σ13) else none
                          )
                        ) else (
                          k_bd (f_X1_wedLine   σ11) (fun r15 σ15 =>
                            if r15 = 0 ∨ r15 = 1 then some (r15, σ15) else none
                          )
                        )
                      )
                    ) else (
                      k_bd (f_X1_foldLine   σ9) (fun r17 σ17 =>
                        if r17 = 0 ∨ r17 = 1 then some (r17, σ17) else none
                      )
                    )
                  )
                ) else (
                  k_bd (f_X1_runLine   σ7) (fun r19 σ19 =>
                    if r19 = 0 ∨ r19 = 1 then some (r19, σ19) else none
                  )
                )
              )
            ) else (
              k_bd (f_X1_penLine   σ5) (fun r21 σ21 =>
                if r21 = 0 ∨ r21 = 1 then some (r21, σ21) else none
              )
            )
          )
        ) else (
          k_bd (f_X1_handLine  r3 σ3) (fun r23 σ23 =>
            if r23 = 0 ∨ r23 = 1 then some (r23, σ23) else none
          )
        )
      )
    )
  )
set_option maxRecDepth 100000 in
theorem c_X1_line (E : k_EV)    (σ : k_Mem) : k_MC m_X1_line E k_vi [k_rf E 3] σ (f_X1_line  σ) := by
  refine k_MC_of ⟨by decide, by decide⟩ (Nat.le_of_ble_eq_true rfl) ?_
  show k_GO _ _ _ 0 [(0, k_rf E 3)] [] σ _
  unfold f_X1_line
  refine r_aload_n 0 rfl rfl 1 rfl dX1_line_0 ?_
  refine r_iconst 1 (by decide) 2 rfl dX1_line_1 ?_
  refine r_calli (c_X1_stands E   _ _) rfl sh_3 rfl ml_X1_63 cw_X1_stands vw_X1_stands (by decide) (Nat.le_of_ble_eq_true rfl) 5 rfl dX1_line_2 (fun r1 σ1 => ?_)
  refine r_if_ne 10 8 rfl (by decide) dX1_line_5 (fun c2 => ?_) (fun c2 => ?_)
  · refine r_iconst 0 (by decide) 9 rfl dX1_line_8 ?_
    exact r_zret rfl (Or.inl rfl) dX1_line_9
  · refine r_aload_n 0 rfl rfl 11 rfl dX1_line_10 ?_
    refine r_calli (c_X1_kindNamed E    _) rfl sh_3 rfl ml_X1_67 cw_X1_kindNamed vw_X1_kindNamed (by decide) (Nat.le_of_ble_eq_true rfl) 14 rfl dX1_line_11 (fun r3 σ3 => ?_)
    refine r_istore_n [(1, .int _), (0, k_rf E 3)] rfl rfl (by decide) 15 rfl dX1_line_14 ?_
    refine r_iload_n 0 rfl rfl 16 rfl dX1_line_15 ?_
    refine r_iconst (-1) (by decide) 17 rfl dX1_line_16 ?_
    refine r_icmp_eq 26 20 rfl (by decide) dX1_line_17 (fun c4 => ?_) (fun c4 => ?_)
    · refine r_aload_n 1 rfl rfl 27 rfl dX1_line_26 ?_
      refine r_getr fl_X1_18 sh_3 rfl 30 rfl dX1_line_27 ?_
      refine r_ldcs (tx := "pen") 6 (by decide) rfl 32 rfl dX1_line_30 ?_
      refine r_calli (c_X4_spells E 6 (by decide)  _) rfl sh_1 rfl ml_X1_75 cw_X4_spells vw_X4_spells (by decide) (Nat.le_of_ble_eq_true rfl) 35 rfl dX1_line_32 (fun r5 σ5 => ?_)
      refine r_if_eq 43 38 rfl (by decide) dX1_line_35 (fun c6 => ?_) (fun c6 => ?_)
      · refine r_aload_n 1 rfl rfl 44 rfl dX1_line_43 ?_
        refine r_getr fl_X1_18 sh_3 rfl 47 rfl dX1_line_44 ?_
        refine r_ldcs (tx := "run") 7 (by decide) rfl 49 rfl dX1_line_47 ?_
        refine r_calli (c_X4_spells E 7 (by decide)  _) rfl sh_1 rfl ml_X1_75 cw_X4_spells vw_X4_spells (by decide) (Nat.le_of_ble_eq_true rfl) 52 rfl dX1_line_49 (fun r7 σ7 => ?_)
        refine r_if_eq 60 55 rfl (by decide) dX1_line_52 (fun c8 => ?_) (fun c8 => ?_)
        · refine r_aload_n 1 rfl rfl 61 rfl dX1_line_60 ?_
          refine r_getr fl_X1_18 sh_3 rfl 64 rfl dX1_line_61 ?_
          refine r_ldcs (tx := "fold") 8 (by decide) rfl 66 rfl dX1_line_64 ?_
          refine r_calli (c_X4_spells E 8 (by decide)  _) rfl sh_1 rfl ml_X1_75 cw_X4_spells vw_X4_spells (by decide) (Nat.le_of_ble_eq_true rfl) 69 rfl dX1_line_66 (fun r9 σ9 => ?_)
          refine r_if_eq 77 72 rfl (by decide) dX1_line_69 (fun c10 => ?_) (fun c10 => ?_)
          · refine r_aload_n 1 rfl rfl 78 rfl dX1_line_77 ?_
            refine r_getr fl_X1_18 sh_3 rfl 81 rfl dX1_line_78 ?_
            refine r_ldcs (tx := "wed") 9 (by decide) rfl 83 rfl dX1_line_81 ?_
            refine r_calli (c_X4_spells E 9 (by decide)  _) rfl sh_1 rfl ml_X1_75 cw_X4_spells vw_X4_spells (by decide) (Nat.le_of_ble_eq_true rfl) 86 rfl dX1_line_83 (fun r11 σ11 => ?_)
            refine r_if_eq 96 89 rfl (by decide) dX1_line_86 (fun c12 => ?_) (fun c12 => ?_)
            · refine r_aload_n 1 rfl rfl 97 rfl dX1_line_96 ?_
              refine r_iconst 2 (by decide) 98 rfl dX1_line_97 ?_
              refine r_calli (c_X1_refuse E   _ _) rfl sh_3 rfl ml_X1_97 cw_X1_refuse vw_X1_refuse (by decide) (Nat.le_of_ble_eq_true rfl) 101 rfl dX1_line_98 (fun r13 σ13 => ?_)
              refine r_grd (fun c14 => ?_)
              exact r_zret rfl c14 dX1_line_101
            · refine r_aload_n 1 rfl rfl 90 rfl dX1_line_89 ?_
              refine r_calli (c_X1_wedLine E    _) rfl sh_3 rfl ml_X1_94 cw_X1_wedLine vw_X1_wedLine (by decide) (Nat.le_of_ble_eq_true rfl) 93 rfl dX1_line_90 (fun r15 σ15 => ?_)
              refine r_goto 101 (by decide) dX1_line_93 ?_
              refine r_grd (fun c16 => ?_)
              exact r_zret rfl c16 dX1_line_101
          · refine r_aload_n 1 rfl rfl 73 rfl dX1_line_72 ?_
            refine r_calli (c_X1_foldLine E    _) rfl sh_3 rfl ml_X1_89 cw_X1_foldLine vw_X1_foldLine (by decide) (Nat.le_of_ble_eq_true rfl) 76 rfl dX1_line_73 (fun r17 σ17 => ?_)
            refine r_grd (fun c18 => ?_)
            exact r_zret rfl c18 dX1_line_76
        · refine r_aload_n 1 rfl rfl 56 rfl dX1_line_55 ?_
          refine r_calli (c_X1_runLine E    _) rfl sh_3 rfl ml_X1_84 cw_X1_runLine vw_X1_runLine (by decide) (Nat.le_of_ble_eq_true rfl) 59 rfl dX1_line_56 (fun r19 σ19 => ?_)
          refine r_grd (fun c20 => ?_)
          exact r_zret rfl c20 dX1_line_59
      · refine r_aload_n 1 rfl rfl 39 rfl dX1_line_38 ?_
        refine r_calli (c_X1_penLine E    _) rfl sh_3 rfl ml_X1_79 cw_X1_penLine vw_X1_penLine (by decide) (Nat.le_of_ble_eq_true rfl) 42 rfl dX1_line_39 (fun r21 σ21 => ?_)
        refine r_grd (fun c22 => ?_)
        exact r_zret rfl c22 dX1_line_42
    · refine r_aload_n 1 rfl rfl 21 rfl dX1_line_20 ?_
      refine r_iload_n 0 rfl rfl 22 rfl dX1_line_21 ?_
      refine r_calli (c_X1_handLine E   _ _) rfl sh_3 rfl ml_X1_70 cw_X1_handLine vw_X1_handLine (by decide) (Nat.le_of_ble_eq_true rfl) 25 rfl dX1_line_22 (fun r23 σ23 => ?_)
      refine r_grd (fun c24 => ?_)
      exact r_zret rfl c24 dX1_line_25
/-! HandMarket$Scribe.namedBits()I -/
def j_X1_namedBits_67  (k23 : Int32 → Int32 → k_Mem → Option (Int32 × k_Mem)) (x1 : Int32) (x2 : Int32) (σ : k_Mem) : Option (Int32 × k_Mem) :=
  k23 x1 (x2 + 1) σ
set_option maxRecDepth 100000 in
theorem gj_X1_namedBits_67 (E : k_EV)   (k23 : Int32 → Int32 → k_Mem → Option (Int32 × k_Mem)) (hk23 : ∀ (x1 : Int32) (x2 : Int32)  (σ : k_Mem), k_GO m_X1_namedBits E k_vi 23 [(0, k_rf E 3), (1, .int x1), (2, .int x2)] [] σ (k23 x1 x2 σ)) (x1 : Int32) (x2 : Int32)  (σ : k_Mem) : k_GO m_X1_namedBits E k_vi 67 [(0, k_rf E 3), (1, .int x1), (2, .int x2)] [] σ (j_X1_namedBits_67  k23 x1 x2 σ) := by
  unfold j_X1_namedBits_67
  refine r_iinc 1 (by decide) 2 rfl [(2, .int _), (0, k_rf E 3), (1, .int _)] rfl (by decide) 70 rfl dX1_namedBits_67 ?_
  refine r_goto 23 (by decide) dX1_namedBits_70 ?_
  exact r_sub [1, 2, 0] rfl (hk23 _ _  _)
def l_X1_namedBits_23   : Nat → Int32 → Int32 → k_Mem → Option (Int32 × k_Mem)
  | 0, _, _, _ => none
  | n + 1, x1, x2, σ =>
    if 8 ≤ x2 then (
      some (x1, σ)
    ) else (
      if k_in x2 8 then (
        if ((k_shr (σ 3 5) x2) &&& 1) = 1 then (
          if k_in x2 8 then (
            j_X1_namedBits_67  (fun x1 x2 σ => l_X1_namedBits_23   n x1 x2 σ) ((x1 ||| (σ 45 (k_n x2))) ||| (k_shl 1 (σ 43 (k_n x2)))) x2 σ
          ) else none
        ) else (
          j_X1_namedBits_67  (fun x1 x2 σ => l_X1_namedBits_23   n x1 x2 σ) (x1 ||| (σ 45 (k_n x2))) x2 σ
        )
      ) else none
    )
set_option maxRecDepth 100000 in
theorem gl_X1_namedBits_23 (E : k_EV)     : ∀ (n : Nat) (x1 : Int32) (x2 : Int32)  (σ : k_Mem), k_GO m_X1_namedBits E k_vi 23 [(0, k_rf E 3), (1, .int x1), (2, .int x2)] [] σ (l_X1_namedBits_23   n x1 x2 σ) := by
  intro n
  induction n with
  | zero => intro x1 x2  σ; exact r_none
  | succ n ih =>
    intro x1 x2  σ
    rw [l_X1_namedBits_23]
    refine r_iload_n 2 rfl rfl 24 rfl dX1_namedBits_23 ?_
    refine r_bipush 8 (by decide) 26 rfl dX1_namedBits_24 ?_
    refine r_icmp_ge 73 29 rfl (by decide) dX1_namedBits_26 (fun c2 => ?_) (fun c2 => ?_)
    · refine r_iload_n 1 rfl rfl 74 rfl dX1_namedBits_73 ?_
      exact r_iret rfl dX1_namedBits_74
    · refine r_iload_n 1 rfl rfl 30 rfl dX1_namedBits_29 ?_
      refine r_aload_n 0 rfl rfl 31 rfl dX1_namedBits_30 ?_
      refine r_getr fl_X1_12 sh_3 rfl 34 rfl dX1_namedBits_31 ?_
      refine r_getr fl_X1_157 sh_38 rfl 37 rfl dX1_namedBits_34 ?_
      refine r_iload_n 2 rfl rfl 38 rfl dX1_namedBits_37 ?_
      refine r_iald sh_45 39 rfl dX1_namedBits_38 ?_
      refine r_ior 40 rfl dX1_namedBits_39 ?_
      refine r_istore_n [(1, .int _), (0, k_rf E 3), (2, .int _)] rfl rfl (by decide) 41 rfl dX1_namedBits_40 ?_
      refine r_aload_n 1 rfl rfl 42 rfl dX1_namedBits_41 ?_
      refine r_geti fl_X1_35 sh_3 rfl 45 rfl dX1_namedBits_42 ?_
      refine r_iload_n 2 rfl rfl 46 rfl dX1_namedBits_45 ?_
      refine r_ishr 47 rfl dX1_namedBits_46 ?_
      refine r_iconst 1 (by decide) 48 rfl dX1_namedBits_47 ?_
      refine r_iand 49 rfl dX1_namedBits_48 ?_
      refine r_iconst 1 (by decide) 50 rfl dX1_namedBits_49 ?_
      refine r_icmp_ne 67 53 rfl (by decide) dX1_namedBits_50 (fun c3 => ?_) (fun c3 => ?_)
      · refine r_iload_n 0 rfl rfl 54 rfl dX1_namedBits_53 ?_
        refine r_iconst 1 (by decide) 55 rfl dX1_namedBits_54 ?_
        refine r_aload_n 1 rfl rfl 56 rfl dX1_namedBits_55 ?_
        refine r_getr fl_X1_12 sh_3 rfl 59 rfl dX1_namedBits_56 ?_
        refine r_getr fl_X1_126 sh_38 rfl 62 rfl dX1_namedBits_59 ?_
        refine r_iload_n 2 rfl rfl 63 rfl dX1_namedBits_62 ?_
        refine r_iald sh_43 64 rfl dX1_namedBits_63 ?_
        refine r_ishl 65 rfl dX1_namedBits_64 ?_
        refine r_ior 66 rfl dX1_namedBits_65 ?_
        refine r_istore_n [(1, .int _), (0, k_rf E 3), (2, .int _)] rfl rfl (by decide) 67 rfl dX1_namedBits_66 ?_
        exact r_sub [1, 0, 2] rfl (gj_X1_namedBits_67 E   _ (fun x1 x2  σ => ih x1 x2  σ) _ _  _)
      · exact r_sub [1, 0, 2] rfl (gj_X1_namedBits_67 E   _ (fun x1 x2  σ => ih x1 x2  σ) _ _  _)
def f_X1_namedBits   (σ : k_Mem) : Option (Int32 × k_Mem) :=
  k_bd (f_X5_wedBits 38  σ) (fun r1 σ1 =>
    l_X1_namedBits_23   1000 (((σ 3 5) ||| (σ 38 9)) ||| r1) 0 σ1
  )
set_option maxRecDepth 100000 in
theorem c_X1_namedBits (E : k_EV)    (σ : k_Mem) : k_MC m_X1_namedBits E k_vi [k_rf E 3] σ (f_X1_namedBits  σ) := by
  refine k_MC_of ⟨by decide, by decide⟩ (Nat.le_of_ble_eq_true rfl) ?_
  show k_GO _ _ _ 0 [(0, k_rf E 3)] [] σ _
  unfold f_X1_namedBits
  refine r_aload_n 0 rfl rfl 1 rfl dX1_namedBits_0 ?_
  refine r_geti fl_X1_35 sh_3 rfl 4 rfl dX1_namedBits_1 ?_
  refine r_aload_n 0 rfl rfl 5 rfl dX1_namedBits_4 ?_
  refine r_getr fl_X1_12 sh_3 rfl 8 rfl dX1_namedBits_5 ?_
  refine r_geti fl_X1_151 sh_38 rfl 11 rfl dX1_namedBits_8 ?_
  refine r_ior 12 rfl dX1_namedBits_11 ?_
  refine r_aload_n 0 rfl rfl 13 rfl dX1_namedBits_12 ?_
  refine r_getr fl_X1_12 sh_3 rfl 16 rfl dX1_namedBits_13 ?_
  refine r_calli (c_X5_wedBits E 38 tw_38  _) rfl sh_38 rfl ml_X1_154 cw_X5_wedBits vw_X5_wedBits (by decide) (Nat.le_of_ble_eq_true rfl) 19 rfl dX1_namedBits_16 (fun r1 σ1 => ?_)
  refine r_ior 20 rfl dX1_namedBits_19 ?_
  refine r_istore_n [(1, .int _), (0, k_rf E 3)] rfl rfl (by decide) 21 rfl dX1_namedBits_20 ?_
  refine r_iconst 0 (by decide) 22 rfl dX1_namedBits_21 ?_
  refine r_istore_n [(2, .int _), (1, .int _), (0, k_rf E 3)] rfl rfl (by decide) 23 rfl dX1_namedBits_22 ?_
  exact r_sub [2, 1, 0] rfl (gl_X1_namedBits_23 E     1000 _ _  _)
/-! HandMarket$Scribe.parse()V -/
def j_X1_parse_90    (σ : k_Mem) : Option (Unit × k_Mem) :=
  if (σ 3 2) = 0 then (
    k_bd (f_X1_namedBits   σ) (fun r6 σ6 =>
      k_bd (f_X5_handBits 38  σ6) (fun r7 σ7 =>
        if (r6 &&& (r7 ^^^ (-1))) = 0 then (
          some ((), σ7)
        ) else (
          some ((), (k_mset (k_mset σ7 3 2 6) 3 3 ((k_mset σ7 3 2 6) 1 1)))
        )
      )
    )
  ) else (
    some ((), σ)
  )
set_option maxRecDepth 100000 in
theorem gj_X1_parse_90 (E : k_EV)       (σ : k_Mem) : k_GO m_X1_parse E k_vv 90 [(0, k_rf E 3)] [] σ (j_X1_parse_90    σ) := by
  unfold j_X1_parse_90
  refine r_aload_n 0 rfl rfl 91 rfl dX1_parse_90 ?_
  refine r_geti fl_X1_25 sh_3 rfl 94 rfl dX1_parse_91 ?_
  refine r_if_ne 131 97 rfl (by decide) dX1_parse_94 (fun c5 => ?_) (fun c5 => ?_)
  · refine r_aload_n 0 rfl rfl 98 rfl dX1_parse_97 ?_
    refine r_calli (c_X1_namedBits E    _) rfl sh_3 rfl ml_X1_53 cw_X1_namedBits vw_X1_namedBits (by decide) (Nat.le_of_ble_eq_true rfl) 101 rfl dX1_parse_98 (fun r6 σ6 => ?_)
    refine r_aload_n 0 rfl rfl 102 rfl dX1_parse_101 ?_
    refine r_getr fl_X1_12 sh_3 rfl 105 rfl dX1_parse_102 ?_
    refine r_calli (c_X5_handBits E 38 tw_38  _) rfl sh_38 rfl ml_X1_57 cw_X5_handBits vw_X5_handBits (by decide) (Nat.le_of_ble_eq_true rfl) 108 rfl dX1_parse_105 (fun r7 σ7 => ?_)
    refine r_iconst (-1) (by decide) 109 rfl dX1_parse_108 ?_
    refine r_ixor 110 rfl dX1_parse_109 ?_
    refine r_iand 111 rfl dX1_parse_110 ?_
    refine r_if_eq 131 114 rfl (by decide) dX1_parse_111 (fun c8 => ?_) (fun c8 => ?_)
    · exact r_vret rfl dX1_parse_131
    · refine r_aload_n 0 rfl rfl 115 rfl dX1_parse_114 ?_
      refine r_bipush 6 (by decide) 117 rfl dX1_parse_115 ?_
      refine r_puti fp_X1_25 sh_3 rfl 120 rfl dX1_parse_117 ?_
      refine r_aload_n 0 rfl rfl 121 rfl dX1_parse_120 ?_
      refine r_aload_n 0 rfl rfl 122 rfl dX1_parse_121 ?_
      refine r_getr fl_X1_18 sh_3 rfl 125 rfl dX1_parse_122 ?_
      refine r_geti fl_X1_60 sh_1 rfl 128 rfl dX1_parse_125 ?_
      refine r_puti fp_X1_29 sh_3 rfl 131 rfl dX1_parse_128 ?_
      exact r_vret rfl dX1_parse_131
  · exact r_vret rfl dX1_parse_131
def l_X1_parse_43   : Nat → Int32 → k_Mem → Option (Unit × k_Mem)
  | 0, _, _ => none
  | n + 1, x1, σ =>
    if 160 ≤ x1 then (
      j_X1_parse_90    σ
    ) else (
      if (σ 1 2) = 0 then (
        j_X1_parse_90    σ
      ) else (
        k_bd (f_X1_line   σ) (fun r10 σ10 =>
          if r10 = 0 then (
            j_X1_parse_90    σ10
          ) else (
            k_bd (f_X4_advance   (k_mset σ10 3 4 ((σ10 3 4) + 1))) (fun _ σ12 =>
              l_X1_parse_43   n (x1 + 1) σ12
            )
          )
        )
      )
    )
set_option maxRecDepth 100000 in
theorem gl_X1_parse_43 (E : k_EV)     : ∀ (n : Nat) (x1 : Int32)  (σ : k_Mem), k_GO m_X1_parse E k_vv 43 [(0, k_rf E 3), (1, .int x1)] [] σ (l_X1_parse_43   n x1 σ) := by
  intro n
  induction n with
  | zero => intro x1  σ; exact r_none
  | succ n ih =>
    intro x1  σ
    rw [l_X1_parse_43]
    refine r_iload_n 1 rfl rfl 44 rfl dX1_parse_43 ?_
    refine r_sipush 160 (by decide) 47 rfl dX1_parse_44 ?_
    refine r_icmp_ge 90 50 rfl (by decide) dX1_parse_47 (fun c4 => ?_) (fun c4 => ?_)
    · exact r_sub [0] rfl (gj_X1_parse_90 E       _)
    · refine r_aload_n 0 rfl rfl 51 rfl dX1_parse_50 ?_
      refine r_getr fl_X1_18 sh_3 rfl 54 rfl dX1_parse_51 ?_
      refine r_geti fl_X1_46 sh_1 rfl 57 rfl dX1_parse_54 ?_
      refine r_if_eq 90 60 rfl (by decide) dX1_parse_57 (fun c9 => ?_) (fun c9 => ?_)
      · exact r_sub [0] rfl (gj_X1_parse_90 E       _)
      · refine r_aload_n 0 rfl rfl 61 rfl dX1_parse_60 ?_
        refine r_calli (c_X1_line E    _) rfl sh_3 rfl ml_X1_49 cw_X1_line vw_X1_line (by decide) (Nat.le_of_ble_eq_true rfl) 64 rfl dX1_parse_61 (fun r10 σ10 => ?_)
        refine r_if_eq 90 67 rfl (by decide) dX1_parse_64 (fun c11 => ?_) (fun c11 => ?_)
        · exact r_sub [0] rfl (gj_X1_parse_90 E       _)
        · refine r_aload_n 0 rfl rfl 68 rfl dX1_parse_67 ?_
          refine r_dup 69 rfl dX1_parse_68 rfl ?_
          refine r_geti fl_X1_32 sh_3 rfl 72 rfl dX1_parse_69 ?_
          refine r_iconst 1 (by decide) 73 rfl dX1_parse_72 ?_
          refine r_iadd 74 rfl dX1_parse_73 ?_
          refine r_puti fp_X1_32 sh_3 rfl 77 rfl dX1_parse_74 ?_
          refine r_aload_n 0 rfl rfl 78 rfl dX1_parse_77 ?_
          refine r_getr fl_X1_18 sh_3 rfl 81 rfl dX1_parse_78 ?_
          refine r_callv (c_X4_advance E    _) rfl sh_1 rfl ml_X1_43 cw_X4_advance vw_X4_advance (by decide) (Nat.le_of_ble_eq_true rfl) 84 rfl dX1_parse_81 (fun _ σ12 => ?_)
          refine r_iinc 1 (by decide) 1 rfl [(1, .int _), (0, k_rf E 3)] rfl (by decide) 87 rfl dX1_parse_84 ?_
          refine r_goto 43 (by decide) dX1_parse_87 ?_
          exact r_sub [1, 0] rfl (ih _  _)
def f_X1_parse   (σ : k_Mem) : Option (Unit × k_Mem) :=
  k_bd (f_X5_clear 38  σ) (fun _ σ1 =>
    k_bd (f_X4_rewind   (k_mset (k_mset (k_mset (k_mset σ1 3 2 0) 3 3 0) 3 4 0) 3 5 0)) (fun _ σ2 =>
      k_bd (f_X4_advance   σ2) (fun _ σ3 =>
        l_X1_parse_43   1000 0 σ3
      )
    )
  )
set_option maxRecDepth 100000 in
theorem c_X1_parse (E : k_EV)    (σ : k_Mem) : k_MC m_X1_parse E k_vv [k_rf E 3] σ (f_X1_parse  σ) := by
  refine k_MC_of ⟨by decide, by decide⟩ (Nat.le_of_ble_eq_true rfl) ?_
  show k_GO _ _ _ 0 [(0, k_rf E 3)] [] σ _
  unfold f_X1_parse
  refine r_aload_n 0 rfl rfl 1 rfl dX1_parse_0 ?_
  refine r_getr fl_X1_12 sh_3 rfl 4 rfl dX1_parse_1 ?_
  refine r_callv (c_X5_clear E 38 tw_38  _) rfl sh_38 rfl ml_X1_22 cw_X5_clear vw_X5_clear (by decide) (Nat.le_of_ble_eq_true rfl) 7 rfl dX1_parse_4 (fun _ σ1 => ?_)
  refine r_aload_n 0 rfl rfl 8 rfl dX1_parse_7 ?_
  refine r_iconst 0 (by decide) 9 rfl dX1_parse_8 ?_
  refine r_puti fp_X1_25 sh_3 rfl 12 rfl dX1_parse_9 ?_
  refine r_aload_n 0 rfl rfl 13 rfl dX1_parse_12 ?_
  refine r_iconst 0 (by decide) 14 rfl dX1_parse_13 ?_
  refine r_puti fp_X1_29 sh_3 rfl 17 rfl dX1_parse_14 ?_
  refine r_aload_n 0 rfl rfl 18 rfl dX1_parse_17 ?_
  refine r_iconst 0 (by decide) 19 rfl dX1_parse_18 ?_
  refine r_puti fp_X1_32 sh_3 rfl 22 rfl dX1_parse_19 ?_
  refine r_aload_n 0 rfl rfl 23 rfl dX1_parse_22 ?_
  refine r_iconst 0 (by decide) 24 rfl dX1_parse_23 ?_
  refine r_puti fp_X1_35 sh_3 rfl 27 rfl dX1_parse_24 ?_
  refine r_aload_n 0 rfl rfl 28 rfl dX1_parse_27 ?_
  refine r_getr fl_X1_18 sh_3 rfl 31 rfl dX1_parse_28 ?_
  refine r_callv (c_X4_rewind E    _) rfl sh_1 rfl ml_X1_38 cw_X4_rewind vw_X4_rewind (by decide) (Nat.le_of_ble_eq_true rfl) 34 rfl dX1_parse_31 (fun _ σ2 => ?_)
  refine r_aload_n 0 rfl rfl 35 rfl dX1_parse_34 ?_
  refine r_getr fl_X1_18 sh_3 rfl 38 rfl dX1_parse_35 ?_
  refine r_callv (c_X4_advance E    _) rfl sh_1 rfl ml_X1_43 cw_X4_advance vw_X4_advance (by decide) (Nat.le_of_ble_eq_true rfl) 41 rfl dX1_parse_38 (fun _ σ3 => ?_)
  refine r_iconst 0 (by decide) 42 rfl dX1_parse_41 ?_
  refine r_istore_n [(1, .int _), (0, k_rf E 3)] rfl rfl (by decide) 43 rfl dX1_parse_42 ?_
  exact r_sub [1, 0] rfl (gl_X1_parse_43 E     1000 _  _)
/-! HandMarket$Sightings.add(III)Z -/
def f_X3_add  (x1 : Int32) (x2 : Int32) (x3 : Int32) (σ : k_Mem) : Option (Int32 × k_Mem) :=
  if (σ 55 3) < 6 then (
    if k_in (σ 55 3) 6 then (
      if k_in ((k_mset σ 56 (k_n (σ 55 3)) x1) 55 3) 6 then (
        if k_in ((k_mset (k_mset σ 56 (k_n (σ 55 3)) x1) 57 (k_n ((k_mset σ 56 (k_n (σ 55 3)) x1) 55 3)) x2) 55 3) 6 then (
          k_ct (k_mset (k_mset (k_mset σ 56 (k_n (σ 55 3)) x1) 57 (k_n ((k_mset σ 56 (k_n (σ 55 3)) x1) 55 3)) x2) 58 (k_n ((k_mset (k_mset σ 56 (k_n (σ 55 3)) x1) 57 (k_n ((k_mset σ 56 (k_n (σ 55 3)) x1) 55 3)) x2) 55 3)) x3) (fun σ2 =>
            some (1, (k_mset σ2 55 3 ((σ2 55 3) + 1)))
          )
        ) else none
      ) else none
    ) else none
  ) else (
    some (0, σ)
  )
set_option maxRecDepth 100000 in
theorem c_X3_add (E : k_EV)   (x1 : Int32) (x2 : Int32) (x3 : Int32) (σ : k_Mem) : k_MC m_X3_add E k_vi [k_rf E 55, .int x1, .int x2, .int x3] σ (f_X3_add x1 x2 x3 σ) := by
  refine k_MC_of ⟨by decide, by decide⟩ (Nat.le_of_ble_eq_true rfl) ?_
  show k_GO _ _ _ 0 [(0, k_rf E 55), (1, .int x1), (2, .int x2), (3, .int x3)] [] σ _
  unfold f_X3_add
  refine r_aload_n 0 rfl rfl 1 rfl dX3_add_0 ?_
  refine r_geti fl_X3_19 sh_55 rfl 4 rfl dX3_add_1 ?_
  refine r_bipush 6 (by decide) 6 rfl dX3_add_4 ?_
  refine r_icmp_lt 11 9 rfl (by decide) dX3_add_6 (fun c1 => ?_) (fun c1 => ?_)
  · refine r_aload_n 0 rfl rfl 12 rfl dX3_add_11 ?_
    refine r_getr fl_X3_9 sh_55 rfl 15 rfl dX3_add_12 ?_
    refine r_aload_n 0 rfl rfl 16 rfl dX3_add_15 ?_
    refine r_geti fl_X3_19 sh_55 rfl 19 rfl dX3_add_16 ?_
    refine r_iload_n 1 rfl rfl 20 rfl dX3_add_19 ?_
    refine r_iast sh_56 21 rfl dX3_add_20 ?_
    refine r_aload_n 0 rfl rfl 22 rfl dX3_add_21 ?_
    refine r_getr fl_X3_13 sh_55 rfl 25 rfl dX3_add_22 ?_
    refine r_aload_n 0 rfl rfl 26 rfl dX3_add_25 ?_
    refine r_geti fl_X3_19 sh_55 rfl 29 rfl dX3_add_26 ?_
    refine r_iload_n 2 rfl rfl 30 rfl dX3_add_29 ?_
    refine r_iast sh_57 31 rfl dX3_add_30 ?_
    refine r_aload_n 0 rfl rfl 32 rfl dX3_add_31 ?_
    refine r_getr fl_X3_16 sh_55 rfl 35 rfl dX3_add_32 ?_
    refine r_aload_n 0 rfl rfl 36 rfl dX3_add_35 ?_
    refine r_geti fl_X3_19 sh_55 rfl 39 rfl dX3_add_36 ?_
    refine r_iload_n 3 rfl rfl 40 rfl dX3_add_39 ?_
    refine r_iast sh_58 41 rfl dX3_add_40 ?_
    refine r_ct ?_
    refine r_aload_n 0 rfl rfl 42 rfl dX3_add_41 ?_
    refine r_dup 43 rfl dX3_add_42 rfl ?_
    refine r_geti fl_X3_19 sh_55 rfl 46 rfl dX3_add_43 ?_
    refine r_iconst 1 (by decide) 47 rfl dX3_add_46 ?_
    refine r_iadd 48 rfl dX3_add_47 ?_
    refine r_puti fp_X3_19 sh_55 rfl 51 rfl dX3_add_48 ?_
    refine r_iconst 1 (by decide) 52 rfl dX3_add_51 ?_
    exact r_zret rfl (Or.inr rfl) dX3_add_52
  · refine r_iconst 0 (by decide) 10 rfl dX3_add_9 ?_
    exact r_zret rfl (Or.inl rfl) dX3_add_10
/-! HandMarket$Sightings.agreeWith(LHandMarket$Town;I)Z -/
def j_X3_agreeWith_42 (b1 : Nat) (k2 : Int32 → Int32 → k_Mem → Option (Int32 × k_Mem)) (x2 : Int32) (x3 : Int32) (σ : k_Mem) : Option (Int32 × k_Mem) :=
  k2 x2 (x3 + 1) σ
set_option maxRecDepth 100000 in
theorem gj_X3_agreeWith_42 (E : k_EV) (b1 : Nat) (hb1 : k_isT b1) (k2 : Int32 → Int32 → k_Mem → Option (Int32 × k_Mem)) (hk2 : ∀ (x2 : Int32) (x3 : Int32)  (σ : k_Mem), k_GO m_X3_agreeWith E k_vi 2 [(0, k_rf E 55), (1, k_rf E b1), (2, .int x2), (3, .int x3)] [] σ (k2 x2 x3 σ)) (x2 : Int32) (x3 : Int32)  (σ : k_Mem) : k_GO m_X3_agreeWith E k_vi 42 [(0, k_rf E 55), (1, k_rf E b1), (2, .int x2), (3, .int x3)] [] σ (j_X3_agreeWith_42 b1 k2 x2 x3 σ) := by
  unfold j_X3_agreeWith_42
  refine r_iinc 1 (by decide) 3 rfl [(3, .int _), (0, k_rf E 55), (1, k_rf E b1), (2, .int _)] rfl (by decide) 45 rfl dX3_agreeWith_42 ?_
  refine r_goto 2 (by decide) dX3_agreeWith_45 ?_
  exact r_sub [1, 2, 3, 0] rfl (hk2 _ _  _)
def l_X3_agreeWith_2 (b1 : Nat)  : Nat → Int32 → Int32 → k_Mem → Option (Int32 × k_Mem)
  | 0, _, _, _ => none
  | n + 1, x2, x3, σ =>
    if (σ 55 3) ≤ x3 then (
      some (1, σ)
    ) else (
      if k_in x3 6 then (
        if (σ 56 (k_n x3)) = x2 then (
          if k_in x3 6 then (
            k_bd (f_X5_shows b1 x2 (σ 57 (k_n x3)) σ) (fun r3 σ3 =>
              if k_in x3 6 then (
                if r3 = (σ3 58 (k_n x3)) then (
                  j_X3_agreeWith_42 b1 (fun x2 x3 σ => l_X3_agreeWith_2 b1  n x2 x3 σ) x2 x3 σ3
                ) else (
                  some (0, σ3)
                )
              ) else none
            )
          ) else none
        ) else (
          j_X3_agreeWith_42 b1 (fun x2 x3 σ => l_X3_agreeWith_2 b1  n x2 x3 σ) x2 x3 σ
        )
      ) else none
    )
set_option maxRecDepth 100000 in
theorem gl_X3_agreeWith_2 (E : k_EV) (b1 : Nat) (hb1 : k_isT b1)   : ∀ (n : Nat) (x2 : Int32) (x3 : Int32)  (σ : k_Mem), k_GO m_X3_agreeWith E k_vi 2 [(0, k_rf E 55), (1, k_rf E b1), (2, .int x2), (3, .int x3)] [] σ (l_X3_agreeWith_2 b1  n x2 x3 σ) := by
  intro n
  induction n with
  | zero => intro x2 x3  σ; exact r_none
  | succ n ih =>
    intro x2 x3  σ
    rw [l_X3_agreeWith_2]
    refine r_iload_n 3 rfl rfl 3 rfl dX3_agreeWith_2 ?_
    refine r_aload_n 0 rfl rfl 4 rfl dX3_agreeWith_3 ?_
    refine r_geti fl_X3_19 sh_55 rfl 7 rfl dX3_agreeWith_4 ?_
    refine r_icmp_ge 48 10 rfl (by decide) dX3_agreeWith_7 (fun c1 => ?_) (fun c1 => ?_)
    · refine r_iconst 1 (by decide) 49 rfl dX3_agreeWith_48 ?_
      exact r_zret rfl (Or.inr rfl) dX3_agreeWith_49
    · refine r_aload_n 0 rfl rfl 11 rfl dX3_agreeWith_10 ?_
      refine r_getr fl_X3_9 sh_55 rfl 14 rfl dX3_agreeWith_11 ?_
      refine r_iload_n 3 rfl rfl 15 rfl dX3_agreeWith_14 ?_
      refine r_iald sh_56 16 rfl dX3_agreeWith_15 ?_
      refine r_iload_n 2 rfl rfl 17 rfl dX3_agreeWith_16 ?_
      refine r_icmp_ne 42 20 rfl (by decide) dX3_agreeWith_17 (fun c2 => ?_) (fun c2 => ?_)
      · refine r_aload_n 1 rfl rfl 21 rfl dX3_agreeWith_20 ?_
        refine r_iload_n 2 rfl rfl 22 rfl dX3_agreeWith_21 ?_
        refine r_aload_n 0 rfl rfl 23 rfl dX3_agreeWith_22 ?_
        refine r_getr fl_X3_13 sh_55 rfl 26 rfl dX3_agreeWith_23 ?_
        refine r_iload_n 3 rfl rfl 27 rfl dX3_agreeWith_26 ?_
        refine r_iald sh_57 28 rfl dX3_agreeWith_27 ?_
        refine r_calli (c_X5_shows E b1 hb1 _ _ _) rfl hb1.1 rfl ml_X3_23 cw_X5_shows vw_X5_shows (by decide) (Nat.le_of_ble_eq_true rfl) 31 rfl dX3_agreeWith_28 (fun r3 σ3 => ?_)
        refine r_aload_n 0 rfl rfl 32 rfl dX3_agreeWith_31 ?_
        refine r_getr fl_X3_16 sh_55 rfl 35 rfl dX3_agreeWith_32 ?_
        refine r_iload_n 3 rfl rfl 36 rfl dX3_agreeWith_35 ?_
        refine r_iald sh_58 37 rfl dX3_agreeWith_36 ?_
        refine r_icmp_eq 42 40 rfl (by decide) dX3_agreeWith_37 (fun c4 => ?_) (fun c4 => ?_)
        · exact r_sub [0, 1, 2, 3] rfl (gj_X3_agreeWith_42 E b1 hb1 _ (fun x2 x3  σ => ih x2 x3  σ) _ _  _)
        · refine r_iconst 0 (by decide) 41 rfl dX3_agreeWith_40 ?_
          exact r_zret rfl (Or.inl rfl) dX3_agreeWith_41
      · exact r_sub [0, 1, 2, 3] rfl (gj_X3_agreeWith_42 E b1 hb1 _ (fun x2 x3  σ => ih x2 x3  σ) _ _  _)
def f_X3_agreeWith (b1 : Nat) (x2 : Int32) (σ : k_Mem) : Option (Int32 × k_Mem) :=
  l_X3_agreeWith_2 b1  1000 x2 0 σ
set_option maxRecDepth 100000 in
theorem c_X3_agreeWith (E : k_EV) (b1 : Nat) (hb1 : k_isT b1) (x2 : Int32) (σ : k_Mem) : k_MC m_X3_agreeWith E k_vi [k_rf E 55, k_rf E b1, .int x2] σ (f_X3_agreeWith b1 x2 σ) := by
  refine k_MC_of ⟨by decide, by decide⟩ (Nat.le_of_ble_eq_true rfl) ?_
  show k_GO _ _ _ 0 [(0, k_rf E 55), (1, k_rf E b1), (2, .int x2)] [] σ _
  unfold f_X3_agreeWith
  refine r_iconst 0 (by decide) 1 rfl dX3_agreeWith_0 ?_
  refine r_istore_n [(3, .int _), (0, k_rf E 55), (1, k_rf E b1), (2, .int _)] rfl rfl (by decide) 2 rfl dX3_agreeWith_1 ?_
  exact r_sub [1, 2, 3, 0] rfl (gl_X3_agreeWith_2 E b1 hb1   1000 _ _  _)
/-! HandMarket$Sheet.renew(II)V -/
def f_X2_renew (b0 : Nat) (x1 : Int32) (x2 : Int32) (σ : k_Mem) : Option (Unit × k_Mem) :=
  k_bd (f_J7_fill_53178 (b0 + 1) 40 0 (k_mset (k_mset σ b0 1 x1) b0 2 x2)) (fun _ σ1 =>
    some ((), σ1)
  )
set_option maxRecDepth 100000 in
theorem c_X2_renew (E : k_EV) (b0 : Nat) (hb0 : k_isS b0) (x1 : Int32) (x2 : Int32) (σ : k_Mem) : k_MC m_X2_renew E k_vv [k_rf E b0, .int x1, .int x2] σ (f_X2_renew b0 x1 x2 σ) := by
  refine k_MC_of ⟨by decide, by decide⟩ (Nat.le_of_ble_eq_true rfl) ?_
  show k_GO _ _ _ 0 [(0, k_rf E b0), (1, .int x1), (2, .int x2)] [] σ _
  unfold f_X2_renew
  refine r_aload_n 0 rfl rfl 1 rfl dX2_renew_0 ?_
  refine r_iload_n 1 rfl rfl 2 rfl dX2_renew_1 ?_
  refine r_puti fp_X2_15 hb0.1 rfl 5 rfl dX2_renew_2 ?_
  refine r_aload_n 0 rfl rfl 6 rfl dX2_renew_5 ?_
  refine r_iload_n 2 rfl rfl 7 rfl dX2_renew_6 ?_
  refine r_puti fp_X2_19 hb0.1 rfl 10 rfl dX2_renew_7 ?_
  refine r_aload_n 0 rfl rfl 11 rfl dX2_renew_10 ?_
  refine r_getr fl_X2_9 hb0.1 rfl 14 rfl dX2_renew_11 ?_
  refine r_iconst 0 (by decide) 15 rfl dX2_renew_14 ?_
  refine r_callsv (c_J7_fill_53178 E (b0 + 1) 40 hb0.2 _ _) rfl ml_X2_22 cw_J7_fill_53178 sw_J7_fill_53178 (by decide) (Nat.le_of_ble_eq_true rfl) 18 rfl dX2_renew_15 (fun _ σ1 => ?_)
  exact r_vret rfl dX2_renew_18
/-! HandMarket$Sheet.isNothing()Z -/
def f_X2_isNothing (b0 : Nat)  (σ : k_Mem) : Option (Int32 × k_Mem) :=
  if (σ b0 1) = (-1) then (
    some (1, σ)
  ) else (
    some (0, σ)
  )
set_option maxRecDepth 100000 in
theorem c_X2_isNothing (E : k_EV) (b0 : Nat) (hb0 : k_isS b0)  (σ : k_Mem) : k_MC m_X2_isNothing E k_vi [k_rf E b0] σ (f_X2_isNothing b0 σ) := by
  refine k_MC_of ⟨by decide, by decide⟩ (Nat.le_of_ble_eq_true rfl) ?_
  show k_GO _ _ _ 0 [(0, k_rf E b0)] [] σ _
  unfold f_X2_isNothing
  refine r_aload_n 0 rfl rfl 1 rfl dX2_isNothing_0 ?_
  refine r_geti fl_X2_15 hb0.1 rfl 4 rfl dX2_isNothing_1 ?_
  refine r_iconst (-1) (by decide) 5 rfl dX2_isNothing_4 ?_
  refine r_icmp_ne 12 8 rfl (by decide) dX2_isNothing_5 (fun c1 => ?_) (fun c1 => ?_)
  · refine r_iconst 1 (by decide) 9 rfl dX2_isNothing_8 ?_
    refine r_goto 13 (by decide) dX2_isNothing_9 ?_
    exact r_zret rfl (Or.inr rfl) dX2_isNothing_13
  · refine r_iconst 0 (by decide) 13 rfl dX2_isNothing_12 ?_
    exact r_zret rfl (Or.inl rfl) dX2_isNothing_13
/-! HandMarket$Sheet.faultAt(II)I -/
def f_X2_faultAt (b0 : Nat) (x1 : Int32) (x2 : Int32) (σ : k_Mem) : Option (Int32 × k_Mem) :=
  k_bd (f_X2_isNothing b0  σ) (fun r1 σ1 =>
    if r1 = 0 then (
      if x1 = (σ1 b0 1) then (
        if x2 < 0 then (
          some (2, σ1)
        ) else (
          if x2 < (σ1 b0 2) then (
            some (0, σ1)
          ) else (
            some (2, σ1)
          )
        )
      ) else (
        some (3, σ1)
      )
    ) else (
      some (1, σ1)
    )
  )
set_option maxRecDepth 100000 in
theorem c_X2_faultAt (E : k_EV) (b0 : Nat) (hb0 : k_isS b0) (x1 : Int32) (x2 : Int32) (σ : k_Mem) : k_MC m_X2_faultAt E k_vi [k_rf E b0, .int x1, .int x2] σ (f_X2_faultAt b0 x1 x2 σ) := by
  refine k_MC_of ⟨by decide, by decide⟩ (Nat.le_of_ble_eq_true rfl) ?_
  show k_GO _ _ _ 0 [(0, k_rf E b0), (1, .int x1), (2, .int x2)] [] σ _
  unfold f_X2_faultAt
  refine r_aload_n 0 rfl rfl 1 rfl dX2_faultAt_0 ?_
  refine r_calli (c_X2_isNothing E b0 hb0  _) rfl hb0.1 rfl ml_X2_28 cw_X2_isNothing vw_X2_isNothing (by decide) (Nat.le_of_ble_eq_true rfl) 4 rfl dX2_faultAt_1 (fun r1 σ1 => ?_)
  refine r_if_eq 9 7 rfl (by decide) dX2_faultAt_4 (fun c2 => ?_) (fun c2 => ?_)
  · refine r_iload_n 1 rfl rfl 10 rfl dX2_faultAt_9 ?_
    refine r_aload_n 0 rfl rfl 11 rfl dX2_faultAt_10 ?_
    refine r_geti fl_X2_15 hb0.1 rfl 14 rfl dX2_faultAt_11 ?_
    refine r_icmp_eq 19 17 rfl (by decide) dX2_faultAt_14 (fun c3 => ?_) (fun c3 => ?_)
    · refine r_iload_n 2 rfl rfl 20 rfl dX2_faultAt_19 ?_
      refine r_if_lt 31 23 rfl (by decide) dX2_faultAt_20 (fun c4 => ?_) (fun c4 => ?_)
      · refine r_iconst 2 (by decide) 32 rfl dX2_faultAt_31 ?_
        refine r_goto 36 (by decide) dX2_faultAt_32 ?_
        exact r_iret rfl dX2_faultAt_36
      · refine r_iload_n 2 rfl rfl 24 rfl dX2_faultAt_23 ?_
        refine r_aload_n 0 rfl rfl 25 rfl dX2_faultAt_24 ?_
        refine r_geti fl_X2_19 hb0.1 rfl 28 rfl dX2_faultAt_25 ?_
        refine r_icmp_lt 35 31 rfl (by decide) dX2_faultAt_28 (fun c5 => ?_) (fun c5 => ?_)
        · refine r_iconst 0 (by decide) 36 rfl dX2_faultAt_35 ?_
          exact r_iret rfl dX2_faultAt_36
        · refine r_iconst 2 (by decide) 32 rfl dX2_faultAt_31 ?_
          refine r_goto 36 (by decide) dX2_faultAt_32 ?_
          exact r_iret rfl dX2_faultAt_36
    · refine r_iconst 3 (by decide) 18 rfl dX2_faultAt_17 ?_
      exact r_iret rfl dX2_faultAt_18
  · refine r_iconst 1 (by decide) 8 rfl dX2_faultAt_7 ?_
    exact r_iret rfl dX2_faultAt_8
/-! HandMarket$Sheet.put(II)V -/
def f_X2_put (b0 : Nat) (x1 : Int32) (x2 : Int32) (σ : k_Mem) : Option (Unit × k_Mem) :=
  if (σ b0 1) = 0 then (
    if k_in x1 40 then (
      some ((), (k_mset σ (b0 + 1) (k_n x1) (Int8.toInt32 (Int32.toInt8 x2))))
    ) else none
  ) else (
    if (σ b0 1) = 1 then (
      if k_in x1 40 then (
        some ((), (k_mset σ (b0 + 1) (k_n x1) (Int16.toInt32 (Int32.toInt16 x2))))
      ) else none
    ) else (
      if k_in x1 40 then (
        some ((), (k_mset σ (b0 + 1) (k_n x1) x2))
      ) else none
    )
  )
set_option maxRecDepth 100000 in
theorem c_X2_put (E : k_EV) (b0 : Nat) (hb0 : k_isS b0) (x1 : Int32) (x2 : Int32) (σ : k_Mem) : k_MC m_X2_put E k_vv [k_rf E b0, .int x1, .int x2] σ (f_X2_put b0 x1 x2 σ) := by
  refine k_MC_of ⟨by decide, by decide⟩ (Nat.le_of_ble_eq_true rfl) ?_
  show k_GO _ _ _ 0 [(0, k_rf E b0), (1, .int x1), (2, .int x2)] [] σ _
  unfold f_X2_put
  refine r_aload_n 0 rfl rfl 1 rfl dX2_put_0 ?_
  refine r_geti fl_X2_15 hb0.1 rfl 4 rfl dX2_put_1 ?_
  refine r_if_ne 18 7 rfl (by decide) dX2_put_4 (fun c1 => ?_) (fun c1 => ?_)
  · refine r_aload_n 0 rfl rfl 8 rfl dX2_put_7 ?_
    refine r_getr fl_X2_9 hb0.1 rfl 11 rfl dX2_put_8 ?_
    refine r_iload_n 1 rfl rfl 12 rfl dX2_put_11 ?_
    refine r_iload_n 2 rfl rfl 13 rfl dX2_put_12 ?_
    refine r_i2b 14 rfl dX2_put_13 ?_
    refine r_iast hb0.2 15 rfl dX2_put_14 ?_
    refine r_goto 44 (by decide) dX2_put_15 ?_
    exact r_vret rfl dX2_put_44
  · refine r_aload_n 0 rfl rfl 19 rfl dX2_put_18 ?_
    refine r_geti fl_X2_15 hb0.1 rfl 22 rfl dX2_put_19 ?_
    refine r_iconst 1 (by decide) 23 rfl dX2_put_22 ?_
    refine r_icmp_ne 37 26 rfl (by decide) dX2_put_23 (fun c2 => ?_) (fun c2 => ?_)
    · refine r_aload_n 0 rfl rfl 27 rfl dX2_put_26 ?_
      refine r_getr fl_X2_9 hb0.1 rfl 30 rfl dX2_put_27 ?_
      refine r_iload_n 1 rfl rfl 31 rfl dX2_put_30 ?_
      refine r_iload_n 2 rfl rfl 32 rfl dX2_put_31 ?_
      refine r_i2s 33 rfl dX2_put_32 ?_
      refine r_iast hb0.2 34 rfl dX2_put_33 ?_
      refine r_goto 44 (by decide) dX2_put_34 ?_
      exact r_vret rfl dX2_put_44
    · refine r_aload_n 0 rfl rfl 38 rfl dX2_put_37 ?_
      refine r_getr fl_X2_9 hb0.1 rfl 41 rfl dX2_put_38 ?_
      refine r_iload_n 1 rfl rfl 42 rfl dX2_put_41 ?_
      refine r_iload_n 2 rfl rfl 43 rfl dX2_put_42 ?_
      refine r_iast hb0.2 44 rfl dX2_put_43 ?_
      exact r_vret rfl dX2_put_44
/-! HandMarket$Sheet.faultAtTwo(II)I -/
def f_X2_faultAtTwo (b0 : Nat) (x1 : Int32) (x2 : Int32) (σ : k_Mem) : Option (Int32 × k_Mem) :=
  k_bd (f_X2_faultAt b0 x1 x2 σ) (fun r1 σ1 =>
    if r1 = 0 then (
      k_bd (f_X2_faultAt b0 x1 (x2 + 1) σ1) (fun r3 σ3 =>
        some (r3, σ3)
      )
    ) else (
      some (r1, σ1)
    )
  )
set_option maxRecDepth 100000 in
theorem c_X2_faultAtTwo (E : k_EV) (b0 : Nat) (hb0 : k_isS b0) (x1 : Int32) (x2 : Int32) (σ : k_Mem) : k_MC m_X2_faultAtTwo E k_vi [k_rf E b0, .int x1, .int x2] σ (f_X2_faultAtTwo b0 x1 x2 σ) := by
  refine k_MC_of ⟨by decide, by decide⟩ (Nat.le_of_ble_eq_true rfl) ?_
  show k_GO _ _ _ 0 [(0, k_rf E b0), (1, .int x1), (2, .int x2)] [] σ _
  unfold f_X2_faultAtTwo
  refine r_aload_n 0 rfl rfl 1 rfl dX2_faultAtTwo_0 ?_
  refine r_iload_n 1 rfl rfl 2 rfl dX2_faultAtTwo_1 ?_
  refine r_iload_n 2 rfl rfl 3 rfl dX2_faultAtTwo_2 ?_
  refine r_calli (c_X2_faultAt E b0 hb0 _ _ _) rfl hb0.1 rfl ml_X2_32 cw_X2_faultAt vw_X2_faultAt (by decide) (Nat.le_of_ble_eq_true rfl) 6 rfl dX2_faultAtTwo_3 (fun r1 σ1 => ?_)
  refine r_istore_n [(3, .int _), (0, k_rf E b0), (1, .int _), (2, .int _)] rfl rfl (by decide) 7 rfl dX2_faultAtTwo_6 ?_
  refine r_iload_n 0 rfl rfl 8 rfl dX2_faultAtTwo_7 ?_
  refine r_if_eq 15 11 rfl (by decide) dX2_faultAtTwo_8 (fun c2 => ?_) (fun c2 => ?_)
  · refine r_aload_n 1 rfl rfl 16 rfl dX2_faultAtTwo_15 ?_
    refine r_iload_n 2 rfl rfl 17 rfl dX2_faultAtTwo_16 ?_
    refine r_iload_n 3 rfl rfl 18 rfl dX2_faultAtTwo_17 ?_
    refine r_iconst 1 (by decide) 19 rfl dX2_faultAtTwo_18 ?_
    refine r_iadd 20 rfl dX2_faultAtTwo_19 ?_
    refine r_calli (c_X2_faultAt E b0 hb0 _ _ _) rfl hb0.1 rfl ml_X2_32 cw_X2_faultAt vw_X2_faultAt (by decide) (Nat.le_of_ble_eq_true rfl) 23 rfl dX2_faultAtTwo_20 (fun r3 σ3 => ?_)
    exact r_iret rfl dX2_faultAtTwo_23
  · refine r_iload_n 0 rfl rfl 12 rfl dX2_faultAtTwo_11 ?_
    refine r_goto 23 (by decide) dX2_faultAtTwo_12 ?_
    exact r_iret rfl dX2_faultAtTwo_23
