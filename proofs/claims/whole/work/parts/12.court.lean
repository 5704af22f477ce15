/-! HandMarket$Courtship.likingIn(LHandMarket$Town;II)I -/
def f_X0_likingIn (b1 : Nat) (x2 : Int32) (x3 : Int32) (σ : k_Mem) : Option (Int32 × k_Mem) :=
  if k_in x3 8 then (
    if k_in x3 8 then (
      if k_in x2 8 then (
        if (σ (b1 + 1) (k_n x2)) = 2 then (
          some (((σ 47 (k_n x3)) + (σ 48 (k_n x3))), σ)
        ) else (
          if k_in x2 8 then (
            if (σ (b1 + 1) (k_n x2)) = 3 then (
              some ((20 - ((σ 47 (k_n x3)) + (σ 48 (k_n x3)))), σ)
            ) else (
              if k_in x3 8 then (
                if k_in x2 8 then (
                  if k_in x3 8 then (
                    if k_in x2 8 then (
                      if k_in x2 8 then (
                        if (σ (b1 + 1) (k_n x2)) = 1 then (
                          if k_in x3 8 then (
                            if k_in x2 8 then (
                              if (σ 49 (k_n x3)) = (σ (b1 + 4) (k_n x2)) then (
                                some ((((20 - (k_abs ((σ 47 (k_n x3)) - (σ (b1 + 2) (k_n x2))))) - (k_abs ((σ 48 (k_n x3)) - (σ (b1 + 3) (k_n x2))))) + 3), σ)
                              ) else (
                                some (((20 - (k_abs ((σ 47 (k_n x3)) - (σ (b1 + 2) (k_n x2))))) - (k_abs ((σ 48 (k_n x3)) - (σ (b1 + 3) (k_n x2))))), σ)
                              )
                            ) else none
                          ) else none
                        ) else (
                          some (((20 - (k_abs ((σ 47 (k_n x3)) - (σ (b1 + 2) (k_n x2))))) - (k_abs ((σ 48 (k_n x3)) - (σ (b1 + 3) (k_n x2))))), σ)
                        )
                      ) else none
                    ) else none
                  ) else none
                ) else none
              ) else none
            )
          ) else none
        )
      ) else none
    ) else none
  ) else none
set_option maxRecDepth 100000 in
theorem c_X0_likingIn (E : k_EV) (b1 : Nat) (hb1 : k_isT b1) (x2 : Int32) (x3 : Int32) (σ : k_Mem) : k_MC m_X0_likingIn E k_vi [k_rf E 46, k_rf E b1, .int x2, .int x3] σ (f_X0_likingIn b1 x2 x3 σ) := by
  refine k_MC_of ⟨by decide, by decide⟩ (Nat.le_of_ble_eq_true rfl) ?_
  show k_GO _ _ _ 0 [(0, k_rf E 46), (1, k_rf E b1), (2, .int x2), (3, .int x3)] [] σ _
  unfold f_X0_likingIn
  refine r_aload_n 0 rfl rfl 1 rfl dX0_likingIn_0 ?_
  refine r_getr fl_X0_9 sh_46 rfl 4 rfl dX0_likingIn_1 ?_
  refine r_iload_n 3 rfl rfl 5 rfl dX0_likingIn_4 ?_
  refine r_iald sh_47 6 rfl dX0_likingIn_5 ?_
  refine r_aload_n 0 rfl rfl 7 rfl dX0_likingIn_6 ?_
  refine r_getr fl_X0_15 sh_46 rfl 10 rfl dX0_likingIn_7 ?_
  refine r_iload_n 3 rfl rfl 11 rfl dX0_likingIn_10 ?_
  refine r_iald sh_48 12 rfl dX0_likingIn_11 ?_
  refine r_iadd 13 rfl dX0_likingIn_12 ?_
  refine r_istore [(4, .int _), (0, k_rf E 46), (1, k_rf E b1), (2, .int _), (3, .int _)] rfl (by decide) 15 rfl dX0_likingIn_13 ?_
  refine r_aload_n 2 rfl rfl 16 rfl dX0_likingIn_15 ?_
  refine r_getr fl_X0_78 hb1.1 rfl 19 rfl dX0_likingIn_16 ?_
  refine r_iload_n 3 rfl rfl 20 rfl dX0_likingIn_19 ?_
  refine r_iald hb1.2.1 21 rfl dX0_likingIn_20 ?_
  refine r_iconst 2 (by decide) 22 rfl dX0_likingIn_21 ?_
  refine r_icmp_ne 28 25 rfl (by decide) dX0_likingIn_22 (fun c1 => ?_) (fun c1 => ?_)
  · refine r_iload 0 rfl 27 rfl dX0_likingIn_25 ?_
    exact r_iret rfl dX0_likingIn_27
  · refine r_aload_n 2 rfl rfl 29 rfl dX0_likingIn_28 ?_
    refine r_getr fl_X0_78 hb1.1 rfl 32 rfl dX0_likingIn_29 ?_
    refine r_iload_n 3 rfl rfl 33 rfl dX0_likingIn_32 ?_
    refine r_iald hb1.2.1 34 rfl dX0_likingIn_33 ?_
    refine r_iconst 3 (by decide) 35 rfl dX0_likingIn_34 ?_
    refine r_icmp_ne 44 38 rfl (by decide) dX0_likingIn_35 (fun c2 => ?_) (fun c2 => ?_)
    · refine r_bipush 20 (by decide) 40 rfl dX0_likingIn_38 ?_
      refine r_iload 0 rfl 42 rfl dX0_likingIn_40 ?_
      refine r_isub 43 rfl dX0_likingIn_42 ?_
      exact r_iret rfl dX0_likingIn_43
    · refine r_bipush 20 (by decide) 46 rfl dX0_likingIn_44 ?_
      refine r_aload_n 1 rfl rfl 47 rfl dX0_likingIn_46 ?_
      refine r_getr fl_X0_9 sh_46 rfl 50 rfl dX0_likingIn_47 ?_
      refine r_iload_n 4 rfl rfl 51 rfl dX0_likingIn_50 ?_
      refine r_iald sh_47 52 rfl dX0_likingIn_51 ?_
      refine r_aload_n 2 rfl rfl 53 rfl dX0_likingIn_52 ?_
      refine r_getr fl_X0_81 hb1.1 rfl 56 rfl dX0_likingIn_53 ?_
      refine r_iload_n 3 rfl rfl 57 rfl dX0_likingIn_56 ?_
      refine r_iald hb1.2.2.1 58 rfl dX0_likingIn_57 ?_
      refine r_isub 59 rfl dX0_likingIn_58 ?_
      refine r_mabs ma_abs ml_X0_84 ⟨Nat.le_of_ble_eq_true rfl, Nat.le_of_ble_eq_true rfl⟩ 62 rfl dX0_likingIn_59 ?_
      refine r_isub 63 rfl dX0_likingIn_62 ?_
      refine r_aload_n 1 rfl rfl 64 rfl dX0_likingIn_63 ?_
      refine r_getr fl_X0_15 sh_46 rfl 67 rfl dX0_likingIn_64 ?_
      refine r_iload_n 4 rfl rfl 68 rfl dX0_likingIn_67 ?_
      refine r_iald sh_48 69 rfl dX0_likingIn_68 ?_
      refine r_aload_n 2 rfl rfl 70 rfl dX0_likingIn_69 ?_
      refine r_getr fl_X0_90 hb1.1 rfl 73 rfl dX0_likingIn_70 ?_
      refine r_iload_n 3 rfl rfl 74 rfl dX0_likingIn_73 ?_
      refine r_iald hb1.2.2.2.1 75 rfl dX0_likingIn_74 ?_
      refine r_isub 76 rfl dX0_likingIn_75 ?_
      refine r_mabs ma_abs ml_X0_84 ⟨Nat.le_of_ble_eq_true rfl, Nat.le_of_ble_eq_true rfl⟩ 79 rfl dX0_likingIn_76 ?_
      refine r_isub 80 rfl dX0_likingIn_79 ?_
      refine r_istore [(5, .int _), (4, .int _), (0, k_rf E 46), (1, k_rf E b1), (2, .int _), (3, .int _)] rfl (by decide) 82 rfl dX0_likingIn_80 ?_
      refine r_aload_n 3 rfl rfl 83 rfl dX0_likingIn_82 ?_
      refine r_getr fl_X0_78 hb1.1 rfl 86 rfl dX0_likingIn_83 ?_
      refine r_iload_n 4 rfl rfl 87 rfl dX0_likingIn_86 ?_
      refine r_iald hb1.2.1 88 rfl dX0_likingIn_87 ?_
      refine r_iconst 1 (by decide) 89 rfl dX0_likingIn_88 ?_
      refine r_icmp_ne 114 92 rfl (by decide) dX0_likingIn_89 (fun c3 => ?_) (fun c3 => ?_)
      · refine r_aload_n 2 rfl rfl 93 rfl dX0_likingIn_92 ?_
        refine r_getr fl_X0_18 sh_46 rfl 96 rfl dX0_likingIn_93 ?_
        refine r_iload_n 5 rfl rfl 97 rfl dX0_likingIn_96 ?_
        refine r_iald sh_49 98 rfl dX0_likingIn_97 ?_
        refine r_aload_n 3 rfl rfl 99 rfl dX0_likingIn_98 ?_
        refine r_getr fl_X0_93 hb1.1 rfl 102 rfl dX0_likingIn_99 ?_
        refine r_iload_n 4 rfl rfl 103 rfl dX0_likingIn_102 ?_
        refine r_iald hb1.2.2.2.2.1 104 rfl dX0_likingIn_103 ?_
        refine r_icmp_ne 114 107 rfl (by decide) dX0_likingIn_104 (fun c4 => ?_) (fun c4 => ?_)
        · refine r_iload 0 rfl 109 rfl dX0_likingIn_107 ?_
          refine r_iconst 3 (by decide) 110 rfl dX0_likingIn_109 ?_
          refine r_iadd 111 rfl dX0_likingIn_110 ?_
          refine r_goto 116 (by decide) dX0_likingIn_111 ?_
          exact r_iret rfl dX0_likingIn_116
        · refine r_iload 0 rfl 116 rfl dX0_likingIn_114 ?_
          exact r_iret rfl dX0_likingIn_116
      · refine r_iload 0 rfl 116 rfl dX0_likingIn_114 ?_
        exact r_iret rfl dX0_likingIn_116
/-! HandMarket$Courtship.weighOne(LHandMarket$Town;II)V -/
def f_X0_weighOne (b1 : Nat) (x2 : Int32) (x3 : Int32) (σ : k_Mem) : Option (Unit × k_Mem) :=
  k_bd (f_X0_likingIn b1 x2 x3 σ) (fun r1 σ1 =>
    if k_in ((x2 * 8) + x3) 64 then (
      k_bd (f_X5_areFolded b1 x2 x3 (k_mset σ1 50 (k_n ((x2 * 8) + x3)) r1)) (fun r2 σ2 =>
        if r2 = 0 then (
          if k_in ((x2 * 8) + x3) 64 then (
            if k_in ((x2 * 8) + x3) 64 then (
              some ((), (k_mset σ2 51 (k_n ((x2 * 8) + x3)) (((((σ2 50 (k_n ((x2 * 8) + x3))) * 8) + 8) - 1) - x3)))
            ) else none
          ) else none
        ) else (
          some ((), σ2)
        )
      )
    ) else none
  )
set_option maxRecDepth 100000 in
theorem c_X0_weighOne (E : k_EV) (b1 : Nat) (hb1 : k_isT b1) (x2 : Int32) (x3 : Int32) (σ : k_Mem) : k_MC m_X0_weighOne E k_vv [k_rf E 46, k_rf E b1, .int x2, .int x3] σ (f_X0_weighOne b1 x2 x3 σ) := by
  refine k_MC_of ⟨by decide, by decide⟩ (Nat.le_of_ble_eq_true rfl) ?_
  show k_GO _ _ _ 0 [(0, k_rf E 46), (1, k_rf E b1), (2, .int x2), (3, .int x3)] [] σ _
  unfold f_X0_weighOne
  refine r_iload_n 2 rfl rfl 1 rfl dX0_weighOne_0 ?_
  refine r_bipush 8 (by decide) 3 rfl dX0_weighOne_1 ?_
  refine r_imul 4 rfl dX0_weighOne_3 ?_
  refine r_iload_n 3 rfl rfl 5 rfl dX0_weighOne_4 ?_
  refine r_iadd 6 rfl dX0_weighOne_5 ?_
  refine r_istore [(4, .int _), (0, k_rf E 46), (1, k_rf E b1), (2, .int _), (3, .int _)] rfl (by decide) 8 rfl dX0_weighOne_6 ?_
  refine r_aload_n 1 rfl rfl 9 rfl dX0_weighOne_8 ?_
  refine r_getr fl_X0_21 sh_46 rfl 12 rfl dX0_weighOne_9 ?_
  refine r_iload 0 rfl 14 rfl dX0_weighOne_12 ?_
  refine r_aload_n 1 rfl rfl 15 rfl dX0_weighOne_14 ?_
  refine r_aload_n 2 rfl rfl 16 rfl dX0_weighOne_15 ?_
  refine r_iload_n 3 rfl rfl 17 rfl dX0_weighOne_16 ?_
  refine r_iload_n 4 rfl rfl 18 rfl dX0_weighOne_17 ?_
  refine r_calli (c_X0_likingIn E b1 hb1 _ _ _) rfl sh_46 rfl ml_X0_70 cw_X0_likingIn vw_X0_likingIn (by decide) (Nat.le_of_ble_eq_true rfl) 21 rfl dX0_weighOne_18 (fun r1 σ1 => ?_)
  refine r_iast sh_50 22 rfl dX0_weighOne_21 ?_
  refine r_aload_n 2 rfl rfl 23 rfl dX0_weighOne_22 ?_
  refine r_iload_n 3 rfl rfl 24 rfl dX0_weighOne_23 ?_
  refine r_iload_n 4 rfl rfl 25 rfl dX0_weighOne_24 ?_
  refine r_calli (c_X5_areFolded E b1 hb1 _ _ _) rfl hb1.1 rfl ml_X0_74 cw_X5_areFolded vw_X5_areFolded (by decide) (Nat.le_of_ble_eq_true rfl) 28 rfl dX0_weighOne_25 (fun r2 σ2 => ?_)
  refine r_if_ne 55 31 rfl (by decide) dX0_weighOne_28 (fun c3 => ?_) (fun c3 => ?_)
  · refine r_aload_n 1 rfl rfl 32 rfl dX0_weighOne_31 ?_
    refine r_getr fl_X0_24 sh_46 rfl 35 rfl dX0_weighOne_32 ?_
    refine r_iload 0 rfl 37 rfl dX0_weighOne_35 ?_
    refine r_aload_n 1 rfl rfl 38 rfl dX0_weighOne_37 ?_
    refine r_getr fl_X0_21 sh_46 rfl 41 rfl dX0_weighOne_38 ?_
    refine r_iload 0 rfl 43 rfl dX0_weighOne_41 ?_
    refine r_iald sh_50 44 rfl dX0_weighOne_43 ?_
    refine r_bipush 8 (by decide) 46 rfl dX0_weighOne_44 ?_
    refine r_imul 47 rfl dX0_weighOne_46 ?_
    refine r_bipush 8 (by decide) 49 rfl dX0_weighOne_47 ?_
    refine r_iadd 50 rfl dX0_weighOne_49 ?_
    refine r_iconst 1 (by decide) 51 rfl dX0_weighOne_50 ?_
    refine r_isub 52 rfl dX0_weighOne_51 ?_
    refine r_iload_n 4 rfl rfl 53 rfl dX0_weighOne_52 ?_
    refine r_isub 54 rfl dX0_weighOne_53 ?_
    refine r_iast sh_51 55 rfl dX0_weighOne_54 ?_
    exact r_vret rfl dX0_weighOne_55
  · exact r_vret rfl dX0_weighOne_55
/-! HandMarket$Courtship.weigh(LHandMarket$Town;)V -/
def l_X0_weigh_87 (b1 : Nat) (k77 : Int32 → k_Mem → Option (Unit × k_Mem)) : Nat → Int32 → Int32 → k_Mem → Option (Unit × k_Mem)
  | 0, _, _, _ => none
  | n + 1, x2, x3, σ =>
    if (4 + (σ b1 8)) ≤ x3 then (
      k77 (x2 + 1) σ
    ) else (
      k_bd (f_X0_weighOne b1 x2 x3 σ) (fun _ σ6 =>
        k_bd (f_X0_weighOne b1 x3 x2 σ6) (fun _ σ7 =>
          l_X0_weigh_87 b1 k77 n x2 (x3 + 1) σ7
        )
      )
    )
set_option maxRecDepth 100000 in
theorem gl_X0_weigh_87 (E : k_EV) (b1 : Nat) (hb1 : k_isT b1) (k77 : Int32 → k_Mem → Option (Unit × k_Mem)) (hk77 : ∀ (x2 : Int32)  (σ : k_Mem), k_GO m_X0_weigh E k_vv 77 [(0, k_rf E 46), (1, k_rf E b1), (2, .int x2)] [] σ (k77 x2 σ)) : ∀ (n : Nat) (x2 : Int32) (x3 : Int32)  (σ : k_Mem), k_GO m_X0_weigh E k_vv 87 [(0, k_rf E 46), (1, k_rf E b1), (2, .int x2), (3, .int x3)] [] σ (l_X0_weigh_87 b1 k77 n x2 x3 σ) := by
  intro n
  induction n with
  | zero => intro x2 x3  σ; exact r_none
  | succ n ih =>
    intro x2 x3  σ
    rw [l_X0_weigh_87]
    refine r_iload_n 3 rfl rfl 88 rfl dX0_weigh_87 ?_
    refine r_iconst 4 (by decide) 89 rfl dX0_weigh_88 ?_
    refine r_aload_n 1 rfl rfl 90 rfl dX0_weigh_89 ?_
    refine r_geti fl_X0_63 hb1.1 rfl 93 rfl dX0_weigh_90 ?_
    refine r_iadd 94 rfl dX0_weigh_93 ?_
    refine r_icmp_ge 117 97 rfl (by decide) dX0_weigh_94 (fun c5 => ?_) (fun c5 => ?_)
    · refine r_iinc 1 (by decide) 2 rfl [(2, .int _), (0, k_rf E 46), (1, k_rf E b1), (3, .int _)] rfl (by decide) 120 rfl dX0_weigh_117 ?_
      refine r_goto 77 (by decide) dX0_weigh_120 ?_
      exact r_sub [1, 2, 0] rfl (hk77 _  _)
    · refine r_aload_n 0 rfl rfl 98 rfl dX0_weigh_97 ?_
      refine r_aload_n 1 rfl rfl 99 rfl dX0_weigh_98 ?_
      refine r_iload_n 2 rfl rfl 100 rfl dX0_weigh_99 ?_
      refine r_iload_n 3 rfl rfl 101 rfl dX0_weigh_100 ?_
      refine r_callv (c_X0_weighOne E b1 hb1 _ _ _) rfl sh_46 rfl ml_X0_66 cw_X0_weighOne vw_X0_weighOne (by decide) (Nat.le_of_ble_eq_true rfl) 104 rfl dX0_weigh_101 (fun _ σ6 => ?_)
      refine r_aload_n 0 rfl rfl 105 rfl dX0_weigh_104 ?_
      refine r_aload_n 1 rfl rfl 106 rfl dX0_weigh_105 ?_
      refine r_iload_n 3 rfl rfl 107 rfl dX0_weigh_106 ?_
      refine r_iload_n 2 rfl rfl 108 rfl dX0_weigh_107 ?_
      refine r_callv (c_X0_weighOne E b1 hb1 _ _ _) rfl sh_46 rfl ml_X0_66 cw_X0_weighOne vw_X0_weighOne (by decide) (Nat.le_of_ble_eq_true rfl) 111 rfl dX0_weigh_108 (fun _ σ7 => ?_)
      refine r_iinc 1 (by decide) 3 rfl [(3, .int _), (0, k_rf E 46), (1, k_rf E b1), (2, .int _)] rfl (by decide) 114 rfl dX0_weigh_111 ?_
      refine r_goto 87 (by decide) dX0_weigh_114 ?_
      exact r_sub [1, 2, 3, 0] rfl (ih _ _  _)
def l_X0_weigh_77 (b1 : Nat)  : Nat → Int32 → k_Mem → Option (Unit × k_Mem)
  | 0, _, _ => none
  | n + 1, x2, σ =>
    if (σ b1 7) ≤ x2 then (
      some ((), σ)
    ) else (
      l_X0_weigh_87 b1 (fun x2 σ => l_X0_weigh_77 b1  n x2 σ) 1000 x2 4 σ
    )
set_option maxRecDepth 100000 in
theorem gl_X0_weigh_77 (E : k_EV) (b1 : Nat) (hb1 : k_isT b1)   : ∀ (n : Nat) (x2 : Int32)  (σ : k_Mem), k_GO m_X0_weigh E k_vv 77 [(0, k_rf E 46), (1, k_rf E b1), (2, .int x2)] [] σ (l_X0_weigh_77 b1  n x2 σ) := by
  intro n
  induction n with
  | zero => intro x2  σ; exact r_none
  | succ n ih =>
    intro x2  σ
    rw [l_X0_weigh_77]
    refine r_iload_n 2 rfl rfl 78 rfl dX0_weigh_77 ?_
    refine r_aload_n 1 rfl rfl 79 rfl dX0_weigh_78 ?_
    refine r_geti fl_X0_60 hb1.1 rfl 82 rfl dX0_weigh_79 ?_
    refine r_icmp_ge 123 85 rfl (by decide) dX0_weigh_82 (fun c4 => ?_) (fun c4 => ?_)
    · exact r_vret rfl dX0_weigh_123
    · refine r_iconst 4 (by decide) 86 rfl dX0_weigh_85 ?_
      refine r_istore_n [(3, .int _), (0, k_rf E 46), (1, k_rf E b1), (2, .int _)] rfl rfl (by decide) 87 rfl dX0_weigh_86 ?_
      exact r_sub [1, 2, 3, 0] rfl (gl_X0_weigh_87 E b1 hb1 _ (fun x2  σ => ih x2  σ) 1000 _ _  _)
def j_X0_weigh_69 (b1 : Nat) (k19 : Int32 → k_Mem → Option (Unit × k_Mem)) (x2 : Int32) (σ : k_Mem) : Option (Unit × k_Mem) :=
  k19 (x2 + 1) σ
set_option maxRecDepth 100000 in
theorem gj_X0_weigh_69 (E : k_EV) (b1 : Nat) (hb1 : k_isT b1) (k19 : Int32 → k_Mem → Option (Unit × k_Mem)) (hk19 : ∀ (x2 : Int32)  (σ : k_Mem), k_GO m_X0_weigh E k_vv 19 [(0, k_rf E 46), (1, k_rf E b1), (2, .int x2)] [] σ (k19 x2 σ)) (x2 : Int32)  (σ : k_Mem) : k_GO m_X0_weigh E k_vv 69 [(0, k_rf E 46), (1, k_rf E b1), (2, .int x2)] [] σ (j_X0_weigh_69 b1 k19 x2 σ) := by
  unfold j_X0_weigh_69
  refine r_iinc 1 (by decide) 2 rfl [(2, .int _), (0, k_rf E 46), (1, k_rf E b1)] rfl (by decide) 72 rfl dX0_weigh_69 ?_
  refine r_goto 19 (by decide) dX0_weigh_72 ?_
  exact r_sub [1, 2, 0] rfl (hk19 _  _)
def l_X0_weigh_19 (b1 : Nat)  : Nat → Int32 → k_Mem → Option (Unit × k_Mem)
  | 0, _, _ => none
  | n + 1, x2, σ =>
    if 8 ≤ x2 then (
      l_X0_weigh_77 b1  1000 0 σ
    ) else (
      k_bd (f_X5_isHand b1 x2 σ) (fun r8 σ8 =>
        if r8 = 0 then (
          j_X0_weigh_69 b1 (fun x2 σ => l_X0_weigh_19 b1  n x2 σ) x2 σ8
        ) else (
          k_bd (f_X5_shows b1 x2 0 σ8) (fun r10 σ10 =>
            if k_in x2 8 then (
              k_bd (f_X5_shows b1 x2 1 (k_mset σ10 47 (k_n x2) r10)) (fun r11 σ11 =>
                if k_in x2 8 then (
                  k_bd (f_X5_shows b1 x2 2 (k_mset σ11 48 (k_n x2) r11)) (fun r12 σ12 =>
                    if k_in x2 8 then (
                      j_X0_weigh_69 b1 (fun x2 σ => l_X0_weigh_19 b1  n x2 σ) x2 (k_mset σ12 49 (k_n x2) r12)
                    ) else none
                  )
                ) else none
              )
            ) else none
          )
        )
      )
    )
set_option maxRecDepth 100000 in
theorem gl_X0_weigh_19 (E : k_EV) (b1 : Nat) (hb1 : k_isT b1)   : ∀ (n : Nat) (x2 : Int32)  (σ : k_Mem), k_GO m_X0_weigh E k_vv 19 [(0, k_rf E 46), (1, k_rf E b1), (2, .int x2)] [] σ (l_X0_weigh_19 b1  n x2 σ) := by
  intro n
  induction n with
  | zero => intro x2  σ; exact r_none
  | succ n ih =>
    intro x2  σ
    rw [l_X0_weigh_19]
    refine r_iload_n 2 rfl rfl 20 rfl dX0_weigh_19 ?_
    refine r_bipush 8 (by decide) 22 rfl dX0_weigh_20 ?_
    refine r_icmp_ge 75 25 rfl (by decide) dX0_weigh_22 (fun c3 => ?_) (fun c3 => ?_)
    · refine r_iconst 0 (by decide) 76 rfl dX0_weigh_75 ?_
      refine r_istore_n [(2, .int _), (0, k_rf E 46), (1, k_rf E b1)] rfl rfl (by decide) 77 rfl dX0_weigh_76 ?_
      exact r_sub [1, 2, 0] rfl (gl_X0_weigh_77 E b1 hb1   1000 _  _)
    · refine r_aload_n 1 rfl rfl 26 rfl dX0_weigh_25 ?_
      refine r_iload_n 2 rfl rfl 27 rfl dX0_weigh_26 ?_
      refine r_calli (c_X5_isHand E b1 hb1 _ _) rfl hb1.1 rfl ml_X0_52 cw_X5_isHand vw_X5_isHand (by decide) (Nat.le_of_ble_eq_true rfl) 30 rfl dX0_weigh_27 (fun r8 σ8 => ?_)
      refine r_if_eq 69 33 rfl (by decide) dX0_weigh_30 (fun c9 => ?_) (fun c9 => ?_)
      · exact r_sub [0, 1, 2] rfl (gj_X0_weigh_69 E b1 hb1 _ (fun x2  σ => ih x2  σ) _  _)
      · refine r_aload_n 0 rfl rfl 34 rfl dX0_weigh_33 ?_
        refine r_getr fl_X0_9 sh_46 rfl 37 rfl dX0_weigh_34 ?_
        refine r_iload_n 2 rfl rfl 38 rfl dX0_weigh_37 ?_
        refine r_aload_n 1 rfl rfl 39 rfl dX0_weigh_38 ?_
        refine r_iload_n 2 rfl rfl 40 rfl dX0_weigh_39 ?_
        refine r_iconst 0 (by decide) 41 rfl dX0_weigh_40 ?_
        refine r_calli (c_X5_shows E b1 hb1 _ _ _) rfl hb1.1 rfl ml_X0_56 cw_X5_shows vw_X5_shows (by decide) (Nat.le_of_ble_eq_true rfl) 44 rfl dX0_weigh_41 (fun r10 σ10 => ?_)
        refine r_iast sh_47 45 rfl dX0_weigh_44 ?_
        refine r_aload_n 0 rfl rfl 46 rfl dX0_weigh_45 ?_
        refine r_getr fl_X0_15 sh_46 rfl 49 rfl dX0_weigh_46 ?_
        refine r_iload_n 2 rfl rfl 50 rfl dX0_weigh_49 ?_
        refine r_aload_n 1 rfl rfl 51 rfl dX0_weigh_50 ?_
        refine r_iload_n 2 rfl rfl 52 rfl dX0_weigh_51 ?_
        refine r_iconst 1 (by decide) 53 rfl dX0_weigh_52 ?_
        refine r_calli (c_X5_shows E b1 hb1 _ _ _) rfl hb1.1 rfl ml_X0_56 cw_X5_shows vw_X5_shows (by decide) (Nat.le_of_ble_eq_true rfl) 56 rfl dX0_weigh_53 (fun r11 σ11 => ?_)
        refine r_iast sh_48 57 rfl dX0_weigh_56 ?_
        refine r_aload_n 0 rfl rfl 58 rfl dX0_weigh_57 ?_
        refine r_getr fl_X0_18 sh_46 rfl 61 rfl dX0_weigh_58 ?_
        refine r_iload_n 2 rfl rfl 62 rfl dX0_weigh_61 ?_
        refine r_aload_n 1 rfl rfl 63 rfl dX0_weigh_62 ?_
        refine r_iload_n 2 rfl rfl 64 rfl dX0_weigh_63 ?_
        refine r_iconst 2 (by decide) 65 rfl dX0_weigh_64 ?_
        refine r_calli (c_X5_shows E b1 hb1 _ _ _) rfl hb1.1 rfl ml_X0_56 cw_X5_shows vw_X5_shows (by decide) (Nat.le_of_ble_eq_true rfl) 68 rfl dX0_weigh_65 (fun r12 σ12 => ?_)
        refine r_iast sh_49 69 rfl dX0_weigh_68 ?_
        exact r_sub [0, 1, 2] rfl (gj_X0_weigh_69 E b1 hb1 _ (fun x2  σ => ih x2  σ) _  _)
def f_X0_weigh (b1 : Nat)  (σ : k_Mem) : Option (Unit × k_Mem) :=
  k_bd (f_X5_handBits b1  σ) (fun r1 σ1 =>
    k_bd (f_J7_fill_53178 51 64 (-2) (k_mset σ1 46 8 r1)) (fun _ σ2 =>
      l_X0_weigh_19 b1  1000 0 σ2
    )
  )
set_option maxRecDepth 100000 in
theorem c_X0_weigh (E : k_EV) (b1 : Nat) (hb1 : k_isT b1)  (σ : k_Mem) : k_MC m_X0_weigh E k_vv [k_rf E 46, k_rf E b1] σ (f_X0_weigh b1 σ) := by
  refine k_MC_of ⟨by decide, by decide⟩ (Nat.le_of_ble_eq_true rfl) ?_
  show k_GO _ _ _ 0 [(0, k_rf E 46), (1, k_rf E b1)] [] σ _
  unfold f_X0_weigh
  refine r_aload_n 0 rfl rfl 1 rfl dX0_weigh_0 ?_
  refine r_aload_n 1 rfl rfl 2 rfl dX0_weigh_1 ?_
  refine r_calli (c_X5_handBits E b1 hb1  _) rfl hb1.1 rfl ml_X0_36 cw_X5_handBits vw_X5_handBits (by decide) (Nat.le_of_ble_eq_true rfl) 5 rfl dX0_weigh_2 (fun r1 σ1 => ?_)
  refine r_puti fp_X0_42 sh_46 rfl 8 rfl dX0_weigh_5 ?_
  refine r_aload_n 0 rfl rfl 9 rfl dX0_weigh_8 ?_
  refine r_getr fl_X0_24 sh_46 rfl 12 rfl dX0_weigh_9 ?_
  refine r_bipush (-2) (by decide) 14 rfl dX0_weigh_12 ?_
  refine r_callsv (c_J7_fill_53178 E 51 64 sh_51 _ _) rfl ml_X0_46 cw_J7_fill_53178 sw_J7_fill_53178 (by decide) (Nat.le_of_ble_eq_true rfl) 17 rfl dX0_weigh_14 (fun _ σ2 => ?_)
  refine r_iconst 0 (by decide) 18 rfl dX0_weigh_17 ?_
  refine r_istore_n [(2, .int _), (0, k_rf E 46), (1, k_rf E b1)] rfl rfl (by decide) 19 rfl dX0_weigh_18 ?_
  exact r_sub [1, 2, 0] rfl (gl_X0_weigh_19 E b1 hb1   1000 _  _)
/-! HandMarket$Courtship.liking(II)I -/
def f_X0_liking  (x1 : Int32) (x2 : Int32) (σ : k_Mem) : Option (Int32 × k_Mem) :=
  if k_in ((x1 * 8) + x2) 64 then (
    some ((σ 50 (k_n ((x1 * 8) + x2))), σ)
  ) else none
set_option maxRecDepth 100000 in
theorem c_X0_liking (E : k_EV)   (x1 : Int32) (x2 : Int32) (σ : k_Mem) : k_MC m_X0_liking E k_vi [k_rf E 46, .int x1, .int x2] σ (f_X0_liking x1 x2 σ) := by
  refine k_MC_of ⟨by decide, by decide⟩ (Nat.le_of_ble_eq_true rfl) ?_
  show k_GO _ _ _ 0 [(0, k_rf E 46), (1, .int x1), (2, .int x2)] [] σ _
  unfold f_X0_liking
  refine r_aload_n 0 rfl rfl 1 rfl dX0_liking_0 ?_
  refine r_getr fl_X0_21 sh_46 rfl 4 rfl dX0_liking_1 ?_
  refine r_iload_n 1 rfl rfl 5 rfl dX0_liking_4 ?_
  refine r_bipush 8 (by decide) 7 rfl dX0_liking_5 ?_
  refine r_imul 8 rfl dX0_liking_7 ?_
  refine r_iload_n 2 rfl rfl 9 rfl dX0_liking_8 ?_
  refine r_iadd 10 rfl dX0_liking_9 ?_
  refine r_iald sh_50 11 rfl dX0_liking_10 ?_
  exact r_iret rfl dX0_liking_11
/-! HandMarket$Courtship.wishFor(II)I -/
def f_X0_wishFor  (x1 : Int32) (x2 : Int32) (σ : k_Mem) : Option (Int32 × k_Mem) :=
  if x2 = (-1) then (
    some ((-1), σ)
  ) else (
    if k_in ((x1 * 8) + x2) 64 then (
      some ((σ 51 (k_n ((x1 * 8) + x2))), σ)
    ) else none
  )
set_option maxRecDepth 100000 in
theorem c_X0_wishFor (E : k_EV)   (x1 : Int32) (x2 : Int32) (σ : k_Mem) : k_MC m_X0_wishFor E k_vi [k_rf E 46, .int x1, .int x2] σ (f_X0_wishFor x1 x2 σ) := by
  refine k_MC_of ⟨by decide, by decide⟩ (Nat.le_of_ble_eq_true rfl) ?_
  show k_GO _ _ _ 0 [(0, k_rf E 46), (1, .int x1), (2, .int x2)] [] σ _
  unfold f_X0_wishFor
  refine r_iload_n 2 rfl rfl 1 rfl dX0_wishFor_0 ?_
  refine r_iconst (-1) (by decide) 2 rfl dX0_wishFor_1 ?_
  refine r_icmp_ne 9 5 rfl (by decide) dX0_wishFor_2 (fun c1 => ?_) (fun c1 => ?_)
  · refine r_iconst (-1) (by decide) 6 rfl dX0_wishFor_5 ?_
    refine r_goto 20 (by decide) dX0_wishFor_6 ?_
    exact r_iret rfl dX0_wishFor_20
  · refine r_aload_n 0 rfl rfl 10 rfl dX0_wishFor_9 ?_
    refine r_getr fl_X0_24 sh_46 rfl 13 rfl dX0_wishFor_10 ?_
    refine r_iload_n 1 rfl rfl 14 rfl dX0_wishFor_13 ?_
    refine r_bipush 8 (by decide) 16 rfl dX0_wishFor_14 ?_
    refine r_imul 17 rfl dX0_wishFor_16 ?_
    refine r_iload_n 2 rfl rfl 18 rfl dX0_wishFor_17 ?_
    refine r_iadd 19 rfl dX0_wishFor_18 ?_
    refine r_iald sh_51 20 rfl dX0_wishFor_19 ?_
    exact r_iret rfl dX0_wishFor_20
/-! HandMarket$Courtship.countAbove(II)I -/
def j_X0_countAbove_26  (k5 : Int32 → Int32 → Int32 → Int32 → k_Mem → Option (Int32 × k_Mem)) (x1 : Int32) (x2 : Int32) (x3 : Int32) (x4 : Int32) (σ : k_Mem) : Option (Int32 × k_Mem) :=
  k5 x1 x2 x3 (x4 + 1) σ
set_option maxRecDepth 100000 in
theorem gj_X0_countAbove_26 (E : k_EV)   (k5 : Int32 → Int32 → Int32 → Int32 → k_Mem → Option (Int32 × k_Mem)) (hk5 : ∀ (x1 : Int32) (x2 : Int32) (x3 : Int32) (x4 : Int32)  (σ : k_Mem), k_GO m_X0_countAbove E k_vi 5 [(0, k_rf E 46), (1, .int x1), (2, .int x2), (3, .int x3), (4, .int x4)] [] σ (k5 x1 x2 x3 x4 σ)) (x1 : Int32) (x2 : Int32) (x3 : Int32) (x4 : Int32)  (σ : k_Mem) : k_GO m_X0_countAbove E k_vi 26 [(0, k_rf E 46), (1, .int x1), (2, .int x2), (3, .int x3), (4, .int x4)] [] σ (j_X0_countAbove_26  k5 x1 x2 x3 x4 σ) := by
  unfold j_X0_countAbove_26
  refine r_iinc 1 (by decide) 4 rfl [(4, .int _), (0, k_rf E 46), (1, .int _), (2, .int _), (3, .int _)] rfl (by decide) 29 rfl dX0_countAbove_26 ?_
  refine r_goto 5 (by decide) dX0_countAbove_29 ?_
  exact r_sub [1, 2, 3, 4, 0] rfl (hk5 _ _ _ _  _)
def l_X0_countAbove_5   : Nat → Int32 → Int32 → Int32 → Int32 → k_Mem → Option (Int32 × k_Mem)
  | 0, _, _, _, _, _ => none
  | n + 1, x1, x2, x3, x4, σ =>
    if 8 ≤ x4 then (
      some (x3, σ)
    ) else (
      k_bd (f_X0_wishFor  x1 x4 σ) (fun r2 σ2 =>
        if r2 ≤ x2 then (
          j_X0_countAbove_26  (fun x1 x2 x3 x4 σ => l_X0_countAbove_5   n x1 x2 x3 x4 σ) x1 x2 x3 x4 σ2
        ) else (
          j_X0_countAbove_26  (fun x1 x2 x3 x4 σ => l_X0_countAbove_5   n x1 x2 x3 x4 σ) x1 x2 (x3 + 1) x4 σ2
        )
      )
    )
set_option maxRecDepth 100000 in
theorem gl_X0_countAbove_5 (E : k_EV)     : ∀ (n : Nat) (x1 : Int32) (x2 : Int32) (x3 : Int32) (x4 : Int32)  (σ : k_Mem), k_GO m_X0_countAbove E k_vi 5 [(0, k_rf E 46), (1, .int x1), (2, .int x2), (3, .int x3), (4, .int x4)] [] σ (l_X0_countAbove_5   n x1 x2 x3 x4 σ) := by
  intro n
  induction n with
  | zero => intro x1 x2 x3 x4  σ; exact r_none
  | succ n ih =>
    intro x1 x2 x3 x4  σ
    rw [l_X0_countAbove_5]
    refine r_iload 4 rfl 7 rfl dX0_countAbove_5 ?_
    refine r_bipush 8 (by decide) 9 rfl dX0_countAbove_7 ?_
    refine r_icmp_ge 32 12 rfl (by decide) dX0_countAbove_9 (fun c1 => ?_) (fun c1 => ?_)
    · refine r_iload_n 3 rfl rfl 33 rfl dX0_countAbove_32 ?_
      exact r_iret rfl dX0_countAbove_33
    · refine r_aload_n 0 rfl rfl 13 rfl dX0_countAbove_12 ?_
      refine r_iload_n 1 rfl rfl 14 rfl dX0_countAbove_13 ?_
      refine r_iload 4 rfl 16 rfl dX0_countAbove_14 ?_
      refine r_calli (c_X0_wishFor E   _ _ _) rfl sh_46 rfl ml_X0_96 cw_X0_wishFor vw_X0_wishFor (by decide) (Nat.le_of_ble_eq_true rfl) 19 rfl dX0_countAbove_16 (fun r2 σ2 => ?_)
      refine r_iload_n 2 rfl rfl 20 rfl dX0_countAbove_19 ?_
      refine r_icmp_le 26 23 rfl (by decide) dX0_countAbove_20 (fun c3 => ?_) (fun c3 => ?_)
      · exact r_sub [0, 1, 2, 3, 4] rfl (gj_X0_countAbove_26 E   _ (fun x1 x2 x3 x4  σ => ih x1 x2 x3 x4  σ) _ _ _ _  _)
      · refine r_iinc 1 (by decide) 3 rfl [(3, .int _), (0, k_rf E 46), (1, .int _), (2, .int _), (4, .int _)] rfl (by decide) 26 rfl dX0_countAbove_23 ?_
        exact r_sub [1, 2, 3, 0, 4] rfl (gj_X0_countAbove_26 E   _ (fun x1 x2 x3 x4  σ => ih x1 x2 x3 x4  σ) _ _ _ _  _)
def f_X0_countAbove  (x1 : Int32) (x2 : Int32) (σ : k_Mem) : Option (Int32 × k_Mem) :=
  l_X0_countAbove_5   1000 x1 x2 0 0 σ
set_option maxRecDepth 100000 in
theorem c_X0_countAbove (E : k_EV)   (x1 : Int32) (x2 : Int32) (σ : k_Mem) : k_MC m_X0_countAbove E k_vi [k_rf E 46, .int x1, .int x2] σ (f_X0_countAbove x1 x2 σ) := by
  refine k_MC_of ⟨by decide, by decide⟩ (Nat.le_of_ble_eq_true rfl) ?_
  show k_GO _ _ _ 0 [(0, k_rf E 46), (1, .int x1), (2, .int x2)] [] σ _
  unfold f_X0_countAbove
  refine r_iconst 0 (by decide) 1 rfl dX0_countAbove_0 ?_
  refine r_istore_n [(3, .int _), (0, k_rf E 46), (1, .int _), (2, .int _)] rfl rfl (by decide) 2 rfl dX0_countAbove_1 ?_
  refine r_iconst 0 (by decide) 3 rfl dX0_countAbove_2 ?_
  refine r_istore [(4, .int _), (3, .int _), (0, k_rf E 46), (1, .int _), (2, .int _)] rfl (by decide) 5 rfl dX0_countAbove_3 ?_
  exact r_sub [2, 3, 4, 1, 0] rfl (gl_X0_countAbove_5 E     1000 _ _ _ _  _)
/-! HandMarket$Courtship.choiceOf(II)I -/
def j_X0_choiceOf_35  (k2 : Int32 → Int32 → Int32 → k_Mem → Option (Int32 × k_Mem)) (x1 : Int32) (x2 : Int32) (x3 : Int32) (σ : k_Mem) : Option (Int32 × k_Mem) :=
  k2 x1 x2 (x3 + 1) σ
set_option maxRecDepth 100000 in
theorem gj_X0_choiceOf_35 (E : k_EV)   (k2 : Int32 → Int32 → Int32 → k_Mem → Option (Int32 × k_Mem)) (hk2 : ∀ (x1 : Int32) (x2 : Int32) (x3 : Int32)  (σ : k_Mem), k_GO m_X0_choiceOf E k_vi 2 [(0, k_rf E 46), (1, .int x1), (2, .int x2), (3, .int x3)] [] σ (k2 x1 x2 x3 σ)) (x1 : Int32) (x2 : Int32) (x3 : Int32)  (σ : k_Mem) : k_GO m_X0_choiceOf E k_vi 35 [(0, k_rf E 46), (1, .int x1), (2, .int x2), (3, .int x3)] [] σ (j_X0_choiceOf_35  k2 x1 x2 x3 σ) := by
  unfold j_X0_choiceOf_35
  refine r_iinc 1 (by decide) 3 rfl [(3, .int _), (0, k_rf E 46), (1, .int _), (2, .int _)] rfl (by decide) 38 rfl dX0_choiceOf_35 ?_
  refine r_goto 2 (by decide) dX0_choiceOf_38 ?_
  exact r_sub [1, 2, 3, 0] rfl (hk2 _ _ _  _)
def l_X0_choiceOf_2   : Nat → Int32 → Int32 → Int32 → k_Mem → Option (Int32 × k_Mem)
  | 0, _, _, _, _ => none
  | n + 1, x1, x2, x3, σ =>
    if 8 ≤ x3 then (
      some ((-1), σ)
    ) else (
      k_bd (f_X0_wishFor  x1 x3 σ) (fun r2 σ2 =>
        if r2 ≤ (-1) then (
          j_X0_choiceOf_35  (fun x1 x2 x3 σ => l_X0_choiceOf_2   n x1 x2 x3 σ) x1 x2 x3 σ2
        ) else (
          k_bd (f_X0_wishFor  x1 x3 σ2) (fun r4 σ4 =>
            k_bd (f_X0_countAbove  x1 r4 σ4) (fun r5 σ5 =>
              if r5 = x2 then (
                some (x3, σ5)
              ) else (
                j_X0_choiceOf_35  (fun x1 x2 x3 σ => l_X0_choiceOf_2   n x1 x2 x3 σ) x1 x2 x3 σ5
              )
            )
          )
        )
      )
    )
set_option maxRecDepth 100000 in
theorem gl_X0_choiceOf_2 (E : k_EV)     : ∀ (n : Nat) (x1 : Int32) (x2 : Int32) (x3 : Int32)  (σ : k_Mem), k_GO m_X0_choiceOf E k_vi 2 [(0, k_rf E 46), (1, .int x1), (2, .int x2), (3, .int x3)] [] σ (l_X0_choiceOf_2   n x1 x2 x3 σ) := by
  intro n
  induction n with
  | zero => intro x1 x2 x3  σ; exact r_none
  | succ n ih =>
    intro x1 x2 x3  σ
    rw [l_X0_choiceOf_2]
    refine r_iload_n 3 rfl rfl 3 rfl dX0_choiceOf_2 ?_
    refine r_bipush 8 (by decide) 5 rfl dX0_choiceOf_3 ?_
    refine r_icmp_ge 41 8 rfl (by decide) dX0_choiceOf_5 (fun c1 => ?_) (fun c1 => ?_)
    · refine r_iconst (-1) (by decide) 42 rfl dX0_choiceOf_41 ?_
      exact r_iret rfl dX0_choiceOf_42
    · refine r_aload_n 0 rfl rfl 9 rfl dX0_choiceOf_8 ?_
      refine r_iload_n 1 rfl rfl 10 rfl dX0_choiceOf_9 ?_
      refine r_iload_n 3 rfl rfl 11 rfl dX0_choiceOf_10 ?_
      refine r_calli (c_X0_wishFor E   _ _ _) rfl sh_46 rfl ml_X0_96 cw_X0_wishFor vw_X0_wishFor (by decide) (Nat.le_of_ble_eq_true rfl) 14 rfl dX0_choiceOf_11 (fun r2 σ2 => ?_)
      refine r_iconst (-1) (by decide) 15 rfl dX0_choiceOf_14 ?_
      refine r_icmp_le 35 18 rfl (by decide) dX0_choiceOf_15 (fun c3 => ?_) (fun c3 => ?_)
      · exact r_sub [0, 1, 2, 3] rfl (gj_X0_choiceOf_35 E   _ (fun x1 x2 x3  σ => ih x1 x2 x3  σ) _ _ _  _)
      · refine r_aload_n 0 rfl rfl 19 rfl dX0_choiceOf_18 ?_
        refine r_iload_n 1 rfl rfl 20 rfl dX0_choiceOf_19 ?_
        refine r_aload_n 0 rfl rfl 21 rfl dX0_choiceOf_20 ?_
        refine r_iload_n 1 rfl rfl 22 rfl dX0_choiceOf_21 ?_
        refine r_iload_n 3 rfl rfl 23 rfl dX0_choiceOf_22 ?_
        refine r_calli (c_X0_wishFor E   _ _ _) rfl sh_46 rfl ml_X0_96 cw_X0_wishFor vw_X0_wishFor (by decide) (Nat.le_of_ble_eq_true rfl) 26 rfl dX0_choiceOf_23 (fun r4 σ4 => ?_)
        refine r_calli (c_X0_countAbove E   _ _ _) rfl sh_46 rfl ml_X0_99 cw_X0_countAbove vw_X0_countAbove (by decide) (Nat.le_of_ble_eq_true rfl) 29 rfl dX0_choiceOf_26 (fun r5 σ5 => ?_)
        refine r_iload_n 2 rfl rfl 30 rfl dX0_choiceOf_29 ?_
        refine r_icmp_ne 35 33 rfl (by decide) dX0_choiceOf_30 (fun c6 => ?_) (fun c6 => ?_)
        · refine r_iload_n 3 rfl rfl 34 rfl dX0_choiceOf_33 ?_
          exact r_iret rfl dX0_choiceOf_34
        · exact r_sub [0, 1, 2, 3] rfl (gj_X0_choiceOf_35 E   _ (fun x1 x2 x3  σ => ih x1 x2 x3  σ) _ _ _  _)
def f_X0_choiceOf  (x1 : Int32) (x2 : Int32) (σ : k_Mem) : Option (Int32 × k_Mem) :=
  l_X0_choiceOf_2   1000 x1 x2 0 σ
set_option maxRecDepth 100000 in
theorem c_X0_choiceOf (E : k_EV)   (x1 : Int32) (x2 : Int32) (σ : k_Mem) : k_MC m_X0_choiceOf E k_vi [k_rf E 46, .int x1, .int x2] σ (f_X0_choiceOf x1 x2 σ) := by
  refine k_MC_of ⟨by decide, by decide⟩ (Nat.le_of_ble_eq_true rfl) ?_
  show k_GO _ _ _ 0 [(0, k_rf E 46), (1, .int x1), (2, .int x2)] [] σ _
  unfold f_X0_choiceOf
  refine r_iconst 0 (by decide) 1 rfl dX0_choiceOf_0 ?_
  refine r_istore_n [(3, .int _), (0, k_rf E 46), (1, .int _), (2, .int _)] rfl rfl (by decide) 2 rfl dX0_choiceOf_1 ?_
  exact r_sub [1, 2, 3, 0] rfl (gl_X0_choiceOf_2 E     1000 _ _ _  _)
/-! HandMarket$Courtship.dearest(II)I -/
def j_X0_dearest_74  (k21 : Int32 → Int32 → Int32 → Int32 → Int32 → Int32 → k_Mem → Option (Int32 × k_Mem)) (x1 : Int32) (x2 : Int32) (x3 : Int32) (x4 : Int32) (x5 : Int32) (x6 : Int32) (σ : k_Mem) : Option (Int32 × k_Mem) :=
  k21 x1 x2 x3 x4 x5 (x6 + 1) σ
set_option maxRecDepth 100000 in
theorem gj_X0_dearest_74 (E : k_EV)   (k21 : Int32 → Int32 → Int32 → Int32 → Int32 → Int32 → k_Mem → Option (Int32 × k_Mem)) (hk21 : ∀ (x1 : Int32) (x2 : Int32) (x3 : Int32) (x4 : Int32) (x5 : Int32) (x6 : Int32)  (σ : k_Mem), k_GO m_X0_dearest E k_vi 21 [(0, k_rf E 46), (1, .int x1), (2, .int x2), (3, .int x3), (4, .int x4), (5, .int x5), (6, .int x6)] [] σ (k21 x1 x2 x3 x4 x5 x6 σ)) (x1 : Int32) (x2 : Int32) (x3 : Int32) (x4 : Int32) (x5 : Int32) (x6 : Int32)  (σ : k_Mem) : k_GO m_X0_dearest E k_vi 74 [(0, k_rf E 46), (1, .int x1), (2, .int x2), (3, .int x3), (4, .int x4), (5, .int x5), (6, .int x6)] [] σ (j_X0_dearest_74  k21 x1 x2 x3 x4 x5 x6 σ) := by
  unfold j_X0_dearest_74
  refine r_iinc 1 (by decide) 6 rfl [(6, .int _), (0, k_rf E 46), (1, .int _), (2, .int _), (3, .int _), (4, .int _), (5, .int _)] rfl (by decide) 77 rfl dX0_dearest_74 ?_
  refine r_goto 21 (by decide) dX0_dearest_77 ?_
  exact r_sub [1, 2, 3, 4, 5, 6, 0] rfl (hk21 _ _ _ _ _ _  _)
def l_X0_dearest_21   : Nat → Int32 → Int32 → Int32 → Int32 → Int32 → Int32 → k_Mem → Option (Int32 × k_Mem)
  | 0, _, _, _, _, _, _, _ => none
  | n + 1, x1, x2, x3, x4, x5, x6, σ =>
    if (x5 + 4) ≤ x6 then (
      some (x3, σ)
    ) else (
      if ((k_shr x2 x6) &&& 1) = 1 then (
        if k_in ((x1 * 8) + x6) 64 then (
          if (σ 51 (k_n ((x1 * 8) + x6))) ≤ x4 then (
            j_X0_dearest_74  (fun x1 x2 x3 x4 x5 x6 σ => l_X0_dearest_21   n x1 x2 x3 x4 x5 x6 σ) x1 x2 x3 x4 x5 x6 σ
          ) else (
            if k_in ((x1 * 8) + x6) 64 then (
              j_X0_dearest_74  (fun x1 x2 x3 x4 x5 x6 σ => l_X0_dearest_21   n x1 x2 x3 x4 x5 x6 σ) x1 x2 x6 (σ 51 (k_n ((x1 * 8) + x6))) x5 x6 σ
            ) else none
          )
        ) else none
      ) else (
        j_X0_dearest_74  (fun x1 x2 x3 x4 x5 x6 σ => l_X0_dearest_21   n x1 x2 x3 x4 x5 x6 σ) x1 x2 x3 x4 x5 x6 σ
      )
    )
set_option maxRecDepth 100000 in
theorem gl_X0_dearest_21 (E : k_EV)     : ∀ (n : Nat) (x1 : Int32) (x2 : Int32) (x3 : Int32) (x4 : Int32) (x5 : Int32) (x6 : Int32)  (σ : k_Mem), k_GO m_X0_dearest E k_vi 21 [(0, k_rf E 46), (1, .int x1), (2, .int x2), (3, .int x3), (4, .int x4), (5, .int x5), (6, .int x6)] [] σ (l_X0_dearest_21   n x1 x2 x3 x4 x5 x6 σ) := by
  intro n
  induction n with
  | zero => intro x1 x2 x3 x4 x5 x6  σ; exact r_none
  | succ n ih =>
    intro x1 x2 x3 x4 x5 x6  σ
    rw [l_X0_dearest_21]
    refine r_iload 6 rfl 23 rfl dX0_dearest_21 ?_
    refine r_iload 5 rfl 25 rfl dX0_dearest_23 ?_
    refine r_iconst 4 (by decide) 26 rfl dX0_dearest_25 ?_
    refine r_iadd 27 rfl dX0_dearest_26 ?_
    refine r_icmp_ge 80 30 rfl (by decide) dX0_dearest_27 (fun c2 => ?_) (fun c2 => ?_)
    · refine r_iload_n 3 rfl rfl 81 rfl dX0_dearest_80 ?_
      exact r_iret rfl dX0_dearest_81
    · refine r_iload_n 2 rfl rfl 31 rfl dX0_dearest_30 ?_
      refine r_iload 6 rfl 33 rfl dX0_dearest_31 ?_
      refine r_ishr 34 rfl dX0_dearest_33 ?_
      refine r_iconst 1 (by decide) 35 rfl dX0_dearest_34 ?_
      refine r_iand 36 rfl dX0_dearest_35 ?_
      refine r_iconst 1 (by decide) 37 rfl dX0_dearest_36 ?_
      refine r_icmp_ne 74 40 rfl (by decide) dX0_dearest_37 (fun c3 => ?_) (fun c3 => ?_)
      · refine r_aload_n 0 rfl rfl 41 rfl dX0_dearest_40 ?_
        refine r_getr fl_X0_24 sh_46 rfl 44 rfl dX0_dearest_41 ?_
        refine r_iload_n 1 rfl rfl 45 rfl dX0_dearest_44 ?_
        refine r_bipush 8 (by decide) 47 rfl dX0_dearest_45 ?_
        refine r_imul 48 rfl dX0_dearest_47 ?_
        refine r_iload 6 rfl 50 rfl dX0_dearest_48 ?_
        refine r_iadd 51 rfl dX0_dearest_50 ?_
        refine r_iald sh_51 52 rfl dX0_dearest_51 ?_
        refine r_iload 4 rfl 54 rfl dX0_dearest_52 ?_
        refine r_icmp_le 74 57 rfl (by decide) dX0_dearest_54 (fun c4 => ?_) (fun c4 => ?_)
        · exact r_sub [0, 1, 2, 3, 4, 5, 6] rfl (gj_X0_dearest_74 E   _ (fun x1 x2 x3 x4 x5 x6  σ => ih x1 x2 x3 x4 x5 x6  σ) _ _ _ _ _ _  _)
        · refine r_iload 6 rfl 59 rfl dX0_dearest_57 ?_
          refine r_istore_n [(3, .int _), (0, k_rf E 46), (1, .int _), (2, .int _), (4, .int _), (5, .int _), (6, .int _)] rfl rfl (by decide) 60 rfl dX0_dearest_59 ?_
          refine r_aload_n 1 rfl rfl 61 rfl dX0_dearest_60 ?_
          refine r_getr fl_X0_24 sh_46 rfl 64 rfl dX0_dearest_61 ?_
          refine r_iload_n 2 rfl rfl 65 rfl dX0_dearest_64 ?_
          refine r_bipush 8 (by decide) 67 rfl dX0_dearest_65 ?_
          refine r_imul 68 rfl dX0_dearest_67 ?_
          refine r_iload 6 rfl 70 rfl dX0_dearest_68 ?_
          refine r_iadd 71 rfl dX0_dearest_70 ?_
          refine r_iald sh_51 72 rfl dX0_dearest_71 ?_
          refine r_istore [(4, .int _), (3, .int _), (0, k_rf E 46), (1, .int _), (2, .int _), (5, .int _), (6, .int _)] rfl (by decide) 74 rfl dX0_dearest_72 ?_
          exact r_sub [2, 3, 4, 1, 0, 5, 6] rfl (gj_X0_dearest_74 E   _ (fun x1 x2 x3 x4 x5 x6  σ => ih x1 x2 x3 x4 x5 x6  σ) _ _ _ _ _ _  _)
      · exact r_sub [0, 1, 2, 3, 4, 5, 6] rfl (gj_X0_dearest_74 E   _ (fun x1 x2 x3 x4 x5 x6  σ => ih x1 x2 x3 x4 x5 x6  σ) _ _ _ _ _ _  _)
def j_X0_dearest_15   (x1 : Int32) (x2 : Int32) (x3 : Int32) (x4 : Int32) (xs0 : Int32) (σ : k_Mem) : Option (Int32 × k_Mem) :=
  l_X0_dearest_21   1000 x1 x2 x3 x4 xs0 xs0 σ
set_option maxRecDepth 100000 in
theorem gj_X0_dearest_15 (E : k_EV)     (x1 : Int32) (x2 : Int32) (x3 : Int32) (x4 : Int32) (xs0 : Int32)  (σ : k_Mem) : k_GO m_X0_dearest E k_vi 15 [(0, k_rf E 46), (1, .int x1), (2, .int x2), (3, .int x3), (4, .int x4)] [.int xs0] σ (j_X0_dearest_15   x1 x2 x3 x4 xs0 σ) := by
  unfold j_X0_dearest_15
  refine r_istore [(5, .int _), (0, k_rf E 46), (1, .int _), (2, .int _), (3, .int _), (4, .int _)] rfl (by decide) 17 rfl dX0_dearest_15 ?_
  refine r_iload 0 rfl 19 rfl dX0_dearest_17 ?_
  refine r_istore [(6, .int _), (5, .int _), (0, k_rf E 46), (1, .int _), (2, .int _), (3, .int _), (4, .int _)] rfl (by decide) 21 rfl dX0_dearest_19 ?_
  exact r_sub [2, 3, 4, 5, 6, 1, 0] rfl (gl_X0_dearest_21 E     1000 _ _ _ _ _ _  _)
def f_X0_dearest  (x1 : Int32) (x2 : Int32) (σ : k_Mem) : Option (Int32 × k_Mem) :=
  if 4 ≤ x1 then (
    j_X0_dearest_15   x1 x2 (-1) (-1) 0 σ
  ) else (
    j_X0_dearest_15   x1 x2 (-1) (-1) 4 σ
  )
set_option maxRecDepth 100000 in
theorem c_X0_dearest (E : k_EV)   (x1 : Int32) (x2 : Int32) (σ : k_Mem) : k_MC m_X0_dearest E k_vi [k_rf E 46, .int x1, .int x2] σ (f_X0_dearest x1 x2 σ) := by
  refine k_MC_of ⟨by decide, by decide⟩ (Nat.le_of_ble_eq_true rfl) ?_
  show k_GO _ _ _ 0 [(0, k_rf E 46), (1, .int x1), (2, .int x2)] [] σ _
  unfold f_X0_dearest
  refine r_iconst (-1) (by decide) 1 rfl dX0_dearest_0 ?_
  refine r_istore_n [(3, .int _), (0, k_rf E 46), (1, .int _), (2, .int _)] rfl rfl (by decide) 2 rfl dX0_dearest_1 ?_
  refine r_iconst (-1) (by decide) 3 rfl dX0_dearest_2 ?_
  refine r_istore [(4, .int _), (3, .int _), (0, k_rf E 46), (1, .int _), (2, .int _)] rfl (by decide) 5 rfl dX0_dearest_3 ?_
  refine r_iload_n 3 rfl rfl 6 rfl dX0_dearest_5 ?_
  refine r_iconst 4 (by decide) 7 rfl dX0_dearest_6 ?_
  refine r_icmp_ge 14 10 rfl (by decide) dX0_dearest_7 (fun c1 => ?_) (fun c1 => ?_)
  · refine r_iconst 0 (by decide) 15 rfl dX0_dearest_14 ?_
    exact r_sub [2, 3, 4, 1, 0] rfl (gj_X0_dearest_15 E     _ _ _ _ _  _)
  · refine r_iconst 4 (by decide) 11 rfl dX0_dearest_10 ?_
    refine r_goto 15 (by decide) dX0_dearest_11 ?_
    exact r_sub [2, 3, 4, 1, 0] rfl (gj_X0_dearest_15 E     _ _ _ _ _  _)
/-! HandMarket$Courtship.answer(II)V -/
def j_X0_answer_34   (x1 : Int32) (x2 : Int32) (σ : k_Mem) : Option (Unit × k_Mem) :=
  if k_in x1 8 then (
    if k_in x2 8 then (
      some ((), (k_mset (k_mset σ 52 (k_n x1) x2) 52 (k_n x2) x1))
    ) else none
  ) else none
set_option maxRecDepth 100000 in
theorem gj_X0_answer_34 (E : k_EV)     (x1 : Int32) (x2 : Int32)  (σ : k_Mem) : k_GO m_X0_answer E k_vv 34 [(0, k_rf E 46), (1, .int x1), (2, .int x2)] [] σ (j_X0_answer_34   x1 x2 σ) := by
  unfold j_X0_answer_34
  refine r_aload_n 0 rfl rfl 35 rfl dX0_answer_34 ?_
  refine r_getr fl_X0_27 sh_46 rfl 38 rfl dX0_answer_35 ?_
  refine r_iload_n 1 rfl rfl 39 rfl dX0_answer_38 ?_
  refine r_iload_n 2 rfl rfl 40 rfl dX0_answer_39 ?_
  refine r_iast sh_52 41 rfl dX0_answer_40 ?_
  refine r_aload_n 0 rfl rfl 42 rfl dX0_answer_41 ?_
  refine r_getr fl_X0_27 sh_46 rfl 45 rfl dX0_answer_42 ?_
  refine r_iload_n 2 rfl rfl 46 rfl dX0_answer_45 ?_
  refine r_iload_n 1 rfl rfl 47 rfl dX0_answer_46 ?_
  refine r_iast sh_52 48 rfl dX0_answer_47 ?_
  exact r_vret rfl dX0_answer_48
def f_X0_answer  (x1 : Int32) (x2 : Int32) (σ : k_Mem) : Option (Unit × k_Mem) :=
  if k_in x2 8 then (
    k_bd (f_X0_wishFor  x2 x1 σ) (fun r1 σ1 =>
      k_bd (f_X0_wishFor  x2 (σ 52 (k_n x2)) σ1) (fun r2 σ2 =>
        if r1 ≤ r2 then (
          some ((), σ2)
        ) else (
          if (σ 52 (k_n x2)) = (-1) then (
            j_X0_answer_34   x1 x2 σ2
          ) else (
            if k_in (σ 52 (k_n x2)) 8 then (
              j_X0_answer_34   x1 x2 (k_mset σ2 52 (k_n (σ 52 (k_n x2))) (-1))
            ) else none
          )
        )
      )
    )
  ) else none
set_option maxRecDepth 100000 in
theorem c_X0_answer (E : k_EV)   (x1 : Int32) (x2 : Int32) (σ : k_Mem) : k_MC m_X0_answer E k_vv [k_rf E 46, .int x1, .int x2] σ (f_X0_answer x1 x2 σ) := by
  refine k_MC_of ⟨by decide, by decide⟩ (Nat.le_of_ble_eq_true rfl) ?_
  show k_GO _ _ _ 0 [(0, k_rf E 46), (1, .int x1), (2, .int x2)] [] σ _
  unfold f_X0_answer
  refine r_aload_n 0 rfl rfl 1 rfl dX0_answer_0 ?_
  refine r_getr fl_X0_27 sh_46 rfl 4 rfl dX0_answer_1 ?_
  refine r_iload_n 2 rfl rfl 5 rfl dX0_answer_4 ?_
  refine r_iald sh_52 6 rfl dX0_answer_5 ?_
  refine r_istore_n [(3, .int _), (0, k_rf E 46), (1, .int _), (2, .int _)] rfl rfl (by decide) 7 rfl dX0_answer_6 ?_
  refine r_aload_n 1 rfl rfl 8 rfl dX0_answer_7 ?_
  refine r_iload_n 3 rfl rfl 9 rfl dX0_answer_8 ?_
  refine r_iload_n 2 rfl rfl 10 rfl dX0_answer_9 ?_
  refine r_calli (c_X0_wishFor E   _ _ _) rfl sh_46 rfl ml_X0_96 cw_X0_wishFor vw_X0_wishFor (by decide) (Nat.le_of_ble_eq_true rfl) 13 rfl dX0_answer_10 (fun r1 σ1 => ?_)
  refine r_aload_n 1 rfl rfl 14 rfl dX0_answer_13 ?_
  refine r_iload_n 3 rfl rfl 15 rfl dX0_answer_14 ?_
  refine r_iload_n 0 rfl rfl 16 rfl dX0_answer_15 ?_
  refine r_calli (c_X0_wishFor E   _ _ _) rfl sh_46 rfl ml_X0_96 cw_X0_wishFor vw_X0_wishFor (by decide) (Nat.le_of_ble_eq_true rfl) 19 rfl dX0_answer_16 (fun r2 σ2 => ?_)
  refine r_icmp_le 48 22 rfl (by decide) dX0_answer_19 (fun c3 => ?_) (fun c3 => ?_)
  · exact r_vret rfl dX0_answer_48
  · refine r_iload_n 0 rfl rfl 23 rfl dX0_answer_22 ?_
    refine r_iconst (-1) (by decide) 24 rfl dX0_answer_23 ?_
    refine r_icmp_eq 34 27 rfl (by decide) dX0_answer_24 (fun c4 => ?_) (fun c4 => ?_)
    · exact r_sub [1, 2, 3] rfl (gj_X0_answer_34 E     _ _  _)
    · refine r_aload_n 1 rfl rfl 28 rfl dX0_answer_27 ?_
      refine r_getr fl_X0_27 sh_46 rfl 31 rfl dX0_answer_28 ?_
      refine r_iload_n 0 rfl rfl 32 rfl dX0_answer_31 ?_
      refine r_iconst (-1) (by decide) 33 rfl dX0_answer_32 ?_
      refine r_iast sh_52 34 rfl dX0_answer_33 ?_
      exact r_sub [1, 2, 3] rfl (gj_X0_answer_34 E     _ _  _)
/-! HandMarket$Courtship.firstAsks(I)Z -/
def j_X0_firstAsks_68  (k2 : Int32 → Int32 → k_Mem → Option (Int32 × k_Mem)) (x1 : Int32) (x2 : Int32) (σ : k_Mem) : Option (Int32 × k_Mem) :=
  k2 x1 (x2 + 1) σ
set_option maxRecDepth 100000 in
theorem gj_X0_firstAsks_68 (E : k_EV)   (k2 : Int32 → Int32 → k_Mem → Option (Int32 × k_Mem)) (hk2 : ∀ (x1 : Int32) (x2 : Int32)  (σ : k_Mem), k_GO m_X0_firstAsks E k_vi 2 [(0, k_rf E 46), (1, .int x1), (2, .int x2)] [] σ (k2 x1 x2 σ)) (x1 : Int32) (x2 : Int32)  (σ : k_Mem) : k_GO m_X0_firstAsks E k_vi 68 [(0, k_rf E 46), (1, .int x1), (2, .int x2)] [] σ (j_X0_firstAsks_68  k2 x1 x2 σ) := by
  unfold j_X0_firstAsks_68
  refine r_iinc 1 (by decide) 2 rfl [(2, .int _), (0, k_rf E 46), (1, .int _)] rfl (by decide) 71 rfl dX0_firstAsks_68 ?_
  refine r_goto 2 (by decide) dX0_firstAsks_71 ?_
  exact r_sub [1, 2, 0] rfl (hk2 _ _  _)
def l_X0_firstAsks_2   : Nat → Int32 → Int32 → k_Mem → Option (Int32 × k_Mem)
  | 0, _, _, _ => none
  | n + 1, x1, x2, σ =>
    if 8 ≤ x2 then (
      some (0, σ)
    ) else (
      if ((k_shr x1 x2) &&& 1) = 0 then (
        j_X0_firstAsks_68  (fun x1 x2 σ => l_X0_firstAsks_2   n x1 x2 σ) x1 x2 σ
      ) else (
        if k_in x2 8 then (
          if (σ 52 (k_n x2)) = (-1) then (
            if k_in x2 8 then (
              k_bd (f_X0_dearest  x2 (σ 53 (k_n x2)) σ) (fun r4 σ4 =>
                if r4 = (-1) then (
                  j_X0_firstAsks_68  (fun x1 x2 σ => l_X0_firstAsks_2   n x1 x2 σ) x1 x2 σ4
                ) else (
                  if k_in x2 8 then (
                    if k_in x2 8 then (
                      k_bd (f_X0_answer  x2 r4 (k_mset σ4 53 (k_n x2) ((σ4 53 (k_n x2)) &&& ((k_shl 1 r4) ^^^ (-1))))) (fun _ σ6 =>
                        some (1, σ6)
                      )
                    ) else none
                  ) else none
                )
              )
            ) else none
          ) else (
            j_X0_firstAsks_68  (fun x1 x2 σ => l_X0_firstAsks_2   n x1 x2 σ) x1 x2 σ
          )
        ) else none
      )
    )
set_option maxRecDepth 100000 in
theorem gl_X0_firstAsks_2 (E : k_EV)     : ∀ (n : Nat) (x1 : Int32) (x2 : Int32)  (σ : k_Mem), k_GO m_X0_firstAsks E k_vi 2 [(0, k_rf E 46), (1, .int x1), (2, .int x2)] [] σ (l_X0_firstAsks_2   n x1 x2 σ) := by
  intro n
  induction n with
  | zero => intro x1 x2  σ; exact r_none
  | succ n ih =>
    intro x1 x2  σ
    rw [l_X0_firstAsks_2]
    refine r_iload_n 2 rfl rfl 3 rfl dX0_firstAsks_2 ?_
    refine r_bipush 8 (by decide) 5 rfl dX0_firstAsks_3 ?_
    refine r_icmp_ge 74 8 rfl (by decide) dX0_firstAsks_5 (fun c1 => ?_) (fun c1 => ?_)
    · refine r_iconst 0 (by decide) 75 rfl dX0_firstAsks_74 ?_
      exact r_zret rfl (Or.inl rfl) dX0_firstAsks_75
    · refine r_iload_n 1 rfl rfl 9 rfl dX0_firstAsks_8 ?_
      refine r_iload_n 2 rfl rfl 10 rfl dX0_firstAsks_9 ?_
      refine r_ishr 11 rfl dX0_firstAsks_10 ?_
      refine r_iconst 1 (by decide) 12 rfl dX0_firstAsks_11 ?_
      refine r_iand 13 rfl dX0_firstAsks_12 ?_
      refine r_if_eq 68 16 rfl (by decide) dX0_firstAsks_13 (fun c2 => ?_) (fun c2 => ?_)
      · exact r_sub [0, 1, 2] rfl (gj_X0_firstAsks_68 E   _ (fun x1 x2  σ => ih x1 x2  σ) _ _  _)
      · refine r_aload_n 0 rfl rfl 17 rfl dX0_firstAsks_16 ?_
        refine r_getr fl_X0_27 sh_46 rfl 20 rfl dX0_firstAsks_17 ?_
        refine r_iload_n 2 rfl rfl 21 rfl dX0_firstAsks_20 ?_
        refine r_iald sh_52 22 rfl dX0_firstAsks_21 ?_
        refine r_iconst (-1) (by decide) 23 rfl dX0_firstAsks_22 ?_
        refine r_icmp_eq 29 26 rfl (by decide) dX0_firstAsks_23 (fun c3 => ?_) (fun c3 => ?_)
        · refine r_aload_n 0 rfl rfl 30 rfl dX0_firstAsks_29 ?_
          refine r_iload_n 2 rfl rfl 31 rfl dX0_firstAsks_30 ?_
          refine r_aload_n 0 rfl rfl 32 rfl dX0_firstAsks_31 ?_
          refine r_getr fl_X0_30 sh_46 rfl 35 rfl dX0_firstAsks_32 ?_
          refine r_iload_n 2 rfl rfl 36 rfl dX0_firstAsks_35 ?_
          refine r_iald sh_53 37 rfl dX0_firstAsks_36 ?_
          refine r_calli (c_X0_dearest E   _ _ _) rfl sh_46 rfl ml_X0_113 cw_X0_dearest vw_X0_dearest (by decide) (Nat.le_of_ble_eq_true rfl) 40 rfl dX0_firstAsks_37 (fun r4 σ4 => ?_)
          refine r_istore_n [(3, .int _), (0, k_rf E 46), (1, .int _), (2, .int _)] rfl rfl (by decide) 41 rfl dX0_firstAsks_40 ?_
          refine r_iload_n 0 rfl rfl 42 rfl dX0_firstAsks_41 ?_
          refine r_iconst (-1) (by decide) 43 rfl dX0_firstAsks_42 ?_
          refine r_icmp_eq 68 46 rfl (by decide) dX0_firstAsks_43 (fun c5 => ?_) (fun c5 => ?_)
          · exact r_sub [1, 2, 3] rfl (gj_X0_firstAsks_68 E   _ (fun x1 x2  σ => ih x1 x2  σ) _ _  _)
          · refine r_aload_n 1 rfl rfl 47 rfl dX0_firstAsks_46 ?_
            refine r_getr fl_X0_30 sh_46 rfl 50 rfl dX0_firstAsks_47 ?_
            refine r_iload_n 3 rfl rfl 51 rfl dX0_firstAsks_50 ?_
            refine r_dup2 52 rfl dX0_firstAsks_51 rfl rfl ?_
            refine r_iald sh_53 53 rfl dX0_firstAsks_52 ?_
            refine r_iconst 1 (by decide) 54 rfl dX0_firstAsks_53 ?_
            refine r_iload_n 0 rfl rfl 55 rfl dX0_firstAsks_54 ?_
            refine r_ishl 56 rfl dX0_firstAsks_55 ?_
            refine r_iconst (-1) (by decide) 57 rfl dX0_firstAsks_56 ?_
            refine r_ixor 58 rfl dX0_firstAsks_57 ?_
            refine r_iand 59 rfl dX0_firstAsks_58 ?_
            refine r_iast sh_53 60 rfl dX0_firstAsks_59 ?_
            refine r_aload_n 1 rfl rfl 61 rfl dX0_firstAsks_60 ?_
            refine r_iload_n 3 rfl rfl 62 rfl dX0_firstAsks_61 ?_
            refine r_iload_n 0 rfl rfl 63 rfl dX0_firstAsks_62 ?_
            refine r_callv (c_X0_answer E   _ _ _) rfl sh_46 rfl ml_X0_116 cw_X0_answer vw_X0_answer (by decide) (Nat.le_of_ble_eq_true rfl) 66 rfl dX0_firstAsks_63 (fun _ σ6 => ?_)
            refine r_iconst 1 (by decide) 67 rfl dX0_firstAsks_66 ?_
            exact r_zret rfl (Or.inr rfl) dX0_firstAsks_67
        · refine r_goto 68 (by decide) dX0_firstAsks_26 ?_
          exact r_sub [0, 1, 2] rfl (gj_X0_firstAsks_68 E   _ (fun x1 x2  σ => ih x1 x2  σ) _ _  _)
def f_X0_firstAsks  (x1 : Int32) (σ : k_Mem) : Option (Int32 × k_Mem) :=
  l_X0_firstAsks_2   1000 x1 0 σ
set_option maxRecDepth 100000 in
theorem c_X0_firstAsks (E : k_EV)   (x1 : Int32) (σ : k_Mem) : k_MC m_X0_firstAsks E k_vi [k_rf E 46, .int x1] σ (f_X0_firstAsks x1 σ) := by
  refine k_MC_of ⟨by decide, by decide⟩ (Nat.le_of_ble_eq_true rfl) ?_
  show k_GO _ _ _ 0 [(0, k_rf E 46), (1, .int x1)] [] σ _
  unfold f_X0_firstAsks
  refine r_iconst 0 (by decide) 1 rfl dX0_firstAsks_0 ?_
  refine r_istore_n [(2, .int _), (0, k_rf E 46), (1, .int _)] rfl rfl (by decide) 2 rfl dX0_firstAsks_1 ?_
  exact r_sub [1, 2, 0] rfl (gl_X0_firstAsks_2 E     1000 _ _  _)
/-! HandMarket$Courtship.ask(II)V -/
def l_X0_ask_18   : Nat → Int32 → Int32 → k_Mem → Option (Unit × k_Mem)
  | 0, _, _, _ => none
  | n + 1, x1, x3, σ =>
    if 1000 ≤ x3 then (
      some ((), σ)
    ) else (
      k_bd (f_X0_firstAsks  x1 σ) (fun r4 σ4 =>
        if r4 = 0 then (
          some ((), σ4)
        ) else (
          l_X0_ask_18   n x1 (x3 + 1) σ4
        )
      )
    )
set_option maxRecDepth 100000 in
theorem gl_X0_ask_18 (E : k_EV)     : ∀ (n : Nat) (x1 : Int32) (x3 : Int32)  (σ : k_Mem), k_GO m_X0_ask E k_vv 18 [(0, k_rf E 46), (1, .int x1), (3, .int x3)] [] σ (l_X0_ask_18   n x1 x3 σ) := by
  intro n
  induction n with
  | zero => intro x1 x3  σ; exact r_none
  | succ n ih =>
    intro x1 x3  σ
    rw [l_X0_ask_18]
    refine r_iload_n 2 rfl rfl 19 rfl dX0_ask_18 ?_
    refine r_sipush 1000 (by decide) 22 rfl dX0_ask_19 ?_
    refine r_icmp_ge 39 25 rfl (by decide) dX0_ask_22 (fun c3 => ?_) (fun c3 => ?_)
    · exact r_vret rfl dX0_ask_39
    · refine r_aload_n 0 rfl rfl 26 rfl dX0_ask_25 ?_
      refine r_iload_n 1 rfl rfl 27 rfl dX0_ask_26 ?_
      refine r_calli (c_X0_firstAsks E   _ _) rfl sh_46 rfl ml_X0_110 cw_X0_firstAsks vw_X0_firstAsks (by decide) (Nat.le_of_ble_eq_true rfl) 30 rfl dX0_ask_27 (fun r4 σ4 => ?_)
      refine r_if_eq 39 33 rfl (by decide) dX0_ask_30 (fun c5 => ?_) (fun c5 => ?_)
      · exact r_vret rfl dX0_ask_39
      · refine r_iinc 1 (by decide) 2 rfl [(3, .int _), (0, k_rf E 46), (1, .int _)] rfl (by decide) 36 rfl dX0_ask_33 ?_
        refine r_goto 18 (by decide) dX0_ask_36 ?_
        exact r_sub [1, 2, 0] rfl (ih _ _  _)
def f_X0_ask  (x1 : Int32) (x2 : Int32) (σ : k_Mem) : Option (Unit × k_Mem) :=
  k_bd (f_J7_fill_53178 52 8 (-1) σ) (fun _ σ1 =>
    k_bd (f_J7_fill_53178 53 8 x2 σ1) (fun _ σ2 =>
      l_X0_ask_18   1000 x1 0 σ2
    )
  )
set_option maxRecDepth 100000 in
theorem c_X0_ask (E : k_EV)   (x1 : Int32) (x2 : Int32) (σ : k_Mem) : k_MC m_X0_ask E k_vv [k_rf E 46, .int x1, .int x2] σ (f_X0_ask x1 x2 σ) := by
  refine k_MC_of ⟨by decide, by decide⟩ (Nat.le_of_ble_eq_true rfl) ?_
  show k_GO _ _ _ 0 [(0, k_rf E 46), (1, .int x1), (2, .int x2)] [] σ _
  unfold f_X0_ask
  refine r_aload_n 0 rfl rfl 1 rfl dX0_ask_0 ?_
  refine r_getr fl_X0_27 sh_46 rfl 4 rfl dX0_ask_1 ?_
  refine r_iconst (-1) (by decide) 5 rfl dX0_ask_4 ?_
  refine r_callsv (c_J7_fill_53178 E 52 8 sh_52 _ _) rfl ml_X0_46 cw_J7_fill_53178 sw_J7_fill_53178 (by decide) (Nat.le_of_ble_eq_true rfl) 8 rfl dX0_ask_5 (fun _ σ1 => ?_)
  refine r_aload_n 0 rfl rfl 9 rfl dX0_ask_8 ?_
  refine r_getr fl_X0_30 sh_46 rfl 12 rfl dX0_ask_9 ?_
  refine r_iload_n 2 rfl rfl 13 rfl dX0_ask_12 ?_
  refine r_callsv (c_J7_fill_53178 E 53 8 sh_53 _ _) rfl ml_X0_46 cw_J7_fill_53178 sw_J7_fill_53178 (by decide) (Nat.le_of_ble_eq_true rfl) 16 rfl dX0_ask_13 (fun _ σ2 => ?_)
  refine r_iconst 0 (by decide) 17 rfl dX0_ask_16 ?_
  refine r_istore_n [(3, .int _), (0, k_rf E 46), (1, .int _), (2, .int _)] rfl rfl (by decide) 18 rfl dX0_ask_17 ?_
  exact r_sub [1, 2, 0] rfl (gl_X0_ask_18 E     1000 _ _  _)
/-! HandMarket$Courtship.court(LHandMarket$Town;I)V -/
def f_X0_court (b1 : Nat) (x2 : Int32) (σ : k_Mem) : Option (Unit × k_Mem) :=
  k_bd (f_X0_weigh b1  σ) (fun _ σ1 =>
    if x2 = 0 then (
      k_bd (f_X0_ask  ((σ1 46 8) &&& 15) ((σ1 46 8) &&& 240) σ1) (fun _ σ3 =>
        some ((), σ3)
      )
    ) else (
      k_bd (f_X0_ask  ((σ1 46 8) &&& 240) ((σ1 46 8) &&& 15) σ1) (fun _ σ4 =>
        some ((), σ4)
      )
    )
  )
set_option maxRecDepth 100000 in
theorem c_X0_court (E : k_EV) (b1 : Nat) (hb1 : k_isT b1) (x2 : Int32) (σ : k_Mem) : k_MC m_X0_court E k_vv [k_rf E 46, k_rf E b1, .int x2] σ (f_X0_court b1 x2 σ) := by
  refine k_MC_of ⟨by decide, by decide⟩ (Nat.le_of_ble_eq_true rfl) ?_
  show k_GO _ _ _ 0 [(0, k_rf E 46), (1, k_rf E b1), (2, .int x2)] [] σ _
  unfold f_X0_court
  refine r_aload_n 0 rfl rfl 1 rfl dX0_court_0 ?_
  refine r_aload_n 1 rfl rfl 2 rfl dX0_court_1 ?_
  refine r_callv (c_X0_weigh E b1 hb1  _) rfl sh_46 rfl ml_X0_102 cw_X0_weigh vw_X0_weigh (by decide) (Nat.le_of_ble_eq_true rfl) 5 rfl dX0_court_2 (fun _ σ1 => ?_)
  refine r_aload_n 0 rfl rfl 6 rfl dX0_court_5 ?_
  refine r_geti fl_X0_42 sh_46 rfl 9 rfl dX0_court_6 ?_
  refine r_bipush 15 (by decide) 11 rfl dX0_court_9 ?_
  refine r_iand 12 rfl dX0_court_11 ?_
  refine r_istore_n [(3, .int _), (0, k_rf E 46), (1, k_rf E b1), (2, .int _)] rfl rfl (by decide) 13 rfl dX0_court_12 ?_
  refine r_aload_n 1 rfl rfl 14 rfl dX0_court_13 ?_
  refine r_geti fl_X0_42 sh_46 rfl 17 rfl dX0_court_14 ?_
  refine r_sipush 240 (by decide) 20 rfl dX0_court_17 ?_
  refine r_iand 21 rfl dX0_court_20 ?_
  refine r_istore [(4, .int _), (3, .int _), (0, k_rf E 46), (1, k_rf E b1), (2, .int _)] rfl (by decide) 23 rfl dX0_court_21 ?_
  refine r_iload_n 4 rfl rfl 24 rfl dX0_court_23 ?_
  refine r_if_ne 37 27 rfl (by decide) dX0_court_24 (fun c2 => ?_) (fun c2 => ?_)
  · refine r_aload_n 2 rfl rfl 28 rfl dX0_court_27 ?_
    refine r_iload_n 1 rfl rfl 29 rfl dX0_court_28 ?_
    refine r_iload 0 rfl 31 rfl dX0_court_29 ?_
    refine r_callv (c_X0_ask E   _ _ _) rfl sh_46 rfl ml_X0_106 cw_X0_ask vw_X0_ask (by decide) (Nat.le_of_ble_eq_true rfl) 34 rfl dX0_court_31 (fun _ σ3 => ?_)
    refine r_goto 44 (by decide) dX0_court_34 ?_
    exact r_vret rfl dX0_court_44
  · refine r_aload_n 2 rfl rfl 38 rfl dX0_court_37 ?_
    refine r_iload 0 rfl 40 rfl dX0_court_38 ?_
    refine r_iload_n 1 rfl rfl 41 rfl dX0_court_40 ?_
    refine r_callv (c_X0_ask E   _ _ _) rfl sh_46 rfl ml_X0_106 cw_X0_ask vw_X0_ask (by decide) (Nat.le_of_ble_eq_true rfl) 44 rfl dX0_court_41 (fun _ σ4 => ?_)
    exact r_vret rfl dX0_court_44
/-! HandMarket$Courtship.matedBits()I -/
def j_X0_matedBits_26  (k4 : Int32 → Int32 → k_Mem → Option (Int32 × k_Mem)) (x1 : Int32) (x2 : Int32) (σ : k_Mem) : Option (Int32 × k_Mem) :=
  k4 x1 (x2 + 1) σ
set_option maxRecDepth 100000 in
theorem gj_X0_matedBits_26 (E : k_EV)   (k4 : Int32 → Int32 → k_Mem → Option (Int32 × k_Mem)) (hk4 : ∀ (x1 : Int32) (x2 : Int32)  (σ : k_Mem), k_GO m_X0_matedBits E k_vi 4 [(0, k_rf E 46), (1, .int x1), (2, .int x2)] [] σ (k4 x1 x2 σ)) (x1 : Int32) (x2 : Int32)  (σ : k_Mem) : k_GO m_X0_matedBits E k_vi 26 [(0, k_rf E 46), (1, .int x1), (2, .int x2)] [] σ (j_X0_matedBits_26  k4 x1 x2 σ) := by
  unfold j_X0_matedBits_26
  refine r_iinc 1 (by decide) 2 rfl [(2, .int _), (0, k_rf E 46), (1, .int _)] rfl (by decide) 29 rfl dX0_matedBits_26 ?_
  refine r_goto 4 (by decide) dX0_matedBits_29 ?_
  exact r_sub [1, 2, 0] rfl (hk4 _ _  _)
def l_X0_matedBits_4   : Nat → Int32 → Int32 → k_Mem → Option (Int32 × k_Mem)
  | 0, _, _, _ => none
  | n + 1, x1, x2, σ =>
    if 8 ≤ x2 then (
      some (x1, σ)
    ) else (
      if k_in x2 8 then (
        if (σ 52 (k_n x2)) = (-1) then (
          j_X0_matedBits_26  (fun x1 x2 σ => l_X0_matedBits_4   n x1 x2 σ) x1 x2 σ
        ) else (
          j_X0_matedBits_26  (fun x1 x2 σ => l_X0_matedBits_4   n x1 x2 σ) (x1 ||| (k_shl 1 x2)) x2 σ
        )
      ) else none
    )
set_option maxRecDepth 100000 in
theorem gl_X0_matedBits_4 (E : k_EV)     : ∀ (n : Nat) (x1 : Int32) (x2 : Int32)  (σ : k_Mem), k_GO m_X0_matedBits E k_vi 4 [(0, k_rf E 46), (1, .int x1), (2, .int x2)] [] σ (l_X0_matedBits_4   n x1 x2 σ) := by
  intro n
  induction n with
  | zero => intro x1 x2  σ; exact r_none
  | succ n ih =>
    intro x1 x2  σ
    rw [l_X0_matedBits_4]
    refine r_iload_n 2 rfl rfl 5 rfl dX0_matedBits_4 ?_
    refine r_bipush 8 (by decide) 7 rfl dX0_matedBits_5 ?_
    refine r_icmp_ge 32 10 rfl (by decide) dX0_matedBits_7 (fun c1 => ?_) (fun c1 => ?_)
    · refine r_iload_n 1 rfl rfl 33 rfl dX0_matedBits_32 ?_
      exact r_iret rfl dX0_matedBits_33
    · refine r_aload_n 0 rfl rfl 11 rfl dX0_matedBits_10 ?_
      refine r_getr fl_X0_27 sh_46 rfl 14 rfl dX0_matedBits_11 ?_
      refine r_iload_n 2 rfl rfl 15 rfl dX0_matedBits_14 ?_
      refine r_iald sh_52 16 rfl dX0_matedBits_15 ?_
      refine r_iconst (-1) (by decide) 17 rfl dX0_matedBits_16 ?_
      refine r_icmp_eq 26 20 rfl (by decide) dX0_matedBits_17 (fun c2 => ?_) (fun c2 => ?_)
      · exact r_sub [0, 1, 2] rfl (gj_X0_matedBits_26 E   _ (fun x1 x2  σ => ih x1 x2  σ) _ _  _)
      · refine r_iload_n 1 rfl rfl 21 rfl dX0_matedBits_20 ?_
        refine r_iconst 1 (by decide) 22 rfl dX0_matedBits_21 ?_
        refine r_iload_n 2 rfl rfl 23 rfl dX0_matedBits_22 ?_
        refine r_ishl 24 rfl dX0_matedBits_23 ?_
        refine r_ior 25 rfl dX0_matedBits_24 ?_
        refine r_istore_n [(1, .int _), (0, k_rf E 46), (2, .int _)] rfl rfl (by decide) 26 rfl dX0_matedBits_25 ?_
        exact r_sub [1, 0, 2] rfl (gj_X0_matedBits_26 E   _ (fun x1 x2  σ => ih x1 x2  σ) _ _  _)
def f_X0_matedBits   (σ : k_Mem) : Option (Int32 × k_Mem) :=
  l_X0_matedBits_4   1000 0 0 σ
set_option maxRecDepth 100000 in
theorem c_X0_matedBits (E : k_EV)    (σ : k_Mem) : k_MC m_X0_matedBits E k_vi [k_rf E 46] σ (f_X0_matedBits  σ) := by
  refine k_MC_of ⟨by decide, by decide⟩ (Nat.le_of_ble_eq_true rfl) ?_
  show k_GO _ _ _ 0 [(0, k_rf E 46)] [] σ _
  unfold f_X0_matedBits
  refine r_iconst 0 (by decide) 1 rfl dX0_matedBits_0 ?_
  refine r_istore_n [(1, .int _), (0, k_rf E 46)] rfl rfl (by decide) 2 rfl dX0_matedBits_1 ?_
  refine r_iconst 0 (by decide) 3 rfl dX0_matedBits_2 ?_
  refine r_istore_n [(2, .int _), (1, .int _), (0, k_rf E 46)] rfl rfl (by decide) 4 rfl dX0_matedBits_3 ?_
  exact r_sub [2, 1, 0] rfl (gl_X0_matedBits_4 E     1000 _ _  _)
/-! HandMarket$Courtship.pairs()I -/
def f_X0_pairs   (σ : k_Mem) : Option (Int32 × k_Mem) :=
  k_bd (f_X0_matedBits   σ) (fun r1 σ1 =>
    k_bd (f_J6_bitCount_0f7a4  (r1 &&& 15) σ1) (fun r2 σ2 =>
      some (r2, σ2)
    )
  )
set_option maxRecDepth 100000 in
theorem c_X0_pairs (E : k_EV)    (σ : k_Mem) : k_MC m_X0_pairs E k_vi [k_rf E 46] σ (f_X0_pairs  σ) := by
  refine k_MC_of ⟨by decide, by decide⟩ (Nat.le_of_ble_eq_true rfl) ?_
  show k_GO _ _ _ 0 [(0, k_rf E 46)] [] σ _
  unfold f_X0_pairs
  refine r_aload_n 0 rfl rfl 1 rfl dX0_pairs_0 ?_
  refine r_calli (c_X0_matedBits E    _) rfl sh_46 rfl ml_X0_119 cw_X0_matedBits vw_X0_matedBits (by decide) (Nat.le_of_ble_eq_true rfl) 4 rfl dX0_pairs_1 (fun r1 σ1 => ?_)
  refine r_bipush 15 (by decide) 6 rfl dX0_pairs_4 ?_
  refine r_iand 7 rfl dX0_pairs_6 ?_
  refine r_callsi (c_J6_bitCount_0f7a4 E   _ _) rfl ml_X0_122 cw_J6_bitCount_0f7a4 sw_J6_bitCount_0f7a4 (by decide) (Nat.le_of_ble_eq_true rfl) 10 rfl dX0_pairs_7 (fun r2 σ2 => ?_)
  exact r_iret rfl dX0_pairs_10
/-! HandMarket$Courtship.allLikes()I -/
def j_X0_allLikes_34  (k4 : Int32 → Int32 → k_Mem → Option (Int32 × k_Mem)) (x1 : Int32) (x2 : Int32) (σ : k_Mem) : Option (Int32 × k_Mem) :=
  k4 x1 (x2 + 1) σ
set_option maxRecDepth 100000 in
theorem gj_X0_allLikes_34 (E : k_EV)   (k4 : Int32 → Int32 → k_Mem → Option (Int32 × k_Mem)) (hk4 : ∀ (x1 : Int32) (x2 : Int32)  (σ : k_Mem), k_GO m_X0_allLikes E k_vi 4 [(0, k_rf E 46), (1, .int x1), (2, .int x2)] [] σ (k4 x1 x2 σ)) (x1 : Int32) (x2 : Int32)  (σ : k_Mem) : k_GO m_X0_allLikes E k_vi 34 [(0, k_rf E 46), (1, .int x1), (2, .int x2)] [] σ (j_X0_allLikes_34  k4 x1 x2 σ) := by
  unfold j_X0_allLikes_34
  refine r_iinc 1 (by decide) 2 rfl [(2, .int _), (0, k_rf E 46), (1, .int _)] rfl (by decide) 37 rfl dX0_allLikes_34 ?_
  refine r_goto 4 (by decide) dX0_allLikes_37 ?_
  exact r_sub [1, 2, 0] rfl (hk4 _ _  _)
def l_X0_allLikes_4   : Nat → Int32 → Int32 → k_Mem → Option (Int32 × k_Mem)
  | 0, _, _, _ => none
  | n + 1, x1, x2, σ =>
    if 8 ≤ x2 then (
      some (x1, σ)
    ) else (
      if k_in x2 8 then (
        if (σ 52 (k_n x2)) = (-1) then (
          j_X0_allLikes_34  (fun x1 x2 σ => l_X0_allLikes_4   n x1 x2 σ) x1 x2 σ
        ) else (
          if k_in x2 8 then (
            k_bd (f_X0_liking  x2 (σ 52 (k_n x2)) σ) (fun r3 σ3 =>
              j_X0_allLikes_34  (fun x1 x2 σ => l_X0_allLikes_4   n x1 x2 σ) (x1 + r3) x2 σ3
            )
          ) else none
        )
      ) else none
    )
set_option maxRecDepth 100000 in
theorem gl_X0_allLikes_4 (E : k_EV)     : ∀ (n : Nat) (x1 : Int32) (x2 : Int32)  (σ : k_Mem), k_GO m_X0_allLikes E k_vi 4 [(0, k_rf E 46), (1, .int x1), (2, .int x2)] [] σ (l_X0_allLikes_4   n x1 x2 σ) := by
  intro n
  induction n with
  | zero => intro x1 x2  σ; exact r_none
  | succ n ih =>
    intro x1 x2  σ
    rw [l_X0_allLikes_4]
    refine r_iload_n 2 rfl rfl 5 rfl dX0_allLikes_4 ?_
    refine r_bipush 8 (by decide) 7 rfl dX0_allLikes_5 ?_
    refine r_icmp_ge 40 10 rfl (by decide) dX0_allLikes_7 (fun c1 => ?_) (fun c1 => ?_)
    · refine r_iload_n 1 rfl rfl 41 rfl dX0_allLikes_40 ?_
      exact r_iret rfl dX0_allLikes_41
    · refine r_aload_n 0 rfl rfl 11 rfl dX0_allLikes_10 ?_
      refine r_getr fl_X0_27 sh_46 rfl 14 rfl dX0_allLikes_11 ?_
      refine r_iload_n 2 rfl rfl 15 rfl dX0_allLikes_14 ?_
      refine r_iald sh_52 16 rfl dX0_allLikes_15 ?_
      refine r_iconst (-1) (by decide) 17 rfl dX0_allLikes_16 ?_
      refine r_icmp_eq 34 20 rfl (by decide) dX0_allLikes_17 (fun c2 => ?_) (fun c2 => ?_)
      · exact r_sub [0, 1, 2] rfl (gj_X0_allLikes_34 E   _ (fun x1 x2  σ => ih x1 x2  σ) _ _  _)
      · refine r_iload_n 1 rfl rfl 21 rfl dX0_allLikes_20 ?_
        refine r_aload_n 0 rfl rfl 22 rfl dX0_allLikes_21 ?_
        refine r_iload_n 2 rfl rfl 23 rfl dX0_allLikes_22 ?_
        refine r_aload_n 0 rfl rfl 24 rfl dX0_allLikes_23 ?_
        refine r_getr fl_X0_27 sh_46 rfl 27 rfl dX0_allLikes_24 ?_
        refine r_iload_n 2 rfl rfl 28 rfl dX0_allLikes_27 ?_
        refine r_iald sh_52 29 rfl dX0_allLikes_28 ?_
        refine r_calli (c_X0_liking E   _ _ _) rfl sh_46 rfl ml_X0_127 cw_X0_liking vw_X0_liking (by decide) (Nat.le_of_ble_eq_true rfl) 32 rfl dX0_allLikes_29 (fun r3 σ3 => ?_)
        refine r_iadd 33 rfl dX0_allLikes_32 ?_
        refine r_istore_n [(1, .int _), (0, k_rf E 46), (2, .int _)] rfl rfl (by decide) 34 rfl dX0_allLikes_33 ?_
        exact r_sub [1, 0, 2] rfl (gj_X0_allLikes_34 E   _ (fun x1 x2  σ => ih x1 x2  σ) _ _  _)
def f_X0_allLikes   (σ : k_Mem) : Option (Int32 × k_Mem) :=
  l_X0_allLikes_4   1000 0 0 σ
set_option maxRecDepth 100000 in
theorem c_X0_allLikes (E : k_EV)    (σ : k_Mem) : k_MC m_X0_allLikes E k_vi [k_rf E 46] σ (f_X0_allLikes  σ) := by
  refine k_MC_of ⟨by decide, by decide⟩ (Nat.le_of_ble_eq_true rfl) ?_
  show k_GO _ _ _ 0 [(0, k_rf E 46)] [] σ _
  unfold f_X0_allLikes
  refine r_iconst 0 (by decide) 1 rfl dX0_allLikes_0 ?_
  refine r_istore_n [(1, .int _), (0, k_rf E 46)] rfl rfl (by decide) 2 rfl dX0_allLikes_1 ?_
  refine r_iconst 0 (by decide) 3 rfl dX0_allLikes_2 ?_
  refine r_istore_n [(2, .int _), (1, .int _), (0, k_rf E 46)] rfl rfl (by decide) 4 rfl dX0_allLikes_3 ?_
  exact r_sub [2, 1, 0] rfl (gl_X0_allLikes_4 E     1000 _ _  _)
/-! HandMarket$Courtship.quarrelOver(II)Z -/
def f_X0_quarrelOver  (x1 : Int32) (x2 : Int32) (σ : k_Mem) : Option (Int32 × k_Mem) :=
  k_bd (f_X0_wishFor  x1 x2 σ) (fun r1 σ1 =>
    if k_in x1 8 then (
      k_bd (f_X0_wishFor  x1 (σ1 52 (k_n x1)) σ1) (fun r2 σ2 =>
        if r1 ≤ r2 then (
          some (0, σ2)
        ) else (
          k_bd (f_X0_wishFor  x2 x1 σ2) (fun r4 σ4 =>
            if k_in x2 8 then (
              k_bd (f_X0_wishFor  x2 (σ4 52 (k_n x2)) σ4) (fun r5 σ5 =>
                if r4 ≤ r5 then (
                  some (0, σ5)
                ) else (
                  some (1, σ5)
                )
              )
            ) else none
          )
        )
      )
    ) else none
  )
set_option maxRecDepth 100000 in
theorem c_X0_quarrelOver (E : k_EV)   (x1 : Int32) (x2 : Int32) (σ : k_Mem) : k_MC m_X0_quarrelOver E k_vi [k_rf E 46, .int x1, .int x2] σ (f_X0_quarrelOver x1 x2 σ) := by
  refine k_MC_of ⟨by decide, by decide⟩ (Nat.le_of_ble_eq_true rfl) ?_
  show k_GO _ _ _ 0 [(0, k_rf E 46), (1, .int x1), (2, .int x2)] [] σ _
  unfold f_X0_quarrelOver
  refine r_aload_n 0 rfl rfl 1 rfl dX0_quarrelOver_0 ?_
  refine r_iload_n 1 rfl rfl 2 rfl dX0_quarrelOver_1 ?_
  refine r_iload_n 2 rfl rfl 3 rfl dX0_quarrelOver_2 ?_
  refine r_calli (c_X0_wishFor E   _ _ _) rfl sh_46 rfl ml_X0_96 cw_X0_wishFor vw_X0_wishFor (by decide) (Nat.le_of_ble_eq_true rfl) 6 rfl dX0_quarrelOver_3 (fun r1 σ1 => ?_)
  refine r_aload_n 0 rfl rfl 7 rfl dX0_quarrelOver_6 ?_
  refine r_iload_n 1 rfl rfl 8 rfl dX0_quarrelOver_7 ?_
  refine r_aload_n 0 rfl rfl 9 rfl dX0_quarrelOver_8 ?_
  refine r_getr fl_X0_27 sh_46 rfl 12 rfl dX0_quarrelOver_9 ?_
  refine r_iload_n 1 rfl rfl 13 rfl dX0_quarrelOver_12 ?_
  refine r_iald sh_52 14 rfl dX0_quarrelOver_13 ?_
  refine r_calli (c_X0_wishFor E   _ _ _) rfl sh_46 rfl ml_X0_96 cw_X0_wishFor vw_X0_wishFor (by decide) (Nat.le_of_ble_eq_true rfl) 17 rfl dX0_quarrelOver_14 (fun r2 σ2 => ?_)
  refine r_icmp_le 44 20 rfl (by decide) dX0_quarrelOver_17 (fun c3 => ?_) (fun c3 => ?_)
  · refine r_iconst 0 (by decide) 45 rfl dX0_quarrelOver_44 ?_
    exact r_zret rfl (Or.inl rfl) dX0_quarrelOver_45
  · refine r_aload_n 0 rfl rfl 21 rfl dX0_quarrelOver_20 ?_
    refine r_iload_n 2 rfl rfl 22 rfl dX0_quarrelOver_21 ?_
    refine r_iload_n 1 rfl rfl 23 rfl dX0_quarrelOver_22 ?_
    refine r_calli (c_X0_wishFor E   _ _ _) rfl sh_46 rfl ml_X0_96 cw_X0_wishFor vw_X0_wishFor (by decide) (Nat.le_of_ble_eq_true rfl) 26 rfl dX0_quarrelOver_23 (fun r4 σ4 => ?_)
    refine r_aload_n 0 rfl rfl 27 rfl dX0_quarrelOver_26 ?_
    refine r_iload_n 2 rfl rfl 28 rfl dX0_quarrelOver_27 ?_
    refine r_aload_n 0 rfl rfl 29 rfl dX0_quarrelOver_28 ?_
    refine r_getr fl_X0_27 sh_46 rfl 32 rfl dX0_quarrelOver_29 ?_
    refine r_iload_n 2 rfl rfl 33 rfl dX0_quarrelOver_32 ?_
    refine r_iald sh_52 34 rfl dX0_quarrelOver_33 ?_
    refine r_calli (c_X0_wishFor E   _ _ _) rfl sh_46 rfl ml_X0_96 cw_X0_wishFor vw_X0_wishFor (by decide) (Nat.le_of_ble_eq_true rfl) 37 rfl dX0_quarrelOver_34 (fun r5 σ5 => ?_)
    refine r_icmp_le 44 40 rfl (by decide) dX0_quarrelOver_37 (fun c6 => ?_) (fun c6 => ?_)
    · refine r_iconst 0 (by decide) 45 rfl dX0_quarrelOver_44 ?_
      exact r_zret rfl (Or.inl rfl) dX0_quarrelOver_45
    · refine r_iconst 1 (by decide) 41 rfl dX0_quarrelOver_40 ?_
      refine r_goto 45 (by decide) dX0_quarrelOver_41 ?_
      exact r_zret rfl (Or.inr rfl) dX0_quarrelOver_45
/-! HandMarket$Courtship.firstQuarrel()I -/
def l_X0_firstQuarrel_9  (k2 : Int32 → k_Mem → Option (Int32 × k_Mem)) : Nat → Int32 → Int32 → k_Mem → Option (Int32 × k_Mem)
  | 0, _, _, _ => none
  | n + 1, x1, x2, σ =>
    if 8 ≤ x2 then (
      k2 (x1 + 1) σ
    ) else (
      k_bd (f_X0_quarrelOver  x1 x2 σ) (fun r3 σ3 =>
        if r3 = 0 then (
          l_X0_firstQuarrel_9  k2 n x1 (x2 + 1) σ3
        ) else (
          some (((10 * x1) + x2), σ3)
        )
      )
    )
set_option maxRecDepth 100000 in
theorem gl_X0_firstQuarrel_9 (E : k_EV)   (k2 : Int32 → k_Mem → Option (Int32 × k_Mem)) (hk2 : ∀ (x1 : Int32)  (σ : k_Mem), k_GO m_X0_firstQuarrel E k_vi 2 [(0, k_rf E 46), (1, .int x1)] [] σ (k2 x1 σ)) : ∀ (n : Nat) (x1 : Int32) (x2 : Int32)  (σ : k_Mem), k_GO m_X0_firstQuarrel E k_vi 9 [(0, k_rf E 46), (1, .int x1), (2, .int x2)] [] σ (l_X0_firstQuarrel_9  k2 n x1 x2 σ) := by
  intro n
  induction n with
  | zero => intro x1 x2  σ; exact r_none
  | succ n ih =>
    intro x1 x2  σ
    rw [l_X0_firstQuarrel_9]
    refine r_iload_n 2 rfl rfl 10 rfl dX0_firstQuarrel_9 ?_
    refine r_bipush 8 (by decide) 12 rfl dX0_firstQuarrel_10 ?_
    refine r_icmp_ge 37 15 rfl (by decide) dX0_firstQuarrel_12 (fun c2 => ?_) (fun c2 => ?_)
    · refine r_iinc 1 (by decide) 1 rfl [(1, .int _), (0, k_rf E 46), (2, .int _)] rfl (by decide) 40 rfl dX0_firstQuarrel_37 ?_
      refine r_goto 2 (by decide) dX0_firstQuarrel_40 ?_
      exact r_sub [1, 0] rfl (hk2 _  _)
    · refine r_aload_n 0 rfl rfl 16 rfl dX0_firstQuarrel_15 ?_
      refine r_iload_n 1 rfl rfl 17 rfl dX0_firstQuarrel_16 ?_
      refine r_iload_n 2 rfl rfl 18 rfl dX0_firstQuarrel_17 ?_
      refine r_calli (c_X0_quarrelOver E   _ _ _) rfl sh_46 rfl ml_X0_139 cw_X0_quarrelOver vw_X0_quarrelOver (by decide) (Nat.le_of_ble_eq_true rfl) 21 rfl dX0_firstQuarrel_18 (fun r3 σ3 => ?_)
      refine r_if_eq 31 24 rfl (by decide) dX0_firstQuarrel_21 (fun c4 => ?_) (fun c4 => ?_)
      · refine r_iinc 1 (by decide) 2 rfl [(2, .int _), (0, k_rf E 46), (1, .int _)] rfl (by decide) 34 rfl dX0_firstQuarrel_31 ?_
        refine r_goto 9 (by decide) dX0_firstQuarrel_34 ?_
        exact r_sub [1, 2, 0] rfl (ih _ _  _)
      · refine r_bipush 10 (by decide) 26 rfl dX0_firstQuarrel_24 ?_
        refine r_iload_n 1 rfl rfl 27 rfl dX0_firstQuarrel_26 ?_
        refine r_imul 28 rfl dX0_firstQuarrel_27 ?_
        refine r_iload_n 2 rfl rfl 29 rfl dX0_firstQuarrel_28 ?_
        refine r_iadd 30 rfl dX0_firstQuarrel_29 ?_
        exact r_iret rfl dX0_firstQuarrel_30
def l_X0_firstQuarrel_2   : Nat → Int32 → k_Mem → Option (Int32 × k_Mem)
  | 0, _, _ => none
  | n + 1, x1, σ =>
    if 4 ≤ x1 then (
      some ((-1), σ)
    ) else (
      l_X0_firstQuarrel_9  (fun x1 σ => l_X0_firstQuarrel_2   n x1 σ) 1000 x1 4 σ
    )
set_option maxRecDepth 100000 in
theorem gl_X0_firstQuarrel_2 (E : k_EV)     : ∀ (n : Nat) (x1 : Int32)  (σ : k_Mem), k_GO m_X0_firstQuarrel E k_vi 2 [(0, k_rf E 46), (1, .int x1)] [] σ (l_X0_firstQuarrel_2   n x1 σ) := by
  intro n
  induction n with
  | zero => intro x1  σ; exact r_none
  | succ n ih =>
    intro x1  σ
    rw [l_X0_firstQuarrel_2]
    refine r_iload_n 1 rfl rfl 3 rfl dX0_firstQuarrel_2 ?_
    refine r_iconst 4 (by decide) 4 rfl dX0_firstQuarrel_3 ?_
    refine r_icmp_ge 43 7 rfl (by decide) dX0_firstQuarrel_4 (fun c1 => ?_) (fun c1 => ?_)
    · refine r_iconst (-1) (by decide) 44 rfl dX0_firstQuarrel_43 ?_
      exact r_iret rfl dX0_firstQuarrel_44
    · refine r_iconst 4 (by decide) 8 rfl dX0_firstQuarrel_7 ?_
      refine r_istore_n [(2, .int _), (0, k_rf E 46), (1, .int _)] rfl rfl (by decide) 9 rfl dX0_firstQuarrel_8 ?_
      exact r_sub [1, 2, 0] rfl (gl_X0_firstQuarrel_9 E   _ (fun x1  σ => ih x1  σ) 1000 _ _  _)
def f_X0_firstQuarrel   (σ : k_Mem) : Option (Int32 × k_Mem) :=
  l_X0_firstQuarrel_2   1000 0 σ
set_option maxRecDepth 100000 in
theorem c_X0_firstQuarrel (E : k_EV)    (σ : k_Mem) : k_MC m_X0_firstQuarrel E k_vi [k_rf E 46] σ (f_X0_firstQuarrel  σ) := by
  refine k_MC_of ⟨by decide, by decide⟩ (Nat.le_of_ble_eq_true rfl) ?_
  show k_GO _ _ _ 0 [(0, k_rf E 46)] [] σ _
  unfold f_X0_firstQuarrel
  refine r_iconst 0 (by decide) 1 rfl dX0_firstQuarrel_0 ?_
  refine r_istore_n [(1, .int _), (0, k_rf E 46)] rfl rfl (by decide) 2 rfl dX0_firstQuarrel_1 ?_
  exact r_sub [1, 0] rfl (gl_X0_firstQuarrel_2 E     1000 _  _)
/-! HandMarket$Courtship.toNextPairs()Z -/
def j_X0_toNextPairs_87  (k2 : Int32 → k_Mem → Option (Int32 × k_Mem)) (k45 : Int32 → Int32 → k_Mem → Option (Int32 × k_Mem)) (x1 : Int32) (x3 : Int32) (σ : k_Mem) : Option (Int32 × k_Mem) :=
  k45 x1 (x3 + 1) σ
set_option maxRecDepth 100000 in
theorem gj_X0_toNextPairs_87 (E : k_EV)   (k2 : Int32 → k_Mem → Option (Int32 × k_Mem)) (k45 : Int32 → Int32 → k_Mem → Option (Int32 × k_Mem)) (hk2 : ∀ (x1 : Int32)  (σ : k_Mem), k_GO m_X0_toNextPairs E k_vi 2 [(0, k_rf E 46), (1, .int x1)] [] σ (k2 x1 σ)) (hk45 : ∀ (x1 : Int32) (x3 : Int32)  (σ : k_Mem), k_GO m_X0_toNextPairs E k_vi 45 [(0, k_rf E 46), (1, .int x1), (3, .int x3)] [] σ (k45 x1 x3 σ)) (x1 : Int32) (x3 : Int32)  (σ : k_Mem) : k_GO m_X0_toNextPairs E k_vi 87 [(0, k_rf E 46), (1, .int x1), (3, .int x3)] [] σ (j_X0_toNextPairs_87  k2 k45 x1 x3 σ) := by
  unfold j_X0_toNextPairs_87
  refine r_iinc 1 (by decide) 2 rfl [(3, .int _), (0, k_rf E 46), (1, .int _)] rfl (by decide) 90 rfl dX0_toNextPairs_87 ?_
  refine r_goto 45 (by decide) dX0_toNextPairs_90 ?_
  exact r_sub [1, 2, 0] rfl (hk45 _ _  _)
def l_X0_toNextPairs_45  (k2 : Int32 → k_Mem → Option (Int32 × k_Mem)) : Nat → Int32 → Int32 → k_Mem → Option (Int32 × k_Mem)
  | 0, _, _, _ => none
  | n + 1, x1, x3, σ =>
    if 8 ≤ x3 then (
      k2 (x1 + (-1)) σ
    ) else (
      if k_in x3 8 then (
        if (σ 52 (k_n x3)) = (-1) then (
          k_bd (f_X0_wishFor  x1 x3 σ) (fun r6 σ6 =>
            if r6 ≤ (-1) then (
              j_X0_toNextPairs_87  k2 (fun x1 x3 σ => l_X0_toNextPairs_45  k2 n x1 x3 σ) x1 x3 σ6
            ) else (
              if k_in x1 8 then (
                if k_in x3 8 then (
                  some (1, (k_mset (k_mset σ6 52 (k_n x1) x3) 52 (k_n x3) x1))
                ) else none
              ) else none
            )
          )
        ) else (
          j_X0_toNextPairs_87  k2 (fun x1 x3 σ => l_X0_toNextPairs_45  k2 n x1 x3 σ) x1 x3 σ
        )
      ) else none
    )
set_option maxRecDepth 100000 in
theorem gl_X0_toNextPairs_45 (E : k_EV)   (k2 : Int32 → k_Mem → Option (Int32 × k_Mem)) (hk2 : ∀ (x1 : Int32)  (σ : k_Mem), k_GO m_X0_toNextPairs E k_vi 2 [(0, k_rf E 46), (1, .int x1)] [] σ (k2 x1 σ)) : ∀ (n : Nat) (x1 : Int32) (x3 : Int32)  (σ : k_Mem), k_GO m_X0_toNextPairs E k_vi 45 [(0, k_rf E 46), (1, .int x1), (3, .int x3)] [] σ (l_X0_toNextPairs_45  k2 n x1 x3 σ) := by
  intro n
  induction n with
  | zero => intro x1 x3  σ; exact r_none
  | succ n ih =>
    intro x1 x3  σ
    rw [l_X0_toNextPairs_45]
    refine r_iload_n 2 rfl rfl 46 rfl dX0_toNextPairs_45 ?_
    refine r_bipush 8 (by decide) 48 rfl dX0_toNextPairs_46 ?_
    refine r_icmp_ge 93 51 rfl (by decide) dX0_toNextPairs_48 (fun c4 => ?_) (fun c4 => ?_)
    · refine r_iinc (-1) (by decide) 1 rfl [(1, .int _), (0, k_rf E 46), (3, .int _)] rfl (by decide) 96 rfl dX0_toNextPairs_93 ?_
      refine r_goto 2 (by decide) dX0_toNextPairs_96 ?_
      exact r_sub [1, 0] rfl (hk2 _  _)
    · refine r_aload_n 0 rfl rfl 52 rfl dX0_toNextPairs_51 ?_
      refine r_getr fl_X0_27 sh_46 rfl 55 rfl dX0_toNextPairs_52 ?_
      refine r_iload_n 2 rfl rfl 56 rfl dX0_toNextPairs_55 ?_
      refine r_iald sh_52 57 rfl dX0_toNextPairs_56 ?_
      refine r_iconst (-1) (by decide) 58 rfl dX0_toNextPairs_57 ?_
      refine r_icmp_ne 87 61 rfl (by decide) dX0_toNextPairs_58 (fun c5 => ?_) (fun c5 => ?_)
      · refine r_aload_n 0 rfl rfl 62 rfl dX0_toNextPairs_61 ?_
        refine r_iload_n 1 rfl rfl 63 rfl dX0_toNextPairs_62 ?_
        refine r_iload_n 2 rfl rfl 64 rfl dX0_toNextPairs_63 ?_
        refine r_calli (c_X0_wishFor E   _ _ _) rfl sh_46 rfl ml_X0_96 cw_X0_wishFor vw_X0_wishFor (by decide) (Nat.le_of_ble_eq_true rfl) 67 rfl dX0_toNextPairs_64 (fun r6 σ6 => ?_)
        refine r_iconst (-1) (by decide) 68 rfl dX0_toNextPairs_67 ?_
        refine r_icmp_le 87 71 rfl (by decide) dX0_toNextPairs_68 (fun c7 => ?_) (fun c7 => ?_)
        · exact r_sub [0, 1, 2] rfl (gj_X0_toNextPairs_87 E   _ _ hk2 (fun x1 x3  σ => ih x1 x3  σ) _ _  _)
        · refine r_aload_n 0 rfl rfl 72 rfl dX0_toNextPairs_71 ?_
          refine r_getr fl_X0_27 sh_46 rfl 75 rfl dX0_toNextPairs_72 ?_
          refine r_iload_n 1 rfl rfl 76 rfl dX0_toNextPairs_75 ?_
          refine r_iload_n 2 rfl rfl 77 rfl dX0_toNextPairs_76 ?_
          refine r_iast sh_52 78 rfl dX0_toNextPairs_77 ?_
          refine r_aload_n 0 rfl rfl 79 rfl dX0_toNextPairs_78 ?_
          refine r_getr fl_X0_27 sh_46 rfl 82 rfl dX0_toNextPairs_79 ?_
          refine r_iload_n 2 rfl rfl 83 rfl dX0_toNextPairs_82 ?_
          refine r_iload_n 1 rfl rfl 84 rfl dX0_toNextPairs_83 ?_
          refine r_iast sh_52 85 rfl dX0_toNextPairs_84 ?_
          refine r_iconst 1 (by decide) 86 rfl dX0_toNextPairs_85 ?_
          exact r_zret rfl (Or.inr rfl) dX0_toNextPairs_86
      · exact r_sub [0, 1, 2] rfl (gj_X0_toNextPairs_87 E   _ _ hk2 (fun x1 x3  σ => ih x1 x3  σ) _ _  _)
def j_X0_toNextPairs_44  (k2 : Int32 → k_Mem → Option (Int32 × k_Mem)) (x1 : Int32) (xs0 : Int32) (σ : k_Mem) : Option (Int32 × k_Mem) :=
  l_X0_toNextPairs_45  k2 1000 x1 xs0 σ
set_option maxRecDepth 100000 in
theorem gj_X0_toNextPairs_44 (E : k_EV)   (k2 : Int32 → k_Mem → Option (Int32 × k_Mem)) (hk2 : ∀ (x1 : Int32)  (σ : k_Mem), k_GO m_X0_toNextPairs E k_vi 2 [(0, k_rf E 46), (1, .int x1)] [] σ (k2 x1 σ)) (x1 : Int32) (xs0 : Int32)  (σ : k_Mem) : k_GO m_X0_toNextPairs E k_vi 44 [(0, k_rf E 46), (1, .int x1)] [.int xs0] σ (j_X0_toNextPairs_44  k2 x1 xs0 σ) := by
  unfold j_X0_toNextPairs_44
  refine r_istore_n [(3, .int _), (0, k_rf E 46), (1, .int _)] rfl rfl (by decide) 45 rfl dX0_toNextPairs_44 ?_
  exact r_sub [1, 2, 0] rfl (gl_X0_toNextPairs_45 E   _ hk2 1000 _ _  _)
def j_X0_toNextPairs_32  (k2 : Int32 → k_Mem → Option (Int32 × k_Mem)) (x1 : Int32) (x2 : Int32) (σ : k_Mem) : Option (Int32 × k_Mem) :=
  if x2 = (-1) then (
    j_X0_toNextPairs_44  k2 x1 4 σ
  ) else (
    j_X0_toNextPairs_44  k2 x1 (x2 + 1) σ
  )
set_option maxRecDepth 100000 in
theorem gj_X0_toNextPairs_32 (E : k_EV)   (k2 : Int32 → k_Mem → Option (Int32 × k_Mem)) (hk2 : ∀ (x1 : Int32)  (σ : k_Mem), k_GO m_X0_toNextPairs E k_vi 2 [(0, k_rf E 46), (1, .int x1)] [] σ (k2 x1 σ)) (x1 : Int32) (x2 : Int32)  (σ : k_Mem) : k_GO m_X0_toNextPairs E k_vi 32 [(0, k_rf E 46), (1, .int x1), (2, .int x2)] [] σ (j_X0_toNextPairs_32  k2 x1 x2 σ) := by
  unfold j_X0_toNextPairs_32
  refine r_iload_n 2 rfl rfl 33 rfl dX0_toNextPairs_32 ?_
  refine r_iconst (-1) (by decide) 34 rfl dX0_toNextPairs_33 ?_
  refine r_icmp_ne 41 37 rfl (by decide) dX0_toNextPairs_34 (fun c3 => ?_) (fun c3 => ?_)
  · refine r_iconst 4 (by decide) 38 rfl dX0_toNextPairs_37 ?_
    refine r_goto 44 (by decide) dX0_toNextPairs_38 ?_
    exact r_sub [0, 1] rfl (gj_X0_toNextPairs_44 E   _ hk2 _ _  _)
  · refine r_iload_n 2 rfl rfl 42 rfl dX0_toNextPairs_41 ?_
    refine r_iconst 1 (by decide) 43 rfl dX0_toNextPairs_42 ?_
    refine r_iadd 44 rfl dX0_toNextPairs_43 ?_
    exact r_sub [0, 1] rfl (gj_X0_toNextPairs_44 E   _ hk2 _ _  _)
def l_X0_toNextPairs_2   : Nat → Int32 → k_Mem → Option (Int32 × k_Mem)
  | 0, _, _ => none
  | n + 1, x1, σ =>
    if x1 < 0 then (
      some (0, σ)
    ) else (
      if k_in x1 8 then (
        if (σ 52 (k_n x1)) = (-1) then (
          j_X0_toNextPairs_32  (fun x1 σ => l_X0_toNextPairs_2   n x1 σ) x1 (σ 52 (k_n x1)) σ
        ) else (
          if k_in (σ 52 (k_n x1)) 8 then (
            if k_in x1 8 then (
              j_X0_toNextPairs_32  (fun x1 σ => l_X0_toNextPairs_2   n x1 σ) x1 (σ 52 (k_n x1)) (k_mset (k_mset σ 52 (k_n (σ 52 (k_n x1))) (-1)) 52 (k_n x1) (-1))
            ) else none
          ) else none
        )
      ) else none
    )
set_option maxRecDepth 100000 in
theorem gl_X0_toNextPairs_2 (E : k_EV)     : ∀ (n : Nat) (x1 : Int32)  (σ : k_Mem), k_GO m_X0_toNextPairs E k_vi 2 [(0, k_rf E 46), (1, .int x1)] [] σ (l_X0_toNextPairs_2   n x1 σ) := by
  intro n
  induction n with
  | zero => intro x1  σ; exact r_none
  | succ n ih =>
    intro x1  σ
    rw [l_X0_toNextPairs_2]
    refine r_iload_n 1 rfl rfl 3 rfl dX0_toNextPairs_2 ?_
    refine r_if_lt 99 6 rfl (by decide) dX0_toNextPairs_3 (fun c1 => ?_) (fun c1 => ?_)
    · refine r_iconst 0 (by decide) 100 rfl dX0_toNextPairs_99 ?_
      exact r_zret rfl (Or.inl rfl) dX0_toNextPairs_100
    · refine r_aload_n 0 rfl rfl 7 rfl dX0_toNextPairs_6 ?_
      refine r_getr fl_X0_27 sh_46 rfl 10 rfl dX0_toNextPairs_7 ?_
      refine r_iload_n 1 rfl rfl 11 rfl dX0_toNextPairs_10 ?_
      refine r_iald sh_52 12 rfl dX0_toNextPairs_11 ?_
      refine r_istore_n [(2, .int _), (0, k_rf E 46), (1, .int _)] rfl rfl (by decide) 13 rfl dX0_toNextPairs_12 ?_
      refine r_iload_n 0 rfl rfl 14 rfl dX0_toNextPairs_13 ?_
      refine r_iconst (-1) (by decide) 15 rfl dX0_toNextPairs_14 ?_
      refine r_icmp_eq 32 18 rfl (by decide) dX0_toNextPairs_15 (fun c2 => ?_) (fun c2 => ?_)
      · exact r_sub [1, 2, 0] rfl (gj_X0_toNextPairs_32 E   _ (fun x1  σ => ih x1  σ) _ _  _)
      · refine r_aload_n 1 rfl rfl 19 rfl dX0_toNextPairs_18 ?_
        refine r_getr fl_X0_27 sh_46 rfl 22 rfl dX0_toNextPairs_19 ?_
        refine r_iload_n 0 rfl rfl 23 rfl dX0_toNextPairs_22 ?_
        refine r_iconst (-1) (by decide) 24 rfl dX0_toNextPairs_23 ?_
        refine r_iast sh_52 25 rfl dX0_toNextPairs_24 ?_
        refine r_aload_n 1 rfl rfl 26 rfl dX0_toNextPairs_25 ?_
        refine r_getr fl_X0_27 sh_46 rfl 29 rfl dX0_toNextPairs_26 ?_
        refine r_iload_n 2 rfl rfl 30 rfl dX0_toNextPairs_29 ?_
        refine r_iconst (-1) (by decide) 31 rfl dX0_toNextPairs_30 ?_
        refine r_iast sh_52 32 rfl dX0_toNextPairs_31 ?_
        exact r_sub [1, 2, 0] rfl (gj_X0_toNextPairs_32 E   _ (fun x1  σ => ih x1  σ) _ _  _)
def f_X0_toNextPairs   (σ : k_Mem) : Option (Int32 × k_Mem) :=
  l_X0_toNextPairs_2   1000 3 σ
set_option maxRecDepth 100000 in
theorem c_X0_toNextPairs (E : k_EV)    (σ : k_Mem) : k_MC m_X0_toNextPairs E k_vi [k_rf E 46] σ (f_X0_toNextPairs  σ) := by
  refine k_MC_of ⟨by decide, by decide⟩ (Nat.le_of_ble_eq_true rfl) ?_
  show k_GO _ _ _ 0 [(0, k_rf E 46)] [] σ _
  unfold f_X0_toNextPairs
  refine r_iconst 3 (by decide) 1 rfl dX0_toNextPairs_0 ?_
  refine r_istore_n [(1, .int _), (0, k_rf E 46)] rfl rfl (by decide) 2 rfl dX0_toNextPairs_1 ?_
  exact r_sub [1, 0] rfl (gl_X0_toNextPairs_2 E     1000 _  _)
/-! HandMarket$Courtship.countHoldingWith(II)I -/
def j_X0_countHoldingWith_67  (k16 : Int32 → Int32 → Int32 → Int32 → Int32 → k_Mem → Option (Int32 × k_Mem)) (x1 : Int32) (x2 : Int32) (x3 : Int32) (x5 : Int32) (σ : k_Mem) : Option (Int32 × k_Mem) :=
  k_bd (f_X0_toNextPairs   σ) (fun r6 σ6 =>
    k16 x1 x2 x3 r6 (x5 + 1) σ6
  )
set_option maxRecDepth 100000 in
theorem gj_X0_countHoldingWith_67 (E : k_EV)   (k16 : Int32 → Int32 → Int32 → Int32 → Int32 → k_Mem → Option (Int32 × k_Mem)) (hk16 : ∀ (x1 : Int32) (x2 : Int32) (x3 : Int32) (x4 : Int32) (x5 : Int32)  (σ : k_Mem), k_GO m_X0_countHoldingWith E k_vi 16 [(0, k_rf E 46), (1, .int x1), (2, .int x2), (3, .int x3), (4, .int x4), (5, .int x5)] [] σ (k16 x1 x2 x3 x4 x5 σ)) (x1 : Int32) (x2 : Int32) (x3 : Int32) (x5 : Int32)  (σ : k_Mem) : k_GO m_X0_countHoldingWith E k_vi 67 [(0, k_rf E 46), (1, .int x1), (2, .int x2), (3, .int x3), (5, .int x5)] [] σ (j_X0_countHoldingWith_67  k16 x1 x2 x3 x5 σ) := by
  unfold j_X0_countHoldingWith_67
  refine r_aload_n 0 rfl rfl 68 rfl dX0_countHoldingWith_67 ?_
  refine r_calli (c_X0_toNextPairs E    _) rfl sh_46 rfl ml_X0_148 cw_X0_toNextPairs vw_X0_toNextPairs (by decide) (Nat.le_of_ble_eq_true rfl) 71 rfl dX0_countHoldingWith_68 (fun r6 σ6 => ?_)
  refine r_istore [(4, .int _), (0, k_rf E 46), (1, .int _), (2, .int _), (3, .int _), (5, .int _)] rfl (by decide) 73 rfl dX0_countHoldingWith_71 ?_
  refine r_iinc 1 (by decide) 5 rfl [(5, .int _), (4, .int _), (0, k_rf E 46), (1, .int _), (2, .int _), (3, .int _)] rfl (by decide) 76 rfl dX0_countHoldingWith_73 ?_
  refine r_goto 16 (by decide) dX0_countHoldingWith_76 ?_
  exact r_sub [2, 3, 4, 5, 1, 0] rfl (hk16 _ _ _ _ _  _)
def j_X0_countHoldingWith_49  (k16 : Int32 → Int32 → Int32 → Int32 → Int32 → k_Mem → Option (Int32 × k_Mem)) (x1 : Int32) (x2 : Int32) (x3 : Int32) (x5 : Int32) (xs0 : Int32) (σ : k_Mem) : Option (Int32 × k_Mem) :=
  if xs0 = 0 then (
    j_X0_countHoldingWith_67  k16 x1 x2 x3 x5 σ
  ) else (
    k_bd (f_X0_firstQuarrel   σ) (fun r7 σ7 =>
      if r7 = (-1) then (
        j_X0_countHoldingWith_67  k16 x1 x2 (x3 + 1) x5 σ7
      ) else (
        j_X0_countHoldingWith_67  k16 x1 x2 x3 x5 σ7
      )
    )
  )
set_option maxRecDepth 100000 in
theorem gj_X0_countHoldingWith_49 (E : k_EV)   (k16 : Int32 → Int32 → Int32 → Int32 → Int32 → k_Mem → Option (Int32 × k_Mem)) (hk16 : ∀ (x1 : Int32) (x2 : Int32) (x3 : Int32) (x4 : Int32) (x5 : Int32)  (σ : k_Mem), k_GO m_X0_countHoldingWith E k_vi 16 [(0, k_rf E 46), (1, .int x1), (2, .int x2), (3, .int x3), (4, .int x4), (5, .int x5)] [] σ (k16 x1 x2 x3 x4 x5 σ)) (x1 : Int32) (x2 : Int32) (x3 : Int32) (x5 : Int32) (xs0 : Int32)  (σ : k_Mem) : k_GO m_X0_countHoldingWith E k_vi 49 [(0, k_rf E 46), (1, .int x1), (2, .int x2), (3, .int x3), (5, .int x5)] [.int xs0] σ (j_X0_countHoldingWith_49  k16 x1 x2 x3 x5 xs0 σ) := by
  unfold j_X0_countHoldingWith_49
  refine r_istore [(6, .int _), (0, k_rf E 46), (1, .int _), (2, .int _), (3, .int _), (5, .int _)] rfl (by decide) 51 rfl dX0_countHoldingWith_49 ?_
  refine r_iload 0 rfl 53 rfl dX0_countHoldingWith_51 ?_
  refine r_if_eq 67 56 rfl (by decide) dX0_countHoldingWith_53 (fun c5 => ?_) (fun c5 => ?_)
  · exact r_sub [1, 2, 3, 4, 5] rfl (gj_X0_countHoldingWith_67 E   _ hk16 _ _ _ _  _)
  · refine r_aload_n 1 rfl rfl 57 rfl dX0_countHoldingWith_56 ?_
    refine r_calli (c_X0_firstQuarrel E    _) rfl sh_46 rfl ml_X0_145 cw_X0_firstQuarrel vw_X0_firstQuarrel (by decide) (Nat.le_of_ble_eq_true rfl) 60 rfl dX0_countHoldingWith_57 (fun r7 σ7 => ?_)
    refine r_iconst (-1) (by decide) 61 rfl dX0_countHoldingWith_60 ?_
    refine r_icmp_ne 67 64 rfl (by decide) dX0_countHoldingWith_61 (fun c8 => ?_) (fun c8 => ?_)
    · refine r_iinc 1 (by decide) 4 rfl [(3, .int _), (6, .int _), (0, k_rf E 46), (1, .int _), (2, .int _), (5, .int _)] rfl (by decide) 67 rfl dX0_countHoldingWith_64 ?_
      exact r_sub [2, 3, 4, 0, 5] rfl (gj_X0_countHoldingWith_67 E   _ hk16 _ _ _ _  _)
    · exact r_sub [1, 2, 3, 4, 5] rfl (gj_X0_countHoldingWith_67 E   _ hk16 _ _ _ _  _)
def j_X0_countHoldingWith_44  (k16 : Int32 → Int32 → Int32 → Int32 → Int32 → k_Mem → Option (Int32 × k_Mem)) (x1 : Int32) (x2 : Int32) (x3 : Int32) (x5 : Int32) (σ : k_Mem) : Option (Int32 × k_Mem) :=
  j_X0_countHoldingWith_49  k16 x1 x2 x3 x5 1 σ
set_option maxRecDepth 100000 in
theorem gj_X0_countHoldingWith_44 (E : k_EV)   (k16 : Int32 → Int32 → Int32 → Int32 → Int32 → k_Mem → Option (Int32 × k_Mem)) (hk16 : ∀ (x1 : Int32) (x2 : Int32) (x3 : Int32) (x4 : Int32) (x5 : Int32)  (σ : k_Mem), k_GO m_X0_countHoldingWith E k_vi 16 [(0, k_rf E 46), (1, .int x1), (2, .int x2), (3, .int x3), (4, .int x4), (5, .int x5)] [] σ (k16 x1 x2 x3 x4 x5 σ)) (x1 : Int32) (x2 : Int32) (x3 : Int32) (x5 : Int32)  (σ : k_Mem) : k_GO m_X0_countHoldingWith E k_vi 44 [(0, k_rf E 46), (1, .int x1), (2, .int x2), (3, .int x3), (5, .int x5)] [] σ (j_X0_countHoldingWith_44  k16 x1 x2 x3 x5 σ) := by
  unfold j_X0_countHoldingWith_44
  refine r_iconst 1 (by decide) 45 rfl dX0_countHoldingWith_44 ?_
  refine r_goto 49 (by decide) dX0_countHoldingWith_45 ?_
  exact r_sub [0, 1, 2, 3, 4] rfl (gj_X0_countHoldingWith_49 E   _ hk16 _ _ _ _ _  _)
def l_X0_countHoldingWith_16   : Nat → Int32 → Int32 → Int32 → Int32 → Int32 → k_Mem → Option (Int32 × k_Mem)
  | 0, _, _, _, _, _, _ => none
  | n + 1, x1, x2, x3, x4, x5, σ =>
    if 10000 ≤ x5 then (
      some (x3, σ)
    ) else (
      if x4 = 0 then (
        some (x3, σ)
      ) else (
        if x1 = (-1) then (
          j_X0_countHoldingWith_44  (fun x1 x2 x3 x4 x5 σ => l_X0_countHoldingWith_16   n x1 x2 x3 x4 x5 σ) x1 x2 x3 x5 σ
        ) else (
          if k_in x1 8 then (
            if (σ 52 (k_n x1)) = x2 then (
              j_X0_countHoldingWith_44  (fun x1 x2 x3 x4 x5 σ => l_X0_countHoldingWith_16   n x1 x2 x3 x4 x5 σ) x1 x2 x3 x5 σ
            ) else (
              j_X0_countHoldingWith_49  (fun x1 x2 x3 x4 x5 σ => l_X0_countHoldingWith_16   n x1 x2 x3 x4 x5 σ) x1 x2 x3 x5 0 σ
            )
          ) else none
        )
      )
    )
set_option maxRecDepth 100000 in
theorem gl_X0_countHoldingWith_16 (E : k_EV)     : ∀ (n : Nat) (x1 : Int32) (x2 : Int32) (x3 : Int32) (x4 : Int32) (x5 : Int32)  (σ : k_Mem), k_GO m_X0_countHoldingWith E k_vi 16 [(0, k_rf E 46), (1, .int x1), (2, .int x2), (3, .int x3), (4, .int x4), (5, .int x5)] [] σ (l_X0_countHoldingWith_16   n x1 x2 x3 x4 x5 σ) := by
  intro n
  induction n with
  | zero => intro x1 x2 x3 x4 x5  σ; exact r_none
  | succ n ih =>
    intro x1 x2 x3 x4 x5  σ
    rw [l_X0_countHoldingWith_16]
    refine r_iload 5 rfl 18 rfl dX0_countHoldingWith_16 ?_
    refine r_sipush 10000 (by decide) 21 rfl dX0_countHoldingWith_18 ?_
    refine r_icmp_ge 79 24 rfl (by decide) dX0_countHoldingWith_21 (fun c2 => ?_) (fun c2 => ?_)
    · refine r_iload_n 3 rfl rfl 80 rfl dX0_countHoldingWith_79 ?_
      exact r_iret rfl dX0_countHoldingWith_80
    · refine r_iload 4 rfl 26 rfl dX0_countHoldingWith_24 ?_
      refine r_if_eq 79 29 rfl (by decide) dX0_countHoldingWith_26 (fun c3 => ?_) (fun c3 => ?_)
      · refine r_iload_n 3 rfl rfl 80 rfl dX0_countHoldingWith_79 ?_
        exact r_iret rfl dX0_countHoldingWith_80
      · refine r_iload_n 1 rfl rfl 30 rfl dX0_countHoldingWith_29 ?_
        refine r_iconst (-1) (by decide) 31 rfl dX0_countHoldingWith_30 ?_
        refine r_icmp_eq 44 34 rfl (by decide) dX0_countHoldingWith_31 (fun c4 => ?_) (fun c4 => ?_)
        · exact r_sub [0, 1, 2, 3, 5] rfl (gj_X0_countHoldingWith_44 E   _ (fun x1 x2 x3 x4 x5  σ => ih x1 x2 x3 x4 x5  σ) _ _ _ _  _)
        · refine r_aload_n 0 rfl rfl 35 rfl dX0_countHoldingWith_34 ?_
          refine r_getr fl_X0_27 sh_46 rfl 38 rfl dX0_countHoldingWith_35 ?_
          refine r_iload_n 1 rfl rfl 39 rfl dX0_countHoldingWith_38 ?_
          refine r_iald sh_52 40 rfl dX0_countHoldingWith_39 ?_
          refine r_iload_n 2 rfl rfl 41 rfl dX0_countHoldingWith_40 ?_
          refine r_icmp_ne 48 44 rfl (by decide) dX0_countHoldingWith_41 (fun c9 => ?_) (fun c9 => ?_)
          · exact r_sub [0, 1, 2, 3, 5] rfl (gj_X0_countHoldingWith_44 E   _ (fun x1 x2 x3 x4 x5  σ => ih x1 x2 x3 x4 x5  σ) _ _ _ _  _)
          · refine r_iconst 0 (by decide) 49 rfl dX0_countHoldingWith_48 ?_
            exact r_sub [0, 1, 2, 3, 5] rfl (gj_X0_countHoldingWith_49 E   _ (fun x1 x2 x3 x4 x5  σ => ih x1 x2 x3 x4 x5  σ) _ _ _ _ _  _)
def f_X0_countHoldingWith  (x1 : Int32) (x2 : Int32) (σ : k_Mem) : Option (Int32 × k_Mem) :=
  k_bd (f_J7_fill_53178 52 8 (-1) σ) (fun _ σ1 =>
    l_X0_countHoldingWith_16   1000 x1 x2 0 1 0 σ1
  )
set_option maxRecDepth 100000 in
theorem c_X0_countHoldingWith (E : k_EV)   (x1 : Int32) (x2 : Int32) (σ : k_Mem) : k_MC m_X0_countHoldingWith E k_vi [k_rf E 46, .int x1, .int x2] σ (f_X0_countHoldingWith x1 x2 σ) := by
  refine k_MC_of ⟨by decide, by decide⟩ (Nat.le_of_ble_eq_true rfl) ?_
  show k_GO _ _ _ 0 [(0, k_rf E 46), (1, .int x1), (2, .int x2)] [] σ _
  unfold f_X0_countHoldingWith
  refine r_aload_n 0 rfl rfl 1 rfl dX0_countHoldingWith_0 ?_
  refine r_getr fl_X0_27 sh_46 rfl 4 rfl dX0_countHoldingWith_1 ?_
  refine r_iconst (-1) (by decide) 5 rfl dX0_countHoldingWith_4 ?_
  refine r_callsv (c_J7_fill_53178 E 52 8 sh_52 _ _) rfl ml_X0_46 cw_J7_fill_53178 sw_J7_fill_53178 (by decide) (Nat.le_of_ble_eq_true rfl) 8 rfl dX0_countHoldingWith_5 (fun _ σ1 => ?_)
  refine r_iconst 0 (by decide) 9 rfl dX0_countHoldingWith_8 ?_
  refine r_istore_n [(3, .int _), (0, k_rf E 46), (1, .int _), (2, .int _)] rfl rfl (by decide) 10 rfl dX0_countHoldingWith_9 ?_
  refine r_iconst 1 (by decide) 11 rfl dX0_countHoldingWith_10 ?_
  refine r_istore [(4, .int _), (3, .int _), (0, k_rf E 46), (1, .int _), (2, .int _)] rfl (by decide) 13 rfl dX0_countHoldingWith_11 ?_
  refine r_iconst 0 (by decide) 14 rfl dX0_countHoldingWith_13 ?_
  refine r_istore [(5, .int _), (4, .int _), (3, .int _), (0, k_rf E 46), (1, .int _), (2, .int _)] rfl (by decide) 16 rfl dX0_countHoldingWith_14 ?_
  exact r_sub [3, 4, 5, 2, 1, 0] rfl (gl_X0_countHoldingWith_16 E     1000 _ _ _ _ _  _)
/-! HandMarket$Courtship.countHolding()I -/
def f_X0_countHolding   (σ : k_Mem) : Option (Int32 × k_Mem) :=
  k_bd (f_X0_countHoldingWith  (-1) (-1) σ) (fun r1 σ1 =>
    some (r1, σ1)
  )
set_option maxRecDepth 100000 in
theorem c_X0_countHolding (E : k_EV)    (σ : k_Mem) : k_MC m_X0_countHolding E k_vi [k_rf E 46] σ (f_X0_countHolding  σ) := by
  refine k_MC_of ⟨by decide, by decide⟩ (Nat.le_of_ble_eq_true rfl) ?_
  show k_GO _ _ _ 0 [(0, k_rf E 46)] [] σ _
  unfold f_X0_countHolding
  refine r_aload_n 0 rfl rfl 1 rfl dX0_countHolding_0 ?_
  refine r_iconst (-1) (by decide) 2 rfl dX0_countHolding_1 ?_
  refine r_iconst (-1) (by decide) 3 rfl dX0_countHolding_2 ?_
  refine r_calli (c_X0_countHoldingWith E   _ _ _) rfl sh_46 rfl ml_X0_142 cw_X0_countHoldingWith vw_X0_countHoldingWith (by decide) (Nat.le_of_ble_eq_true rfl) 6 rfl dX0_countHolding_3 (fun r1 σ1 => ?_)
  exact r_iret rfl dX0_countHolding_6
/-! HandMarket$Courtship.findMost()I -/
def j_X0_findMost_63  (k22 : Int32 → Int32 → Int32 → k_Mem → Option (Int32 × k_Mem)) (x1 : Int32) (x3 : Int32) (σ : k_Mem) : Option (Int32 × k_Mem) :=
  k_bd (f_X0_toNextPairs   σ) (fun r7 σ7 =>
    k22 x1 r7 (x3 + 1) σ7
  )
set_option maxRecDepth 100000 in
theorem gj_X0_findMost_63 (E : k_EV)   (k22 : Int32 → Int32 → Int32 → k_Mem → Option (Int32 × k_Mem)) (hk22 : ∀ (x1 : Int32) (x2 : Int32) (x3 : Int32)  (σ : k_Mem), k_GO m_X0_findMost E k_vi 22 [(0, k_rf E 46), (1, .int x1), (2, .int x2), (3, .int x3)] [] σ (k22 x1 x2 x3 σ)) (x1 : Int32) (x3 : Int32)  (σ : k_Mem) : k_GO m_X0_findMost E k_vi 63 [(0, k_rf E 46), (1, .int x1), (3, .int x3)] [] σ (j_X0_findMost_63  k22 x1 x3 σ) := by
  unfold j_X0_findMost_63
  refine r_aload_n 0 rfl rfl 64 rfl dX0_findMost_63 ?_
  refine r_calli (c_X0_toNextPairs E    _) rfl sh_46 rfl ml_X0_148 cw_X0_toNextPairs vw_X0_toNextPairs (by decide) (Nat.le_of_ble_eq_true rfl) 67 rfl dX0_findMost_64 (fun r7 σ7 => ?_)
  refine r_istore_n [(2, .int _), (0, k_rf E 46), (1, .int _), (3, .int _)] rfl rfl (by decide) 68 rfl dX0_findMost_67 ?_
  refine r_iinc 1 (by decide) 3 rfl [(3, .int _), (2, .int _), (0, k_rf E 46), (1, .int _)] rfl (by decide) 71 rfl dX0_findMost_68 ?_
  refine r_goto 22 (by decide) dX0_findMost_71 ?_
  exact r_sub [2, 3, 1, 0] rfl (hk22 _ _ _  _)
def l_X0_findMost_22   : Nat → Int32 → Int32 → Int32 → k_Mem → Option (Int32 × k_Mem)
  | 0, _, _, _, _ => none
  | n + 1, x1, x2, x3, σ =>
    if 10000 ≤ x3 then (
      some (x1, σ)
    ) else (
      if x2 = 0 then (
        some (x1, σ)
      ) else (
        k_bd (f_X0_allLikes   σ) (fun r5 σ5 =>
          if r5 ≤ x1 then (
            j_X0_findMost_63  (fun x1 x2 x3 σ => l_X0_findMost_22   n x1 x2 x3 σ) x1 x3 σ5
          ) else (
            if k_cpok 0 0 8 8 8 then (
              j_X0_findMost_63  (fun x1 x2 x3 σ => l_X0_findMost_22   n x1 x2 x3 σ) r5 x3 (k_mrow σ5 54 (va_cpy (σ5 52) (σ5 54) (k_n 0) (k_n 0) (k_n 8)))
            ) else none
          )
        )
      )
    )
set_option maxRecDepth 100000 in
theorem gl_X0_findMost_22 (E : k_EV)     : ∀ (n : Nat) (x1 : Int32) (x2 : Int32) (x3 : Int32)  (σ : k_Mem), k_GO m_X0_findMost E k_vi 22 [(0, k_rf E 46), (1, .int x1), (2, .int x2), (3, .int x3)] [] σ (l_X0_findMost_22   n x1 x2 x3 σ) := by
  intro n
  induction n with
  | zero => intro x1 x2 x3  σ; exact r_none
  | succ n ih =>
    intro x1 x2 x3  σ
    rw [l_X0_findMost_22]
    refine r_iload_n 3 rfl rfl 23 rfl dX0_findMost_22 ?_
    refine r_sipush 10000 (by decide) 26 rfl dX0_findMost_23 ?_
    refine r_icmp_ge 74 29 rfl (by decide) dX0_findMost_26 (fun c3 => ?_) (fun c3 => ?_)
    · refine r_iload_n 1 rfl rfl 75 rfl dX0_findMost_74 ?_
      exact r_iret rfl dX0_findMost_75
    · refine r_iload_n 2 rfl rfl 30 rfl dX0_findMost_29 ?_
      refine r_if_eq 74 33 rfl (by decide) dX0_findMost_30 (fun c4 => ?_) (fun c4 => ?_)
      · refine r_iload_n 1 rfl rfl 75 rfl dX0_findMost_74 ?_
        exact r_iret rfl dX0_findMost_75
      · refine r_aload_n 0 rfl rfl 34 rfl dX0_findMost_33 ?_
        refine r_calli (c_X0_allLikes E    _) rfl sh_46 rfl ml_X0_152 cw_X0_allLikes vw_X0_allLikes (by decide) (Nat.le_of_ble_eq_true rfl) 37 rfl dX0_findMost_34 (fun r5 σ5 => ?_)
        refine r_istore [(4, .int _), (0, k_rf E 46), (1, .int _), (2, .int _), (3, .int _)] rfl (by decide) 39 rfl dX0_findMost_37 ?_
        refine r_iload 0 rfl 41 rfl dX0_findMost_39 ?_
        refine r_iload_n 2 rfl rfl 42 rfl dX0_findMost_41 ?_
        refine r_icmp_le 63 45 rfl (by decide) dX0_findMost_42 (fun c6 => ?_) (fun c6 => ?_)
        · exact r_sub [1, 2, 4] rfl (gj_X0_findMost_63 E   _ (fun x1 x2 x3  σ => ih x1 x2 x3  σ) _ _  _)
        · refine r_iload 0 rfl 47 rfl dX0_findMost_45 ?_
          refine r_istore_n [(1, .int _), (4, .int _), (0, k_rf E 46), (2, .int _), (3, .int _)] rfl rfl (by decide) 48 rfl dX0_findMost_47 ?_
          refine r_aload_n 2 rfl rfl 49 rfl dX0_findMost_48 ?_
          refine r_getr fl_X0_27 sh_46 rfl 52 rfl dX0_findMost_49 ?_
          refine r_iconst 0 (by decide) 53 rfl dX0_findMost_52 ?_
          refine r_aload_n 2 rfl rfl 54 rfl dX0_findMost_53 ?_
          refine r_getr fl_X0_33 sh_46 rfl 57 rfl dX0_findMost_54 ?_
          refine r_iconst 0 (by decide) 58 rfl dX0_findMost_57 ?_
          refine r_bipush 8 (by decide) 60 rfl dX0_findMost_58 ?_
          refine r_copy sh_52 sh_54 ml_X0_133 ⟨Nat.le_of_ble_eq_true rfl, Nat.le_of_ble_eq_true rfl⟩ 63 rfl dX0_findMost_60 ?_
          exact r_sub [2, 0, 4] rfl (gj_X0_findMost_63 E   _ (fun x1 x2 x3  σ => ih x1 x2 x3  σ) _ _  _)
def f_X0_findMost   (σ : k_Mem) : Option (Int32 × k_Mem) :=
  k_bd (f_J7_fill_53178 52 8 (-1) σ) (fun _ σ1 =>
    k_bd (f_J7_fill_53178 54 8 (-1) σ1) (fun _ σ2 =>
      l_X0_findMost_22   1000 0 1 0 σ2
    )
  )
set_option maxRecDepth 100000 in
theorem c_X0_findMost (E : k_EV)    (σ : k_Mem) : k_MC m_X0_findMost E k_vi [k_rf E 46] σ (f_X0_findMost  σ) := by
  refine k_MC_of ⟨by decide, by decide⟩ (Nat.le_of_ble_eq_true rfl) ?_
  show k_GO _ _ _ 0 [(0, k_rf E 46)] [] σ _
  unfold f_X0_findMost
  refine r_aload_n 0 rfl rfl 1 rfl dX0_findMost_0 ?_
  refine r_getr fl_X0_27 sh_46 rfl 4 rfl dX0_findMost_1 ?_
  refine r_iconst (-1) (by decide) 5 rfl dX0_findMost_4 ?_
  refine r_callsv (c_J7_fill_53178 E 52 8 sh_52 _ _) rfl ml_X0_46 cw_J7_fill_53178 sw_J7_fill_53178 (by decide) (Nat.le_of_ble_eq_true rfl) 8 rfl dX0_findMost_5 (fun _ σ1 => ?_)
  refine r_aload_n 0 rfl rfl 9 rfl dX0_findMost_8 ?_
  refine r_getr fl_X0_33 sh_46 rfl 12 rfl dX0_findMost_9 ?_
  refine r_iconst (-1) (by decide) 13 rfl dX0_findMost_12 ?_
  refine r_callsv (c_J7_fill_53178 E 54 8 sh_54 _ _) rfl ml_X0_46 cw_J7_fill_53178 sw_J7_fill_53178 (by decide) (Nat.le_of_ble_eq_true rfl) 16 rfl dX0_findMost_13 (fun _ σ2 => ?_)
  refine r_iconst 0 (by decide) 17 rfl dX0_findMost_16 ?_
  refine r_istore_n [(1, .int _), (0, k_rf E 46)] rfl rfl (by decide) 18 rfl dX0_findMost_17 ?_
  refine r_iconst 1 (by decide) 19 rfl dX0_findMost_18 ?_
  refine r_istore_n [(2, .int _), (1, .int _), (0, k_rf E 46)] rfl rfl (by decide) 20 rfl dX0_findMost_19 ?_
  refine r_iconst 0 (by decide) 21 rfl dX0_findMost_20 ?_
  refine r_istore_n [(3, .int _), (2, .int _), (1, .int _), (0, k_rf E 46)] rfl rfl (by decide) 22 rfl dX0_findMost_21 ?_
  exact r_sub [3, 2, 1, 0] rfl (gl_X0_findMost_22 E     1000 _ _ _  _)
/-! HandMarket$Courtship.setMates([I)V -/
def f_X0_setMates (o1 : Nat) (n1 : Nat)  (σ : k_Mem) : Option (Unit × k_Mem) :=
  if k_cpok 0 0 (k_min (nI n1) 8) n1 8 then (
    some ((), (k_mrow σ 52 (va_cpy (σ o1) (σ 52) (k_n 0) (k_n 0) (k_n (k_min (nI n1) 8)))))
  ) else none
set_option maxRecDepth 100000 in
theorem c_X0_setMates (E : k_EV) (o1 : Nat) (n1 : Nat) (ho1 : k_SH o1 = .inl (.int, n1, none))  (σ : k_Mem) : k_MC m_X0_setMates E k_vv [k_rf E 46, k_rf E o1] σ (f_X0_setMates o1 n1 σ) := by
  refine k_MC_of ⟨by decide, by decide⟩ (Nat.le_of_ble_eq_true rfl) ?_
  show k_GO _ _ _ 0 [(0, k_rf E 46), (1, k_rf E o1)] [] σ _
  unfold f_X0_setMates
  refine r_aload_n 1 rfl rfl 1 rfl dX0_setMates_0 ?_
  refine r_iconst 0 (by decide) 2 rfl dX0_setMates_1 ?_
  refine r_aload_n 0 rfl rfl 3 rfl dX0_setMates_2 ?_
  refine r_getr fl_X0_27 sh_46 rfl 6 rfl dX0_setMates_3 ?_
  refine r_iconst 0 (by decide) 7 rfl dX0_setMates_6 ?_
  refine r_aload_n 1 rfl rfl 8 rfl dX0_setMates_7 ?_
  refine r_alen ho1 9 rfl dX0_setMates_8 ?_
  refine r_bipush 8 (by decide) 11 rfl dX0_setMates_9 ?_
  refine r_mmin ma_min ml_X0_130 ⟨Nat.le_of_ble_eq_true rfl, Nat.le_of_ble_eq_true rfl⟩ 14 rfl dX0_setMates_11 ?_
  refine r_copy ho1 sh_52 ml_X0_133 ⟨Nat.le_of_ble_eq_true rfl, Nat.le_of_ble_eq_true rfl⟩ 17 rfl dX0_setMates_14 ?_
  exact r_vret rfl dX0_setMates_17
/-! HandMarket$Courtship.quarrels()I -/
def j_X0_quarrels_29  (k4 : Int32 → Int32 → k_Mem → Option (Int32 × k_Mem)) (k11 : Int32 → Int32 → Int32 → k_Mem → Option (Int32 × k_Mem)) (x1 : Int32) (x2 : Int32) (x3 : Int32) (σ : k_Mem) : Option (Int32 × k_Mem) :=
  k11 x1 x2 (x3 + 1) σ
set_option maxRecDepth 100000 in
theorem gj_X0_quarrels_29 (E : k_EV)   (k4 : Int32 → Int32 → k_Mem → Option (Int32 × k_Mem)) (k11 : Int32 → Int32 → Int32 → k_Mem → Option (Int32 × k_Mem)) (hk4 : ∀ (x1 : Int32) (x2 : Int32)  (σ : k_Mem), k_GO m_X0_quarrels E k_vi 4 [(0, k_rf E 46), (1, .int x1), (2, .int x2)] [] σ (k4 x1 x2 σ)) (hk11 : ∀ (x1 : Int32) (x2 : Int32) (x3 : Int32)  (σ : k_Mem), k_GO m_X0_quarrels E k_vi 11 [(0, k_rf E 46), (1, .int x1), (2, .int x2), (3, .int x3)] [] σ (k11 x1 x2 x3 σ)) (x1 : Int32) (x2 : Int32) (x3 : Int32)  (σ : k_Mem) : k_GO m_X0_quarrels E k_vi 29 [(0, k_rf E 46), (1, .int x1), (2, .int x2), (3, .int x3)] [] σ (j_X0_quarrels_29  k4 k11 x1 x2 x3 σ) := by
  unfold j_X0_quarrels_29
  refine r_iinc 1 (by decide) 3 rfl [(3, .int _), (0, k_rf E 46), (1, .int _), (2, .int _)] rfl (by decide) 32 rfl dX0_quarrels_29 ?_
  refine r_goto 11 (by decide) dX0_quarrels_32 ?_
  exact r_sub [1, 2, 3, 0] rfl (hk11 _ _ _  _)
def l_X0_quarrels_11  (k4 : Int32 → Int32 → k_Mem → Option (Int32 × k_Mem)) : Nat → Int32 → Int32 → Int32 → k_Mem → Option (Int32 × k_Mem)
  | 0, _, _, _, _ => none
  | n + 1, x1, x2, x3, σ =>
    if 8 ≤ x3 then (
      k4 x1 (x2 + 1) σ
    ) else (
      k_bd (f_X0_quarrelOver  x2 x3 σ) (fun r3 σ3 =>
        if r3 = 0 then (
          j_X0_quarrels_29  k4 (fun x1 x2 x3 σ => l_X0_quarrels_11  k4 n x1 x2 x3 σ) x1 x2 x3 σ3
        ) else (
          j_X0_quarrels_29  k4 (fun x1 x2 x3 σ => l_X0_quarrels_11  k4 n x1 x2 x3 σ) (x1 + 1) x2 x3 σ3
        )
      )
    )
set_option maxRecDepth 100000 in
theorem gl_X0_quarrels_11 (E : k_EV)   (k4 : Int32 → Int32 → k_Mem → Option (Int32 × k_Mem)) (hk4 : ∀ (x1 : Int32) (x2 : Int32)  (σ : k_Mem), k_GO m_X0_quarrels E k_vi 4 [(0, k_rf E 46), (1, .int x1), (2, .int x2)] [] σ (k4 x1 x2 σ)) : ∀ (n : Nat) (x1 : Int32) (x2 : Int32) (x3 : Int32)  (σ : k_Mem), k_GO m_X0_quarrels E k_vi 11 [(0, k_rf E 46), (1, .int x1), (2, .int x2), (3, .int x3)] [] σ (l_X0_quarrels_11  k4 n x1 x2 x3 σ) := by
  intro n
  induction n with
  | zero => intro x1 x2 x3  σ; exact r_none
  | succ n ih =>
    intro x1 x2 x3  σ
    rw [l_X0_quarrels_11]
    refine r_iload_n 3 rfl rfl 12 rfl dX0_quarrels_11 ?_
    refine r_bipush 8 (by decide) 14 rfl dX0_quarrels_12 ?_
    refine r_icmp_ge 35 17 rfl (by decide) dX0_quarrels_14 (fun c2 => ?_) (fun c2 => ?_)
    · refine r_iinc 1 (by decide) 2 rfl [(2, .int _), (0, k_rf E 46), (1, .int _), (3, .int _)] rfl (by decide) 38 rfl dX0_quarrels_35 ?_
      refine r_goto 4 (by decide) dX0_quarrels_38 ?_
      exact r_sub [1, 2, 0] rfl (hk4 _ _  _)
    · refine r_aload_n 0 rfl rfl 18 rfl dX0_quarrels_17 ?_
      refine r_iload_n 2 rfl rfl 19 rfl dX0_quarrels_18 ?_
      refine r_iload_n 3 rfl rfl 20 rfl dX0_quarrels_19 ?_
      refine r_calli (c_X0_quarrelOver E   _ _ _) rfl sh_46 rfl ml_X0_139 cw_X0_quarrelOver vw_X0_quarrelOver (by decide) (Nat.le_of_ble_eq_true rfl) 23 rfl dX0_quarrels_20 (fun r3 σ3 => ?_)
      refine r_if_eq 29 26 rfl (by decide) dX0_quarrels_23 (fun c4 => ?_) (fun c4 => ?_)
      · exact r_sub [0, 1, 2, 3] rfl (gj_X0_quarrels_29 E   _ _ hk4 (fun x1 x2 x3  σ => ih x1 x2 x3  σ) _ _ _  _)
      · refine r_iinc 1 (by decide) 1 rfl [(1, .int _), (0, k_rf E 46), (2, .int _), (3, .int _)] rfl (by decide) 29 rfl dX0_quarrels_26 ?_
        exact r_sub [1, 0, 2, 3] rfl (gj_X0_quarrels_29 E   _ _ hk4 (fun x1 x2 x3  σ => ih x1 x2 x3  σ) _ _ _  _)
def l_X0_quarrels_4   : Nat → Int32 → Int32 → k_Mem → Option (Int32 × k_Mem)
  | 0, _, _, _ => none
  | n + 1, x1, x2, σ =>
    if 4 ≤ x2 then (
      some (x1, σ)
    ) else (
      l_X0_quarrels_11  (fun x1 x2 σ => l_X0_quarrels_4   n x1 x2 σ) 1000 x1 x2 4 σ
    )
set_option maxRecDepth 100000 in
theorem gl_X0_quarrels_4 (E : k_EV)     : ∀ (n : Nat) (x1 : Int32) (x2 : Int32)  (σ : k_Mem), k_GO m_X0_quarrels E k_vi 4 [(0, k_rf E 46), (1, .int x1), (2, .int x2)] [] σ (l_X0_quarrels_4   n x1 x2 σ) := by
  intro n
  induction n with
  | zero => intro x1 x2  σ; exact r_none
  | succ n ih =>
    intro x1 x2  σ
    rw [l_X0_quarrels_4]
    refine r_iload_n 2 rfl rfl 5 rfl dX0_quarrels_4 ?_
    refine r_iconst 4 (by decide) 6 rfl dX0_quarrels_5 ?_
    refine r_icmp_ge 41 9 rfl (by decide) dX0_quarrels_6 (fun c1 => ?_) (fun c1 => ?_)
    · refine r_iload_n 1 rfl rfl 42 rfl dX0_quarrels_41 ?_
      exact r_iret rfl dX0_quarrels_42
    · refine r_iconst 4 (by decide) 10 rfl dX0_quarrels_9 ?_
      refine r_istore_n [(3, .int _), (0, k_rf E 46), (1, .int _), (2, .int _)] rfl rfl (by decide) 11 rfl dX0_quarrels_10 ?_
      exact r_sub [1, 2, 3, 0] rfl (gl_X0_quarrels_11 E   _ (fun x1 x2  σ => ih x1 x2  σ) 1000 _ _ _  _)
def f_X0_quarrels   (σ : k_Mem) : Option (Int32 × k_Mem) :=
  l_X0_quarrels_4   1000 0 0 σ
set_option maxRecDepth 100000 in
theorem c_X0_quarrels (E : k_EV)    (σ : k_Mem) : k_MC m_X0_quarrels E k_vi [k_rf E 46] σ (f_X0_quarrels  σ) := by
  refine k_MC_of ⟨by decide, by decide⟩ (Nat.le_of_ble_eq_true rfl) ?_
  show k_GO _ _ _ 0 [(0, k_rf E 46)] [] σ _
  unfold f_X0_quarrels
  refine r_iconst 0 (by decide) 1 rfl dX0_quarrels_0 ?_
  refine r_istore_n [(1, .int _), (0, k_rf E 46)] rfl rfl (by decide) 2 rfl dX0_quarrels_1 ?_
  refine r_iconst 0 (by decide) 3 rfl dX0_quarrels_2 ?_
  refine r_istore_n [(2, .int _), (1, .int _), (0, k_rf E 46)] rfl rfl (by decide) 4 rfl dX0_quarrels_3 ?_
  exact r_sub [2, 1, 0] rfl (gl_X0_quarrels_4 E     1000 _ _  _)
