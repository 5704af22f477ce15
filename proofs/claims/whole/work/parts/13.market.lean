/-! HandMarket.feed(I)I -/
def f_X6_feed  (x1 : Int32) (σ : k_Mem) : Option (Int32 × k_Mem) :=
  if x1 < 0 then (
    some ((-1), σ)
  ) else (
    if x1 ≤ 127 then (
      k_bd (f_X4_put  x1 σ) (fun r3 σ3 =>
        if r3 = 0 then (
          some ((-3), σ3)
        ) else (
          some ((σ3 1 1), σ3)
        )
      )
    ) else (
      some ((-1), σ)
    )
  )
set_option maxRecDepth 100000 in
theorem c_X6_feed (E : k_EV)   (x1 : Int32) (σ : k_Mem) : k_MC m_X6_feed E k_vi [k_rf E 0, .int x1] σ (f_X6_feed x1 σ) := by
  refine k_MC_of ⟨by decide, by decide⟩ (Nat.le_of_ble_eq_true rfl) ?_
  show k_GO _ _ _ 0 [(0, k_rf E 0), (1, .int x1)] [] σ _
  unfold f_X6_feed
  refine r_iload_n 1 rfl rfl 1 rfl dX6_feed_0 ?_
  refine r_if_lt 10 4 rfl (by decide) dX6_feed_1 (fun c1 => ?_) (fun c1 => ?_)
  · refine r_iconst (-1) (by decide) 11 rfl dX6_feed_10 ?_
    exact r_iret rfl dX6_feed_11
  · refine r_iload_n 1 rfl rfl 5 rfl dX6_feed_4 ?_
    refine r_bipush 127 (by decide) 7 rfl dX6_feed_5 ?_
    refine r_icmp_le 12 10 rfl (by decide) dX6_feed_7 (fun c2 => ?_) (fun c2 => ?_)
    · refine r_aload_n 0 rfl rfl 13 rfl dX6_feed_12 ?_
      refine r_getr fl_X6_28 sh_0 rfl 16 rfl dX6_feed_13 ?_
      refine r_iload_n 1 rfl rfl 17 rfl dX6_feed_16 ?_
      refine r_calli (c_X4_put E   _ _) rfl sh_1 rfl ml_X6_66 cw_X4_put vw_X4_put (by decide) (Nat.le_of_ble_eq_true rfl) 20 rfl dX6_feed_17 (fun r3 σ3 => ?_)
      refine r_if_eq 33 23 rfl (by decide) dX6_feed_20 (fun c4 => ?_) (fun c4 => ?_)
      · refine r_bipush (-3) (by decide) 35 rfl dX6_feed_33 ?_
        exact r_iret rfl dX6_feed_35
      · refine r_aload_n 0 rfl rfl 24 rfl dX6_feed_23 ?_
        refine r_getr fl_X6_28 sh_0 rfl 27 rfl dX6_feed_24 ?_
        refine r_geti fl_X6_70 sh_1 rfl 30 rfl dX6_feed_27 ?_
        refine r_goto 35 (by decide) dX6_feed_30 ?_
        exact r_iret rfl dX6_feed_35
    · refine r_iconst (-1) (by decide) 11 rfl dX6_feed_10 ?_
      exact r_iret rfl dX6_feed_11
/-! HandMarket.end(I)I -/
def f_X6_end  (x1 : Int32) (σ : k_Mem) : Option (Int32 × k_Mem) :=
  if x1 < 0 then (
    some ((-1), σ)
  ) else (
    if x1 ≤ (σ 1 1) then (
      some ((σ 1 1), (k_mset σ 1 1 x1))
    ) else (
      some ((-1), σ)
    )
  )
set_option maxRecDepth 100000 in
theorem c_X6_end (E : k_EV)   (x1 : Int32) (σ : k_Mem) : k_MC m_X6_end E k_vi [k_rf E 0, .int x1] σ (f_X6_end x1 σ) := by
  refine k_MC_of ⟨by decide, by decide⟩ (Nat.le_of_ble_eq_true rfl) ?_
  show k_GO _ _ _ 0 [(0, k_rf E 0), (1, .int x1)] [] σ _
  unfold f_X6_end
  refine r_aload_n 0 rfl rfl 1 rfl dX6_end_0 ?_
  refine r_getr fl_X6_28 sh_0 rfl 4 rfl dX6_end_1 ?_
  refine r_geti fl_X6_70 sh_1 rfl 7 rfl dX6_end_4 ?_
  refine r_istore_n [(2, .int _), (0, k_rf E 0), (1, .int _)] rfl rfl (by decide) 8 rfl dX6_end_7 ?_
  refine r_iload_n 2 rfl rfl 9 rfl dX6_end_8 ?_
  refine r_if_lt 17 12 rfl (by decide) dX6_end_9 (fun c1 => ?_) (fun c1 => ?_)
  · refine r_iconst (-1) (by decide) 18 rfl dX6_end_17 ?_
    exact r_iret rfl dX6_end_18
  · refine r_iload_n 2 rfl rfl 13 rfl dX6_end_12 ?_
    refine r_iload_n 0 rfl rfl 14 rfl dX6_end_13 ?_
    refine r_icmp_le 19 17 rfl (by decide) dX6_end_14 (fun c2 => ?_) (fun c2 => ?_)
    · refine r_aload_n 1 rfl rfl 20 rfl dX6_end_19 ?_
      refine r_getr fl_X6_28 sh_0 rfl 23 rfl dX6_end_20 ?_
      refine r_iload_n 2 rfl rfl 24 rfl dX6_end_23 ?_
      refine r_puti fp_X6_70 sh_1 rfl 27 rfl dX6_end_24 ?_
      refine r_iload_n 0 rfl rfl 28 rfl dX6_end_27 ?_
      exact r_iret rfl dX6_end_28
    · refine r_iconst (-1) (by decide) 18 rfl dX6_end_17 ?_
      exact r_iret rfl dX6_end_18
/-! HandMarket.text()I -/
def f_X6_text   (σ : k_Mem) : Option (Int32 × k_Mem) :=
  k_bd (f_X1_parse   σ) (fun _ σ1 =>
    if ((k_mset σ1 1 1 0) 3 2) = 0 then (
      k_bd (f_X5_become 6 38  (k_mset σ1 1 1 0)) (fun _ σ3 =>
        some (((k_mset (k_mset σ3 55 3 0) 0 4 0) 3 4), (k_mset (k_mset σ3 55 3 0) 0 4 0))
      )
    ) else (
      some (((-10) - ((k_mset σ1 1 1 0) 3 3)), (k_mset σ1 1 1 0))
    )
  )
set_option maxRecDepth 100000 in
theorem c_X6_text (E : k_EV)    (σ : k_Mem) : k_MC m_X6_text E k_vi [k_rf E 0] σ (f_X6_text  σ) := by
  refine k_MC_of ⟨by decide, by decide⟩ (Nat.le_of_ble_eq_true rfl) ?_
  show k_GO _ _ _ 0 [(0, k_rf E 0)] [] σ _
  unfold f_X6_text
  refine r_aload_n 0 rfl rfl 1 rfl dX6_text_0 ?_
  refine r_getr fl_X6_37 sh_0 rfl 4 rfl dX6_text_1 ?_
  refine r_callv (c_X1_parse E    _) rfl sh_3 rfl ml_X6_74 cw_X1_parse vw_X1_parse (by decide) (Nat.le_of_ble_eq_true rfl) 7 rfl dX6_text_4 (fun _ σ1 => ?_)
  refine r_aload_n 0 rfl rfl 8 rfl dX6_text_7 ?_
  refine r_getr fl_X6_28 sh_0 rfl 11 rfl dX6_text_8 ?_
  refine r_iconst 0 (by decide) 12 rfl dX6_text_11 ?_
  refine r_puti fp_X6_70 sh_1 rfl 15 rfl dX6_text_12 ?_
  refine r_aload_n 0 rfl rfl 16 rfl dX6_text_15 ?_
  refine r_getr fl_X6_37 sh_0 rfl 19 rfl dX6_text_16 ?_
  refine r_geti fl_X6_77 sh_3 rfl 22 rfl dX6_text_19 ?_
  refine r_if_eq 36 25 rfl (by decide) dX6_text_22 (fun c2 => ?_) (fun c2 => ?_)
  · refine r_aload_n 0 rfl rfl 37 rfl dX6_text_36 ?_
    refine r_getr fl_X6_10 sh_0 rfl 40 rfl dX6_text_37 ?_
    refine r_aload_n 0 rfl rfl 41 rfl dX6_text_40 ?_
    refine r_getr fl_X6_37 sh_0 rfl 44 rfl dX6_text_41 ?_
    refine r_getr fl_X6_83 sh_3 rfl 47 rfl dX6_text_44 ?_
    refine r_callv (c_X5_become E 6 38 tw_6 tw_38  _) rfl sh_6 rfl ml_X6_86 cw_X5_become vw_X5_become (by decide) (Nat.le_of_ble_eq_true rfl) 50 rfl dX6_text_47 (fun _ σ3 => ?_)
    refine r_aload_n 0 rfl rfl 51 rfl dX6_text_50 ?_
    refine r_getr fl_X6_51 sh_0 rfl 54 rfl dX6_text_51 ?_
    refine r_iconst 0 (by decide) 55 rfl dX6_text_54 ?_
    refine r_puti fp_X6_90 sh_55 rfl 58 rfl dX6_text_55 ?_
    refine r_aload_n 0 rfl rfl 59 rfl dX6_text_58 ?_
    refine r_iconst 0 (by decide) 60 rfl dX6_text_59 ?_
    refine r_puti fp_X6_91 sh_0 rfl 63 rfl dX6_text_60 ?_
    refine r_aload_n 0 rfl rfl 64 rfl dX6_text_63 ?_
    refine r_getr fl_X6_37 sh_0 rfl 67 rfl dX6_text_64 ?_
    refine r_geti fl_X6_94 sh_3 rfl 70 rfl dX6_text_67 ?_
    exact r_iret rfl dX6_text_70
  · refine r_bipush (-10) (by decide) 27 rfl dX6_text_25 ?_
    refine r_aload_n 0 rfl rfl 28 rfl dX6_text_27 ?_
    refine r_getr fl_X6_37 sh_0 rfl 31 rfl dX6_text_28 ?_
    refine r_geti fl_X6_80 sh_3 rfl 34 rfl dX6_text_31 ?_
    refine r_isub 35 rfl dX6_text_34 ?_
    exact r_iret rfl dX6_text_35
/-! HandMarket.fault()I -/
def f_X6_fault   (σ : k_Mem) : Option (Int32 × k_Mem) :=
  some ((σ 3 2), σ)
set_option maxRecDepth 100000 in
theorem c_X6_fault (E : k_EV)    (σ : k_Mem) : k_MC m_X6_fault E k_vi [k_rf E 0] σ (f_X6_fault  σ) := by
  refine k_MC_of ⟨by decide, by decide⟩ (Nat.le_of_ble_eq_true rfl) ?_
  show k_GO _ _ _ 0 [(0, k_rf E 0)] [] σ _
  unfold f_X6_fault
  refine r_aload_n 0 rfl rfl 1 rfl dX6_fault_0 ?_
  refine r_getr fl_X6_37 sh_0 rfl 4 rfl dX6_fault_1 ?_
  refine r_geti fl_X6_77 sh_3 rfl 7 rfl dX6_fault_4 ?_
  exact r_iret rfl dX6_fault_7
/-! HandMarket.rule(I)I -/
def f_X6_rule  (x1 : Int32) (σ : k_Mem) : Option (Int32 × k_Mem) :=
  if x1 = 0 then (
    some ((σ 6 7), σ)
  ) else (
  if x1 = 1 then (
    some ((σ 6 8), σ)
  ) else (
  if x1 = 2 then (
    some ((σ 6 9), σ)
  ) else (
  if x1 = 3 then (
    k_bd (f_X5_wedBits 6  σ) (fun r5 σ5 =>
      some (r5, σ5)
    )
  ) else (
  if x1 = 4 then (
    some ((σ 6 10), σ)
  ) else (
    some ((-1), σ)
  )))))
set_option maxRecDepth 100000 in
theorem c_X6_rule (E : k_EV)   (x1 : Int32) (σ : k_Mem) : k_MC m_X6_rule E k_vi [k_rf E 0, .int x1] σ (f_X6_rule x1 σ) := by
  refine k_MC_of ⟨by decide, by decide⟩ (Nat.le_of_ble_eq_true rfl) ?_
  show k_GO _ _ _ 0 [(0, k_rf E 0), (1, .int x1)] [] σ _
  unfold f_X6_rule
  refine r_iload_n 1 rfl rfl 1 rfl dX6_rule_0 ?_
  refine r_split (fun c1 => ?_) (fun c1 => ?_)
  · refine r_tin 0 c1 35 36 (by decide) (by decide) (by decide) (by decide) dX6_rule_1 ?_
    refine r_aload_n 0 rfl rfl 37 rfl dX6_rule_36 ?_
    refine r_getr fl_X6_10 sh_0 rfl 40 rfl dX6_rule_37 ?_
    refine r_geti fl_X6_97 sh_6 rfl 43 rfl dX6_rule_40 ?_
    exact r_iret rfl dX6_rule_43
  refine r_split (fun c2 => ?_) (fun c2 => ?_)
  · refine r_tin 1 c2 43 44 (by decide) (by decide) (by decide) (by decide) dX6_rule_1 ?_
    refine r_aload_n 0 rfl rfl 45 rfl dX6_rule_44 ?_
    refine r_getr fl_X6_10 sh_0 rfl 48 rfl dX6_rule_45 ?_
    refine r_geti fl_X6_100 sh_6 rfl 51 rfl dX6_rule_48 ?_
    exact r_iret rfl dX6_rule_51
  refine r_split (fun c3 => ?_) (fun c3 => ?_)
  · refine r_tin 2 c3 51 52 (by decide) (by decide) (by decide) (by decide) dX6_rule_1 ?_
    refine r_aload_n 0 rfl rfl 53 rfl dX6_rule_52 ?_
    refine r_getr fl_X6_10 sh_0 rfl 56 rfl dX6_rule_53 ?_
    refine r_geti fl_X6_103 sh_6 rfl 59 rfl dX6_rule_56 ?_
    exact r_iret rfl dX6_rule_59
  refine r_split (fun c4 => ?_) (fun c4 => ?_)
  · refine r_tin 3 c4 59 60 (by decide) (by decide) (by decide) (by decide) dX6_rule_1 ?_
    refine r_aload_n 0 rfl rfl 61 rfl dX6_rule_60 ?_
    refine r_getr fl_X6_10 sh_0 rfl 64 rfl dX6_rule_61 ?_
    refine r_calli (c_X5_wedBits E 6 tw_6  _) rfl sh_6 rfl ml_X6_106 cw_X5_wedBits vw_X5_wedBits (by decide) (Nat.le_of_ble_eq_true rfl) 67 rfl dX6_rule_64 (fun r5 σ5 => ?_)
    exact r_iret rfl dX6_rule_67
  refine r_split (fun c6 => ?_) (fun c6 => ?_)
  · refine r_tin 4 c6 67 68 (by decide) (by decide) (by decide) (by decide) dX6_rule_1 ?_
    refine r_aload_n 0 rfl rfl 69 rfl dX6_rule_68 ?_
    refine r_getr fl_X6_10 sh_0 rfl 72 rfl dX6_rule_69 ?_
    refine r_geti fl_X6_110 sh_6 rfl 75 rfl dX6_rule_72 ?_
    exact r_iret rfl dX6_rule_75
  refine r_tout 76 (by have hc1 := lv_neT c1 (k := 0) (a := 0) (by decide); have hc2 := lv_neT c2 (k := 1) (a := 1) (by decide); have hc3 := lv_neT c3 (k := 2) (a := 2) (by decide); have hc4 := lv_neT c4 (k := 3) (a := 3) (by decide); have hc6 := lv_neT c6 (k := 4) (a := 4) (by decide); omega) (by decide) dX6_rule_1 ?_
  refine r_iconst (-1) (by decide) 77 rfl dX6_rule_76 ?_
  exact r_iret rfl dX6_rule_77
/-! HandMarket.orNone(I)I -/
def f_X6_orNone  (x0 : Int32) (σ : k_Mem) : Option (Int32 × k_Mem) :=
  if x0 = (-1) then (
    some ((-4), σ)
  ) else (
    some (x0, σ)
  )
set_option maxRecDepth 100000 in
theorem c_X6_orNone (E : k_EV)   (x0 : Int32) (σ : k_Mem) : k_MC m_X6_orNone E k_vi [.int x0] σ (f_X6_orNone x0 σ) := by
  refine k_MC_of ⟨by decide, by decide⟩ (Nat.le_of_ble_eq_true rfl) ?_
  show k_GO _ _ _ 0 [(0, .int x0)] [] σ _
  unfold f_X6_orNone
  refine r_iload_n 0 rfl rfl 1 rfl dX6_orNone_0 ?_
  refine r_iconst (-1) (by decide) 2 rfl dX6_orNone_1 ?_
  refine r_icmp_ne 10 5 rfl (by decide) dX6_orNone_2 (fun c1 => ?_) (fun c1 => ?_)
  · refine r_bipush (-4) (by decide) 7 rfl dX6_orNone_5 ?_
    refine r_goto 11 (by decide) dX6_orNone_7 ?_
    exact r_iret rfl dX6_orNone_11
  · refine r_iload_n 0 rfl rfl 11 rfl dX6_orNone_10 ?_
    exact r_iret rfl dX6_orNone_11
/-! HandMarket.hand(II)I -/
def f_X6_hand  (x1 : Int32) (x2 : Int32) (σ : k_Mem) : Option (Int32 × k_Mem) :=
  k_bd (f_X5_isHand 6 x1 σ) (fun r1 σ1 =>
    if r1 = 0 then (
      some ((-1), σ1)
    ) else (
      if x2 = 0 then (
        if k_in x1 8 then (
          some ((σ1 7 (k_n x1)), σ1)
        ) else none
      ) else (
      if x2 = 1 then (
        if k_in x1 8 then (
          some ((σ1 8 (k_n x1)), σ1)
        ) else none
      ) else (
      if x2 = 2 then (
        if k_in x1 8 then (
          some ((σ1 9 (k_n x1)), σ1)
        ) else none
      ) else (
      if x2 = 3 then (
        if k_in x1 8 then (
          some ((σ1 10 (k_n x1)), σ1)
        ) else none
      ) else (
      if x2 = 4 then (
        if k_in x1 8 then (
          some ((σ1 11 (k_n x1)), σ1)
        ) else none
      ) else (
      if x2 = 5 then (
        if k_in x1 8 then (
          k_bd (f_X6_orNone  (σ1 12 (k_n x1)) σ1) (fun r9 σ9 =>
            some (r9, σ9)
          )
        ) else none
      ) else (
      if x2 = 6 then (
        if k_in x1 8 then (
          some ((σ1 13 (k_n x1)), σ1)
        ) else none
      ) else (
        some ((-1), σ1)
      )))))))
    )
  )
set_option maxRecDepth 100000 in
theorem c_X6_hand (E : k_EV)   (x1 : Int32) (x2 : Int32) (σ : k_Mem) : k_MC m_X6_hand E k_vi [k_rf E 0, .int x1, .int x2] σ (f_X6_hand x1 x2 σ) := by
  refine k_MC_of ⟨by decide, by decide⟩ (Nat.le_of_ble_eq_true rfl) ?_
  show k_GO _ _ _ 0 [(0, k_rf E 0), (1, .int x1), (2, .int x2)] [] σ _
  unfold f_X6_hand
  refine r_aload_n 0 rfl rfl 1 rfl dX6_hand_0 ?_
  refine r_getr fl_X6_10 sh_0 rfl 4 rfl dX6_hand_1 ?_
  refine r_iload_n 1 rfl rfl 5 rfl dX6_hand_4 ?_
  refine r_calli (c_X5_isHand E 6 tw_6 _ _) rfl sh_6 rfl ml_X6_113 cw_X5_isHand vw_X5_isHand (by decide) (Nat.le_of_ble_eq_true rfl) 8 rfl dX6_hand_5 (fun r1 σ1 => ?_)
  refine r_if_ne 13 11 rfl (by decide) dX6_hand_8 (fun c2 => ?_) (fun c2 => ?_)
  · refine r_iconst (-1) (by decide) 12 rfl dX6_hand_11 ?_
    exact r_iret rfl dX6_hand_12
  · refine r_iload_n 2 rfl rfl 14 rfl dX6_hand_13 ?_
    refine r_split (fun c3 => ?_) (fun c3 => ?_)
    · refine r_tin 0 c3 42 56 (by decide) (by decide) (by decide) (by decide) dX6_hand_14 ?_
      refine r_aload_n 0 rfl rfl 57 rfl dX6_hand_56 ?_
      refine r_getr fl_X6_10 sh_0 rfl 60 rfl dX6_hand_57 ?_
      refine r_getr fl_X6_116 sh_6 rfl 63 rfl dX6_hand_60 ?_
      refine r_iload_n 1 rfl rfl 64 rfl dX6_hand_63 ?_
      refine r_iald sh_7 65 rfl dX6_hand_64 ?_
      exact r_iret rfl dX6_hand_65
    refine r_split (fun c4 => ?_) (fun c4 => ?_)
    · refine r_tin 1 c4 52 66 (by decide) (by decide) (by decide) (by decide) dX6_hand_14 ?_
      refine r_aload_n 0 rfl rfl 67 rfl dX6_hand_66 ?_
      refine r_getr fl_X6_10 sh_0 rfl 70 rfl dX6_hand_67 ?_
      refine r_getr fl_X6_119 sh_6 rfl 73 rfl dX6_hand_70 ?_
      refine r_iload_n 1 rfl rfl 74 rfl dX6_hand_73 ?_
      refine r_iald sh_8 75 rfl dX6_hand_74 ?_
      exact r_iret rfl dX6_hand_75
    refine r_split (fun c5 => ?_) (fun c5 => ?_)
    · refine r_tin 2 c5 62 76 (by decide) (by decide) (by decide) (by decide) dX6_hand_14 ?_
      refine r_aload_n 0 rfl rfl 77 rfl dX6_hand_76 ?_
      refine r_getr fl_X6_10 sh_0 rfl 80 rfl dX6_hand_77 ?_
      refine r_getr fl_X6_122 sh_6 rfl 83 rfl dX6_hand_80 ?_
      refine r_iload_n 1 rfl rfl 84 rfl dX6_hand_83 ?_
      refine r_iald sh_9 85 rfl dX6_hand_84 ?_
      exact r_iret rfl dX6_hand_85
    refine r_split (fun c6 => ?_) (fun c6 => ?_)
    · refine r_tin 3 c6 72 86 (by decide) (by decide) (by decide) (by decide) dX6_hand_14 ?_
      refine r_aload_n 0 rfl rfl 87 rfl dX6_hand_86 ?_
      refine r_getr fl_X6_10 sh_0 rfl 90 rfl dX6_hand_87 ?_
      refine r_getr fl_X6_125 sh_6 rfl 93 rfl dX6_hand_90 ?_
      refine r_iload_n 1 rfl rfl 94 rfl dX6_hand_93 ?_
      refine r_iald sh_10 95 rfl dX6_hand_94 ?_
      exact r_iret rfl dX6_hand_95
    refine r_split (fun c7 => ?_) (fun c7 => ?_)
    · refine r_tin 4 c7 82 96 (by decide) (by decide) (by decide) (by decide) dX6_hand_14 ?_
      refine r_aload_n 0 rfl rfl 97 rfl dX6_hand_96 ?_
      refine r_getr fl_X6_10 sh_0 rfl 100 rfl dX6_hand_97 ?_
      refine r_getr fl_X6_128 sh_6 rfl 103 rfl dX6_hand_100 ?_
      refine r_iload_n 1 rfl rfl 104 rfl dX6_hand_103 ?_
      refine r_iald sh_11 105 rfl dX6_hand_104 ?_
      exact r_iret rfl dX6_hand_105
    refine r_split (fun c8 => ?_) (fun c8 => ?_)
    · refine r_tin 5 c8 92 106 (by decide) (by decide) (by decide) (by decide) dX6_hand_14 ?_
      refine r_aload_n 0 rfl rfl 107 rfl dX6_hand_106 ?_
      refine r_getr fl_X6_10 sh_0 rfl 110 rfl dX6_hand_107 ?_
      refine r_getr fl_X6_131 sh_6 rfl 113 rfl dX6_hand_110 ?_
      refine r_iload_n 1 rfl rfl 114 rfl dX6_hand_113 ?_
      refine r_iald sh_12 115 rfl dX6_hand_114 ?_
      refine r_callsi (c_X6_orNone E   _ _) rfl ml_X6_134 cw_X6_orNone sw_X6_orNone (by decide) (Nat.le_of_ble_eq_true rfl) 118 rfl dX6_hand_115 (fun r9 σ9 => ?_)
      exact r_iret rfl dX6_hand_118
    refine r_split (fun c10 => ?_) (fun c10 => ?_)
    · refine r_tin 6 c10 105 119 (by decide) (by decide) (by decide) (by decide) dX6_hand_14 ?_
      refine r_aload_n 0 rfl rfl 120 rfl dX6_hand_119 ?_
      refine r_getr fl_X6_10 sh_0 rfl 123 rfl dX6_hand_120 ?_
      refine r_getr fl_X6_138 sh_6 rfl 126 rfl dX6_hand_123 ?_
      refine r_iload_n 1 rfl rfl 127 rfl dX6_hand_126 ?_
      refine r_iald sh_13 128 rfl dX6_hand_127 ?_
      exact r_iret rfl dX6_hand_128
    refine r_tout 129 (by have hc3 := lv_neT c3 (k := 0) (a := 0) (by decide); have hc4 := lv_neT c4 (k := 1) (a := 1) (by decide); have hc5 := lv_neT c5 (k := 2) (a := 2) (by decide); have hc6 := lv_neT c6 (k := 3) (a := 3) (by decide); have hc7 := lv_neT c7 (k := 4) (a := 4) (by decide); have hc8 := lv_neT c8 (k := 5) (a := 5) (by decide); have hc10 := lv_neT c10 (k := 6) (a := 6) (by decide); omega) (by decide) dX6_hand_14 ?_
    refine r_iconst (-1) (by decide) 130 rfl dX6_hand_129 ?_
    exact r_iret rfl dX6_hand_130
/-! HandMarket.isTrait(I)Z -/
def f_X6_isTrait  (x0 : Int32) (σ : k_Mem) : Option (Int32 × k_Mem) :=
  if x0 < 0 then (
    some (0, σ)
  ) else (
    if 2 < x0 then (
      some (0, σ)
    ) else (
      some (1, σ)
    )
  )
set_option maxRecDepth 100000 in
theorem c_X6_isTrait (E : k_EV)   (x0 : Int32) (σ : k_Mem) : k_MC m_X6_isTrait E k_vi [.int x0] σ (f_X6_isTrait x0 σ) := by
  refine k_MC_of ⟨by decide, by decide⟩ (Nat.le_of_ble_eq_true rfl) ?_
  show k_GO _ _ _ 0 [(0, .int x0)] [] σ _
  unfold f_X6_isTrait
  refine r_iload_n 0 rfl rfl 1 rfl dX6_isTrait_0 ?_
  refine r_if_lt 13 4 rfl (by decide) dX6_isTrait_1 (fun c1 => ?_) (fun c1 => ?_)
  · refine r_iconst 0 (by decide) 14 rfl dX6_isTrait_13 ?_
    exact r_zret rfl (Or.inl rfl) dX6_isTrait_14
  · refine r_iload_n 0 rfl rfl 5 rfl dX6_isTrait_4 ?_
    refine r_iconst 2 (by decide) 6 rfl dX6_isTrait_5 ?_
    refine r_icmp_gt 13 9 rfl (by decide) dX6_isTrait_6 (fun c2 => ?_) (fun c2 => ?_)
    · refine r_iconst 0 (by decide) 14 rfl dX6_isTrait_13 ?_
      exact r_zret rfl (Or.inl rfl) dX6_isTrait_14
    · refine r_iconst 1 (by decide) 10 rfl dX6_isTrait_9 ?_
      refine r_goto 14 (by decide) dX6_isTrait_10 ?_
      exact r_zret rfl (Or.inr rfl) dX6_isTrait_14
/-! HandMarket.page(II)I -/
def f_X6_page  (x1 : Int32) (x2 : Int32) (σ : k_Mem) : Option (Int32 × k_Mem) :=
  k_bd (f_X5_isHand 6 x1 σ) (fun r1 σ1 =>
    if r1 = 0 then (
      some ((-1), σ1)
    ) else (
      k_bd (f_X6_isTrait  x2 σ1) (fun r3 σ3 =>
        if r3 = 0 then (
          some ((-1), σ3)
        ) else (
          k_bd (f_X5_shows 6 x1 x2 σ3) (fun r5 σ5 =>
            some (r5, σ5)
          )
        )
      )
    )
  )
set_option maxRecDepth 100000 in
theorem c_X6_page (E : k_EV)   (x1 : Int32) (x2 : Int32) (σ : k_Mem) : k_MC m_X6_page E k_vi [k_rf E 0, .int x1, .int x2] σ (f_X6_page x1 x2 σ) := by
  refine k_MC_of ⟨by decide, by decide⟩ (Nat.le_of_ble_eq_true rfl) ?_
  show k_GO _ _ _ 0 [(0, k_rf E 0), (1, .int x1), (2, .int x2)] [] σ _
  unfold f_X6_page
  refine r_aload_n 0 rfl rfl 1 rfl dX6_page_0 ?_
  refine r_getr fl_X6_10 sh_0 rfl 4 rfl dX6_page_1 ?_
  refine r_iload_n 1 rfl rfl 5 rfl dX6_page_4 ?_
  refine r_calli (c_X5_isHand E 6 tw_6 _ _) rfl sh_6 rfl ml_X6_113 cw_X5_isHand vw_X5_isHand (by decide) (Nat.le_of_ble_eq_true rfl) 8 rfl dX6_page_5 (fun r1 σ1 => ?_)
  refine r_if_eq 18 11 rfl (by decide) dX6_page_8 (fun c2 => ?_) (fun c2 => ?_)
  · refine r_iconst (-1) (by decide) 19 rfl dX6_page_18 ?_
    exact r_iret rfl dX6_page_19
  · refine r_iload_n 2 rfl rfl 12 rfl dX6_page_11 ?_
    refine r_callsi (c_X6_isTrait E   _ _) rfl ml_X6_141 cw_X6_isTrait sw_X6_isTrait (by decide) (Nat.le_of_ble_eq_true rfl) 15 rfl dX6_page_12 (fun r3 σ3 => ?_)
    refine r_if_ne 20 18 rfl (by decide) dX6_page_15 (fun c4 => ?_) (fun c4 => ?_)
    · refine r_iconst (-1) (by decide) 19 rfl dX6_page_18 ?_
      exact r_iret rfl dX6_page_19
    · refine r_aload_n 0 rfl rfl 21 rfl dX6_page_20 ?_
      refine r_getr fl_X6_10 sh_0 rfl 24 rfl dX6_page_21 ?_
      refine r_iload_n 1 rfl rfl 25 rfl dX6_page_24 ?_
      refine r_iload_n 2 rfl rfl 26 rfl dX6_page_25 ?_
      refine r_calli (c_X5_shows E 6 tw_6 _ _ _) rfl sh_6 rfl ml_X6_144 cw_X5_shows vw_X5_shows (by decide) (Nat.le_of_ble_eq_true rfl) 29 rfl dX6_page_26 (fun r5 σ5 => ?_)
      exact r_iret rfl dX6_page_29
/-! HandMarket.likes(II)I -/
def f_X6_likes  (x1 : Int32) (x2 : Int32) (σ : k_Mem) : Option (Int32 × k_Mem) :=
  k_bd (f_X5_isHand 6 x1 σ) (fun r1 σ1 =>
    if r1 = 0 then (
      some ((-1), σ1)
    ) else (
      k_bd (f_X5_isHand 6 x2 σ1) (fun r3 σ3 =>
        if r3 = 0 then (
          some ((-1), σ3)
        ) else (
          k_bd (f_X5_sameSide  x1 x2 σ3) (fun r5 σ5 =>
            if r5 = 0 then (
              k_bd (f_X0_weigh 6  σ5) (fun _ σ7 =>
                k_bd (f_X0_liking  x1 x2 σ7) (fun r8 σ8 =>
                  some (r8, σ8)
                )
              )
            ) else (
              some ((-1), σ5)
            )
          )
        )
      )
    )
  )
set_option maxRecDepth 100000 in
theorem c_X6_likes (E : k_EV)   (x1 : Int32) (x2 : Int32) (σ : k_Mem) : k_MC m_X6_likes E k_vi [k_rf E 0, .int x1, .int x2] σ (f_X6_likes x1 x2 σ) := by
  refine k_MC_of ⟨by decide, by decide⟩ (Nat.le_of_ble_eq_true rfl) ?_
  show k_GO _ _ _ 0 [(0, k_rf E 0), (1, .int x1), (2, .int x2)] [] σ _
  unfold f_X6_likes
  refine r_aload_n 0 rfl rfl 1 rfl dX6_likes_0 ?_
  refine r_getr fl_X6_10 sh_0 rfl 4 rfl dX6_likes_1 ?_
  refine r_iload_n 1 rfl rfl 5 rfl dX6_likes_4 ?_
  refine r_calli (c_X5_isHand E 6 tw_6 _ _) rfl sh_6 rfl ml_X6_113 cw_X5_isHand vw_X5_isHand (by decide) (Nat.le_of_ble_eq_true rfl) 8 rfl dX6_likes_5 (fun r1 σ1 => ?_)
  refine r_if_eq 30 11 rfl (by decide) dX6_likes_8 (fun c2 => ?_) (fun c2 => ?_)
  · refine r_iconst (-1) (by decide) 31 rfl dX6_likes_30 ?_
    exact r_iret rfl dX6_likes_31
  · refine r_aload_n 0 rfl rfl 12 rfl dX6_likes_11 ?_
    refine r_getr fl_X6_10 sh_0 rfl 15 rfl dX6_likes_12 ?_
    refine r_iload_n 2 rfl rfl 16 rfl dX6_likes_15 ?_
    refine r_calli (c_X5_isHand E 6 tw_6 _ _) rfl sh_6 rfl ml_X6_113 cw_X5_isHand vw_X5_isHand (by decide) (Nat.le_of_ble_eq_true rfl) 19 rfl dX6_likes_16 (fun r3 σ3 => ?_)
    refine r_if_eq 30 22 rfl (by decide) dX6_likes_19 (fun c4 => ?_) (fun c4 => ?_)
    · refine r_iconst (-1) (by decide) 31 rfl dX6_likes_30 ?_
      exact r_iret rfl dX6_likes_31
    · refine r_iload_n 1 rfl rfl 23 rfl dX6_likes_22 ?_
      refine r_iload_n 2 rfl rfl 24 rfl dX6_likes_23 ?_
      refine r_callsi (c_X5_sameSide E   _ _ _) rfl ml_X6_148 cw_X5_sameSide sw_X5_sameSide (by decide) (Nat.le_of_ble_eq_true rfl) 27 rfl dX6_likes_24 (fun r5 σ5 => ?_)
      refine r_if_eq 32 30 rfl (by decide) dX6_likes_27 (fun c6 => ?_) (fun c6 => ?_)
      · refine r_aload_n 0 rfl rfl 33 rfl dX6_likes_32 ?_
        refine r_getr fl_X6_44 sh_0 rfl 36 rfl dX6_likes_33 ?_
        refine r_aload_n 0 rfl rfl 37 rfl dX6_likes_36 ?_
        refine r_getr fl_X6_10 sh_0 rfl 40 rfl dX6_likes_37 ?_
        refine r_callv (c_X0_weigh E 6 tw_6  _) rfl sh_46 rfl ml_X6_152 cw_X0_weigh vw_X0_weigh (by decide) (Nat.le_of_ble_eq_true rfl) 43 rfl dX6_likes_40 (fun _ σ7 => ?_)
        refine r_aload_n 0 rfl rfl 44 rfl dX6_likes_43 ?_
        refine r_getr fl_X6_44 sh_0 rfl 47 rfl dX6_likes_44 ?_
        refine r_iload_n 1 rfl rfl 48 rfl dX6_likes_47 ?_
        refine r_iload_n 2 rfl rfl 49 rfl dX6_likes_48 ?_
        refine r_calli (c_X0_liking E   _ _ _) rfl sh_46 rfl ml_X6_155 cw_X0_liking vw_X0_liking (by decide) (Nat.le_of_ble_eq_true rfl) 52 rfl dX6_likes_49 (fun r8 σ8 => ?_)
        exact r_iret rfl dX6_likes_52
      · refine r_iconst (-1) (by decide) 31 rfl dX6_likes_30 ?_
        exact r_iret rfl dX6_likes_31
/-! HandMarket.rather(II)I -/
def f_X6_rather  (x1 : Int32) (x2 : Int32) (σ : k_Mem) : Option (Int32 × k_Mem) :=
  k_bd (f_X5_isHand 6 x1 σ) (fun r1 σ1 =>
    if r1 = 0 then (
      some ((-1), σ1)
    ) else (
      if 0 ≤ x2 then (
        k_bd (f_X0_weigh 6  σ1) (fun _ σ4 =>
          k_bd (f_X0_choiceOf  x1 x2 σ4) (fun r5 σ5 =>
            k_bd (f_X6_orNone  r5 σ5) (fun r6 σ6 =>
              some (r6, σ6)
            )
          )
        )
      ) else (
        some ((-1), σ1)
      )
    )
  )
set_option maxRecDepth 100000 in
theorem c_X6_rather (E : k_EV)   (x1 : Int32) (x2 : Int32) (σ : k_Mem) : k_MC m_X6_rather E k_vi [k_rf E 0, .int x1, .int x2] σ (f_X6_rather x1 x2 σ) := by
  refine k_MC_of ⟨by decide, by decide⟩ (Nat.le_of_ble_eq_true rfl) ?_
  show k_GO _ _ _ 0 [(0, k_rf E 0), (1, .int x1), (2, .int x2)] [] σ _
  unfold f_X6_rather
  refine r_aload_n 0 rfl rfl 1 rfl dX6_rather_0 ?_
  refine r_getr fl_X6_10 sh_0 rfl 4 rfl dX6_rather_1 ?_
  refine r_iload_n 1 rfl rfl 5 rfl dX6_rather_4 ?_
  refine r_calli (c_X5_isHand E 6 tw_6 _ _) rfl sh_6 rfl ml_X6_113 cw_X5_isHand vw_X5_isHand (by decide) (Nat.le_of_ble_eq_true rfl) 8 rfl dX6_rather_5 (fun r1 σ1 => ?_)
  refine r_if_eq 15 11 rfl (by decide) dX6_rather_8 (fun c2 => ?_) (fun c2 => ?_)
  · refine r_iconst (-1) (by decide) 16 rfl dX6_rather_15 ?_
    exact r_iret rfl dX6_rather_16
  · refine r_iload_n 2 rfl rfl 12 rfl dX6_rather_11 ?_
    refine r_if_ge 17 15 rfl (by decide) dX6_rather_12 (fun c3 => ?_) (fun c3 => ?_)
    · refine r_aload_n 0 rfl rfl 18 rfl dX6_rather_17 ?_
      refine r_getr fl_X6_44 sh_0 rfl 21 rfl dX6_rather_18 ?_
      refine r_aload_n 0 rfl rfl 22 rfl dX6_rather_21 ?_
      refine r_getr fl_X6_10 sh_0 rfl 25 rfl dX6_rather_22 ?_
      refine r_callv (c_X0_weigh E 6 tw_6  _) rfl sh_46 rfl ml_X6_152 cw_X0_weigh vw_X0_weigh (by decide) (Nat.le_of_ble_eq_true rfl) 28 rfl dX6_rather_25 (fun _ σ4 => ?_)
      refine r_aload_n 0 rfl rfl 29 rfl dX6_rather_28 ?_
      refine r_getr fl_X6_44 sh_0 rfl 32 rfl dX6_rather_29 ?_
      refine r_iload_n 1 rfl rfl 33 rfl dX6_rather_32 ?_
      refine r_iload_n 2 rfl rfl 34 rfl dX6_rather_33 ?_
      refine r_calli (c_X0_choiceOf E   _ _ _) rfl sh_46 rfl ml_X6_158 cw_X0_choiceOf vw_X0_choiceOf (by decide) (Nat.le_of_ble_eq_true rfl) 37 rfl dX6_rather_34 (fun r5 σ5 => ?_)
      refine r_callsi (c_X6_orNone E   _ _) rfl ml_X6_134 cw_X6_orNone sw_X6_orNone (by decide) (Nat.le_of_ble_eq_true rfl) 40 rfl dX6_rather_37 (fun r6 σ6 => ?_)
      exact r_iret rfl dX6_rather_40
    · refine r_iconst (-1) (by decide) 16 rfl dX6_rather_15 ?_
      exact r_iret rfl dX6_rather_16
/-! HandMarket.replace([IIIZ)I -/
def f_X6_replace (o0 : Nat) (n0 : Nat) (x1 : Int32) (x2 : Int32) (x3 : Int32) (σ : k_Mem) : Option (Int32 × k_Mem) :=
  if x3 = 0 then (
    some ((-1), σ)
  ) else (
    if x1 < 0 then (
      some ((-1), σ)
    ) else (
      if x1 < (nI n0) then (
        if k_in x1 n0 then (
          if k_in x1 n0 then (
            some ((σ o0 (k_n x1)), (k_mset σ o0 (k_n x1) x2))
          ) else none
        ) else none
      ) else (
        some ((-1), σ)
      )
    )
  )
set_option maxRecDepth 100000 in
theorem c_X6_replace (E : k_EV) (o0 : Nat) (n0 : Nat) (ho0 : k_SH o0 = .inl (.int, n0, none)) (x1 : Int32) (x2 : Int32) (x3 : Int32) (σ : k_Mem) : k_MC m_X6_replace E k_vi [k_rf E o0, .int x1, .int x2, .int x3] σ (f_X6_replace o0 n0 x1 x2 x3 σ) := by
  refine k_MC_of ⟨by decide, by decide⟩ (Nat.le_of_ble_eq_true rfl) ?_
  show k_GO _ _ _ 0 [(0, k_rf E o0), (1, .int x1), (2, .int x2), (3, .int x3)] [] σ _
  unfold f_X6_replace
  refine r_iload_n 3 rfl rfl 1 rfl dX6_replace_0 ?_
  refine r_if_eq 14 4 rfl (by decide) dX6_replace_1 (fun c1 => ?_) (fun c1 => ?_)
  · refine r_iconst (-1) (by decide) 15 rfl dX6_replace_14 ?_
    exact r_iret rfl dX6_replace_15
  · refine r_iload_n 1 rfl rfl 5 rfl dX6_replace_4 ?_
    refine r_if_lt 14 8 rfl (by decide) dX6_replace_5 (fun c2 => ?_) (fun c2 => ?_)
    · refine r_iconst (-1) (by decide) 15 rfl dX6_replace_14 ?_
      exact r_iret rfl dX6_replace_15
    · refine r_iload_n 1 rfl rfl 9 rfl dX6_replace_8 ?_
      refine r_aload_n 0 rfl rfl 10 rfl dX6_replace_9 ?_
      refine r_alen ho0 11 rfl dX6_replace_10 ?_
      refine r_icmp_lt 16 14 rfl (by decide) dX6_replace_11 (fun c3 => ?_) (fun c3 => ?_)
      · refine r_aload_n 0 rfl rfl 17 rfl dX6_replace_16 ?_
        refine r_iload_n 1 rfl rfl 18 rfl dX6_replace_17 ?_
        refine r_iald ho0 19 rfl dX6_replace_18 ?_
        refine r_istore [(4, .int _), (0, k_rf E o0), (1, .int _), (2, .int _), (3, .int _)] rfl (by decide) 21 rfl dX6_replace_19 ?_
        refine r_aload_n 1 rfl rfl 22 rfl dX6_replace_21 ?_
        refine r_iload_n 2 rfl rfl 23 rfl dX6_replace_22 ?_
        refine r_iload_n 3 rfl rfl 24 rfl dX6_replace_23 ?_
        refine r_iast ho0 25 rfl dX6_replace_24 ?_
        refine r_iload 0 rfl 27 rfl dX6_replace_25 ?_
        exact r_iret rfl dX6_replace_27
      · refine r_iconst (-1) (by decide) 15 rfl dX6_replace_14 ?_
        exact r_iret rfl dX6_replace_15
/-! HandMarket.isStrokes(I)Z -/
def f_X6_isStrokes  (x0 : Int32) (σ : k_Mem) : Option (Int32 × k_Mem) :=
  if x0 < 0 then (
    some (0, σ)
  ) else (
    if 9 < x0 then (
      some (0, σ)
    ) else (
      some (1, σ)
    )
  )
set_option maxRecDepth 100000 in
theorem c_X6_isStrokes (E : k_EV)   (x0 : Int32) (σ : k_Mem) : k_MC m_X6_isStrokes E k_vi [.int x0] σ (f_X6_isStrokes x0 σ) := by
  refine k_MC_of ⟨by decide, by decide⟩ (Nat.le_of_ble_eq_true rfl) ?_
  show k_GO _ _ _ 0 [(0, .int x0)] [] σ _
  unfold f_X6_isStrokes
  refine r_iload_n 0 rfl rfl 1 rfl dX6_isStrokes_0 ?_
  refine r_if_lt 14 4 rfl (by decide) dX6_isStrokes_1 (fun c1 => ?_) (fun c1 => ?_)
  · refine r_iconst 0 (by decide) 15 rfl dX6_isStrokes_14 ?_
    exact r_zret rfl (Or.inl rfl) dX6_isStrokes_15
  · refine r_iload_n 0 rfl rfl 5 rfl dX6_isStrokes_4 ?_
    refine r_bipush 9 (by decide) 7 rfl dX6_isStrokes_5 ?_
    refine r_icmp_gt 14 10 rfl (by decide) dX6_isStrokes_7 (fun c2 => ?_) (fun c2 => ?_)
    · refine r_iconst 0 (by decide) 15 rfl dX6_isStrokes_14 ?_
      exact r_zret rfl (Or.inl rfl) dX6_isStrokes_15
    · refine r_iconst 1 (by decide) 11 rfl dX6_isStrokes_10 ?_
      refine r_goto 15 (by decide) dX6_isStrokes_11 ?_
      exact r_zret rfl (Or.inr rfl) dX6_isStrokes_15
/-! HandMarket.alter(III)I -/
def j_X6_alter_71   (xs1 : Int32) (xs2 : Int32) (xs3 : Int32) (σ : k_Mem) : Option (Int32 × k_Mem) :=
  k_bd (f_X6_replace 7 8 xs1 xs2 xs3 σ) (fun r5 σ5 =>
    some (r5, σ5)
  )
set_option maxRecDepth 100000 in
theorem gj_X6_alter_71 (E : k_EV)     (xs1 : Int32) (xs2 : Int32) (xs3 : Int32)  (σ : k_Mem) : k_GO m_X6_alter E k_vi 71 [] [.int xs3, .int xs2, .int xs1, k_rf E 7] σ (j_X6_alter_71   xs1 xs2 xs3 σ) := by
  unfold j_X6_alter_71
  refine r_callsi (c_X6_replace E 7 8 sh_7 _ _ _ _) rfl ml_X6_161 cw_X6_replace sw_X6_replace (by decide) (Nat.le_of_ble_eq_true rfl) 74 rfl dX6_alter_71 (fun r5 σ5 => ?_)
  exact r_iret rfl dX6_alter_74
def j_X6_alter_70   (xs1 : Int32) (xs2 : Int32) (σ : k_Mem) : Option (Int32 × k_Mem) :=
  j_X6_alter_71   xs1 xs2 0 σ
set_option maxRecDepth 100000 in
theorem gj_X6_alter_70 (E : k_EV)     (xs1 : Int32) (xs2 : Int32)  (σ : k_Mem) : k_GO m_X6_alter E k_vi 70 [] [.int xs2, .int xs1, k_rf E 7] σ (j_X6_alter_70   xs1 xs2 σ) := by
  unfold j_X6_alter_70
  refine r_iconst 0 (by decide) 71 rfl dX6_alter_70 ?_
  exact r_sub [] rfl (gj_X6_alter_71 E     _ _ _  _)
def j_X6_alter_132   (xs1 : Int32) (xs2 : Int32) (xs3 : Int32) (σ : k_Mem) : Option (Int32 × k_Mem) :=
  k_bd (f_X6_replace 10 8 xs1 xs2 xs3 σ) (fun r15 σ15 =>
    some (r15, σ15)
  )
set_option maxRecDepth 100000 in
theorem gj_X6_alter_132 (E : k_EV)     (xs1 : Int32) (xs2 : Int32) (xs3 : Int32)  (σ : k_Mem) : k_GO m_X6_alter E k_vi 132 [] [.int xs3, .int xs2, .int xs1, k_rf E 10] σ (j_X6_alter_132   xs1 xs2 xs3 σ) := by
  unfold j_X6_alter_132
  refine r_callsi (c_X6_replace E 10 8 sh_10 _ _ _ _) rfl ml_X6_161 cw_X6_replace sw_X6_replace (by decide) (Nat.le_of_ble_eq_true rfl) 135 rfl dX6_alter_132 (fun r15 σ15 => ?_)
  exact r_iret rfl dX6_alter_135
def j_X6_alter_131   (xs1 : Int32) (xs2 : Int32) (σ : k_Mem) : Option (Int32 × k_Mem) :=
  j_X6_alter_132   xs1 xs2 0 σ
set_option maxRecDepth 100000 in
theorem gj_X6_alter_131 (E : k_EV)     (xs1 : Int32) (xs2 : Int32)  (σ : k_Mem) : k_GO m_X6_alter E k_vi 131 [] [.int xs2, .int xs1, k_rf E 10] σ (j_X6_alter_131   xs1 xs2 σ) := by
  unfold j_X6_alter_131
  refine r_iconst 0 (by decide) 132 rfl dX6_alter_131 ?_
  exact r_sub [] rfl (gj_X6_alter_132 E     _ _ _  _)
def f_X6_alter  (x1 : Int32) (x2 : Int32) (x3 : Int32) (σ : k_Mem) : Option (Int32 × k_Mem) :=
  k_bd (f_X5_isHand 6 x1 σ) (fun r1 σ1 =>
    if r1 = 0 then (
      some ((-1), σ1)
    ) else (
      if x2 = 0 then (
        if x3 < 0 then (
          j_X6_alter_70   x1 x3 σ1
        ) else (
          if 3 < x3 then (
            j_X6_alter_70   x1 x3 σ1
          ) else (
            j_X6_alter_71   x1 x3 1 σ1
          )
        )
      ) else (
      if x2 = 1 then (
        k_bd (f_X6_isStrokes  x3 σ1) (fun r8 σ8 =>
          k_bd (f_X6_replace 8 8 x1 x3 r8 σ8) (fun r9 σ9 =>
            some (r9, σ9)
          )
        )
      ) else (
      if x2 = 2 then (
        k_bd (f_X6_isStrokes  x3 σ1) (fun r11 σ11 =>
          k_bd (f_X6_replace 9 8 x1 x3 r11 σ11) (fun r12 σ12 =>
            some (r12, σ12)
          )
        )
      ) else (
      if x2 = 3 then (
        if x3 < 0 then (
          j_X6_alter_131   x1 x3 σ1
        ) else (
          if 2 < x3 then (
            j_X6_alter_131   x1 x3 σ1
          ) else (
            j_X6_alter_132   x1 x3 1 σ1
          )
        )
      ) else (
      if x2 = 4 then (
        k_bd (f_X5_isHand 6 x3 σ1) (fun r18 σ18 =>
          k_bd (f_X6_replace 11 8 x1 x3 r18 σ18) (fun r19 σ19 =>
            some (r19, σ19)
          )
        )
      ) else (
        some ((-1), σ1)
      )))))
    )
  )
set_option maxRecDepth 100000 in
theorem c_X6_alter (E : k_EV)   (x1 : Int32) (x2 : Int32) (x3 : Int32) (σ : k_Mem) : k_MC m_X6_alter E k_vi [k_rf E 0, .int x1, .int x2, .int x3] σ (f_X6_alter x1 x2 x3 σ) := by
  refine k_MC_of ⟨by decide, by decide⟩ (Nat.le_of_ble_eq_true rfl) ?_
  show k_GO _ _ _ 0 [(0, k_rf E 0), (1, .int x1), (2, .int x2), (3, .int x3)] [] σ _
  unfold f_X6_alter
  refine r_aload_n 0 rfl rfl 1 rfl dX6_alter_0 ?_
  refine r_getr fl_X6_10 sh_0 rfl 4 rfl dX6_alter_1 ?_
  refine r_iload_n 1 rfl rfl 5 rfl dX6_alter_4 ?_
  refine r_calli (c_X5_isHand E 6 tw_6 _ _) rfl sh_6 rfl ml_X6_113 cw_X5_isHand vw_X5_isHand (by decide) (Nat.le_of_ble_eq_true rfl) 8 rfl dX6_alter_5 (fun r1 σ1 => ?_)
  refine r_if_ne 13 11 rfl (by decide) dX6_alter_8 (fun c2 => ?_) (fun c2 => ?_)
  · refine r_iconst (-1) (by decide) 12 rfl dX6_alter_11 ?_
    exact r_iret rfl dX6_alter_12
  · refine r_iload_n 2 rfl rfl 14 rfl dX6_alter_13 ?_
    refine r_split (fun c3 => ?_) (fun c3 => ?_)
    · refine r_tin 0 c3 34 48 (by decide) (by decide) (by decide) (by decide) dX6_alter_14 ?_
      refine r_aload_n 0 rfl rfl 49 rfl dX6_alter_48 ?_
      refine r_getr fl_X6_10 sh_0 rfl 52 rfl dX6_alter_49 ?_
      refine r_getr fl_X6_116 sh_6 rfl 55 rfl dX6_alter_52 ?_
      refine r_iload_n 1 rfl rfl 56 rfl dX6_alter_55 ?_
      refine r_iload_n 3 rfl rfl 57 rfl dX6_alter_56 ?_
      refine r_iload_n 3 rfl rfl 58 rfl dX6_alter_57 ?_
      refine r_if_lt 70 61 rfl (by decide) dX6_alter_58 (fun c4 => ?_) (fun c4 => ?_)
      · exact r_sub [] rfl (gj_X6_alter_70 E     _ _  _)
      · refine r_iload_n 3 rfl rfl 62 rfl dX6_alter_61 ?_
        refine r_iconst 3 (by decide) 63 rfl dX6_alter_62 ?_
        refine r_icmp_gt 70 66 rfl (by decide) dX6_alter_63 (fun c6 => ?_) (fun c6 => ?_)
        · exact r_sub [] rfl (gj_X6_alter_70 E     _ _  _)
        · refine r_iconst 1 (by decide) 67 rfl dX6_alter_66 ?_
          refine r_goto 71 (by decide) dX6_alter_67 ?_
          exact r_sub [] rfl (gj_X6_alter_71 E     _ _ _  _)
    refine r_split (fun c7 => ?_) (fun c7 => ?_)
    · refine r_tin 1 c7 61 75 (by decide) (by decide) (by decide) (by decide) dX6_alter_14 ?_
      refine r_aload_n 0 rfl rfl 76 rfl dX6_alter_75 ?_
      refine r_getr fl_X6_10 sh_0 rfl 79 rfl dX6_alter_76 ?_
      refine r_getr fl_X6_119 sh_6 rfl 82 rfl dX6_alter_79 ?_
      refine r_iload_n 1 rfl rfl 83 rfl dX6_alter_82 ?_
      refine r_iload_n 3 rfl rfl 84 rfl dX6_alter_83 ?_
      refine r_iload_n 3 rfl rfl 85 rfl dX6_alter_84 ?_
      refine r_callsi (c_X6_isStrokes E   _ _) rfl ml_X6_165 cw_X6_isStrokes sw_X6_isStrokes (by decide) (Nat.le_of_ble_eq_true rfl) 88 rfl dX6_alter_85 (fun r8 σ8 => ?_)
      refine r_callsi (c_X6_replace E 8 8 sh_8 _ _ _ _) rfl ml_X6_161 cw_X6_replace sw_X6_replace (by decide) (Nat.le_of_ble_eq_true rfl) 91 rfl dX6_alter_88 (fun r9 σ9 => ?_)
      exact r_iret rfl dX6_alter_91
    refine r_split (fun c10 => ?_) (fun c10 => ?_)
    · refine r_tin 2 c10 78 92 (by decide) (by decide) (by decide) (by decide) dX6_alter_14 ?_
      refine r_aload_n 0 rfl rfl 93 rfl dX6_alter_92 ?_
      refine r_getr fl_X6_10 sh_0 rfl 96 rfl dX6_alter_93 ?_
      refine r_getr fl_X6_122 sh_6 rfl 99 rfl dX6_alter_96 ?_
      refine r_iload_n 1 rfl rfl 100 rfl dX6_alter_99 ?_
      refine r_iload_n 3 rfl rfl 101 rfl dX6_alter_100 ?_
      refine r_iload_n 3 rfl rfl 102 rfl dX6_alter_101 ?_
      refine r_callsi (c_X6_isStrokes E   _ _) rfl ml_X6_165 cw_X6_isStrokes sw_X6_isStrokes (by decide) (Nat.le_of_ble_eq_true rfl) 105 rfl dX6_alter_102 (fun r11 σ11 => ?_)
      refine r_callsi (c_X6_replace E 9 8 sh_9 _ _ _ _) rfl ml_X6_161 cw_X6_replace sw_X6_replace (by decide) (Nat.le_of_ble_eq_true rfl) 108 rfl dX6_alter_105 (fun r12 σ12 => ?_)
      exact r_iret rfl dX6_alter_108
    refine r_split (fun c13 => ?_) (fun c13 => ?_)
    · refine r_tin 3 c13 95 109 (by decide) (by decide) (by decide) (by decide) dX6_alter_14 ?_
      refine r_aload_n 0 rfl rfl 110 rfl dX6_alter_109 ?_
      refine r_getr fl_X6_10 sh_0 rfl 113 rfl dX6_alter_110 ?_
      refine r_getr fl_X6_125 sh_6 rfl 116 rfl dX6_alter_113 ?_
      refine r_iload_n 1 rfl rfl 117 rfl dX6_alter_116 ?_
      refine r_iload_n 3 rfl rfl 118 rfl dX6_alter_117 ?_
      refine r_iload_n 3 rfl rfl 119 rfl dX6_alter_118 ?_
      refine r_if_lt 131 122 rfl (by decide) dX6_alter_119 (fun c14 => ?_) (fun c14 => ?_)
      · exact r_sub [] rfl (gj_X6_alter_131 E     _ _  _)
      · refine r_iload_n 3 rfl rfl 123 rfl dX6_alter_122 ?_
        refine r_iconst 2 (by decide) 124 rfl dX6_alter_123 ?_
        refine r_icmp_gt 131 127 rfl (by decide) dX6_alter_124 (fun c16 => ?_) (fun c16 => ?_)
        · exact r_sub [] rfl (gj_X6_alter_131 E     _ _  _)
        · refine r_iconst 1 (by decide) 128 rfl dX6_alter_127 ?_
          refine r_goto 132 (by decide) dX6_alter_128 ?_
          exact r_sub [] rfl (gj_X6_alter_132 E     _ _ _  _)
    refine r_split (fun c17 => ?_) (fun c17 => ?_)
    · refine r_tin 4 c17 122 136 (by decide) (by decide) (by decide) (by decide) dX6_alter_14 ?_
      refine r_aload_n 0 rfl rfl 137 rfl dX6_alter_136 ?_
      refine r_getr fl_X6_10 sh_0 rfl 140 rfl dX6_alter_137 ?_
      refine r_getr fl_X6_128 sh_6 rfl 143 rfl dX6_alter_140 ?_
      refine r_iload_n 1 rfl rfl 144 rfl dX6_alter_143 ?_
      refine r_iload_n 3 rfl rfl 145 rfl dX6_alter_144 ?_
      refine r_aload_n 0 rfl rfl 146 rfl dX6_alter_145 ?_
      refine r_getr fl_X6_10 sh_0 rfl 149 rfl dX6_alter_146 ?_
      refine r_iload_n 3 rfl rfl 150 rfl dX6_alter_149 ?_
      refine r_calli (c_X5_isHand E 6 tw_6 _ _) rfl sh_6 rfl ml_X6_113 cw_X5_isHand vw_X5_isHand (by decide) (Nat.le_of_ble_eq_true rfl) 153 rfl dX6_alter_150 (fun r18 σ18 => ?_)
      refine r_callsi (c_X6_replace E 11 8 sh_11 _ _ _ _) rfl ml_X6_161 cw_X6_replace sw_X6_replace (by decide) (Nat.le_of_ble_eq_true rfl) 156 rfl dX6_alter_153 (fun r19 σ19 => ?_)
      exact r_iret rfl dX6_alter_156
    refine r_tout 157 (by have hc3 := lv_neT c3 (k := 0) (a := 0) (by decide); have hc7 := lv_neT c7 (k := 1) (a := 1) (by decide); have hc10 := lv_neT c10 (k := 2) (a := 2) (by decide); have hc13 := lv_neT c13 (k := 3) (a := 3) (by decide); have hc17 := lv_neT c17 (k := 4) (a := 4) (by decide); omega) (by decide) dX6_alter_14 ?_
    refine r_iconst (-1) (by decide) 158 rfl dX6_alter_157 ?_
    exact r_iret rfl dX6_alter_158
/-! HandMarket.run(IZ)I -/
def j_X6_run_29   (x1 : Int32) (x2 : Int32) (xs0 : Int32) (σ : k_Mem) : Option (Int32 × k_Mem) :=
  k_bd (f_X5_setRun 6 x1 x2 σ) (fun _ σ5 =>
    some (xs0, σ5)
  )
set_option maxRecDepth 100000 in
theorem gj_X6_run_29 (E : k_EV)     (x1 : Int32) (x2 : Int32) (xs0 : Int32)  (σ : k_Mem) : k_GO m_X6_run E k_vi 29 [(0, k_rf E 0), (1, .int x1), (2, .int x2)] [.int xs0] σ (j_X6_run_29   x1 x2 xs0 σ) := by
  unfold j_X6_run_29
  refine r_istore_n [(3, .int _), (0, k_rf E 0), (1, .int _), (2, .int _)] rfl rfl (by decide) 30 rfl dX6_run_29 ?_
  refine r_aload_n 1 rfl rfl 31 rfl dX6_run_30 ?_
  refine r_getr fl_X6_10 sh_0 rfl 34 rfl dX6_run_31 ?_
  refine r_iload_n 2 rfl rfl 35 rfl dX6_run_34 ?_
  refine r_iload_n 3 rfl rfl 36 rfl dX6_run_35 ?_
  refine r_callv (c_X5_setRun E 6 tw_6 _ _ _) rfl sh_6 rfl ml_X6_171 cw_X5_setRun vw_X5_setRun (by decide) (Nat.le_of_ble_eq_true rfl) 39 rfl dX6_run_36 (fun _ σ5 => ?_)
  refine r_iload_n 0 rfl rfl 40 rfl dX6_run_39 ?_
  exact r_iret rfl dX6_run_40
def f_X6_run  (x1 : Int32) (x2 : Int32) (σ : k_Mem) : Option (Int32 × k_Mem) :=
  k_bd (f_X5_isHand 6 x1 σ) (fun r1 σ1 =>
    if r1 = 0 then (
      some ((-1), σ1)
    ) else (
      k_bd (f_X5_isRun 6 x1 σ1) (fun r3 σ3 =>
        if r3 = 0 then (
          j_X6_run_29   x1 x2 0 σ3
        ) else (
          j_X6_run_29   x1 x2 1 σ3
        )
      )
    )
  )
set_option maxRecDepth 100000 in
theorem c_X6_run (E : k_EV)   (x1 : Int32) (x2 : Int32) (σ : k_Mem) : k_MC m_X6_run E k_vi [k_rf E 0, .int x1, .int x2] σ (f_X6_run x1 x2 σ) := by
  refine k_MC_of ⟨by decide, by decide⟩ (Nat.le_of_ble_eq_true rfl) ?_
  show k_GO _ _ _ 0 [(0, k_rf E 0), (1, .int x1), (2, .int x2)] [] σ _
  unfold f_X6_run
  refine r_aload_n 0 rfl rfl 1 rfl dX6_run_0 ?_
  refine r_getr fl_X6_10 sh_0 rfl 4 rfl dX6_run_1 ?_
  refine r_iload_n 1 rfl rfl 5 rfl dX6_run_4 ?_
  refine r_calli (c_X5_isHand E 6 tw_6 _ _) rfl sh_6 rfl ml_X6_113 cw_X5_isHand vw_X5_isHand (by decide) (Nat.le_of_ble_eq_true rfl) 8 rfl dX6_run_5 (fun r1 σ1 => ?_)
  refine r_if_ne 13 11 rfl (by decide) dX6_run_8 (fun c2 => ?_) (fun c2 => ?_)
  · refine r_iconst (-1) (by decide) 12 rfl dX6_run_11 ?_
    exact r_iret rfl dX6_run_12
  · refine r_aload_n 0 rfl rfl 14 rfl dX6_run_13 ?_
    refine r_getr fl_X6_10 sh_0 rfl 17 rfl dX6_run_14 ?_
    refine r_iload_n 1 rfl rfl 18 rfl dX6_run_17 ?_
    refine r_calli (c_X5_isRun E 6 tw_6 _ _) rfl sh_6 rfl ml_X6_168 cw_X5_isRun vw_X5_isRun (by decide) (Nat.le_of_ble_eq_true rfl) 21 rfl dX6_run_18 (fun r3 σ3 => ?_)
    refine r_if_eq 28 24 rfl (by decide) dX6_run_21 (fun c4 => ?_) (fun c4 => ?_)
    · refine r_iconst 0 (by decide) 29 rfl dX6_run_28 ?_
      exact r_sub [0, 1, 2] rfl (gj_X6_run_29 E     _ _ _  _)
    · refine r_iconst 1 (by decide) 25 rfl dX6_run_24 ?_
      refine r_goto 29 (by decide) dX6_run_25 ?_
      exact r_sub [0, 1, 2] rfl (gj_X6_run_29 E     _ _ _  _)
/-! HandMarket.fold(IIZ)I -/
def j_X6_fold_41   (x1 : Int32) (x2 : Int32) (x3 : Int32) (xs0 : Int32) (σ : k_Mem) : Option (Int32 × k_Mem) :=
  k_bd (f_X5_setFolded 6 x1 x2 x3 σ) (fun _ σ7 =>
    some (xs0, σ7)
  )
set_option maxRecDepth 100000 in
theorem gj_X6_fold_41 (E : k_EV)     (x1 : Int32) (x2 : Int32) (x3 : Int32) (xs0 : Int32)  (σ : k_Mem) : k_GO m_X6_fold E k_vi 41 [(0, k_rf E 0), (1, .int x1), (2, .int x2), (3, .int x3)] [.int xs0] σ (j_X6_fold_41   x1 x2 x3 xs0 σ) := by
  unfold j_X6_fold_41
  refine r_istore [(4, .int _), (0, k_rf E 0), (1, .int _), (2, .int _), (3, .int _)] rfl (by decide) 43 rfl dX6_fold_41 ?_
  refine r_aload_n 1 rfl rfl 44 rfl dX6_fold_43 ?_
  refine r_getr fl_X6_10 sh_0 rfl 47 rfl dX6_fold_44 ?_
  refine r_iload_n 2 rfl rfl 48 rfl dX6_fold_47 ?_
  refine r_iload_n 3 rfl rfl 49 rfl dX6_fold_48 ?_
  refine r_iload_n 4 rfl rfl 50 rfl dX6_fold_49 ?_
  refine r_callv (c_X5_setFolded E 6 tw_6 _ _ _ _) rfl sh_6 rfl ml_X6_184 cw_X5_setFolded vw_X5_setFolded (by decide) (Nat.le_of_ble_eq_true rfl) 53 rfl dX6_fold_50 (fun _ σ7 => ?_)
  refine r_iload 0 rfl 55 rfl dX6_fold_53 ?_
  exact r_iret rfl dX6_fold_55
def f_X6_fold  (x1 : Int32) (x2 : Int32) (x3 : Int32) (σ : k_Mem) : Option (Int32 × k_Mem) :=
  k_bd (f_X5_isLeft 6 x1 σ) (fun r1 σ1 =>
    if r1 = 0 then (
      some ((-1), σ1)
    ) else (
      k_bd (f_X5_isRight 6 x2 σ1) (fun r3 σ3 =>
        if r3 = 0 then (
          some ((-1), σ3)
        ) else (
          k_bd (f_X5_areFolded 6 x1 x2 σ3) (fun r5 σ5 =>
            if r5 = 0 then (
              j_X6_fold_41   x1 x2 x3 0 σ5
            ) else (
              j_X6_fold_41   x1 x2 x3 1 σ5
            )
          )
        )
      )
    )
  )
set_option maxRecDepth 100000 in
theorem c_X6_fold (E : k_EV)   (x1 : Int32) (x2 : Int32) (x3 : Int32) (σ : k_Mem) : k_MC m_X6_fold E k_vi [k_rf E 0, .int x1, .int x2, .int x3] σ (f_X6_fold x1 x2 x3 σ) := by
  refine k_MC_of ⟨by decide, by decide⟩ (Nat.le_of_ble_eq_true rfl) ?_
  show k_GO _ _ _ 0 [(0, k_rf E 0), (1, .int x1), (2, .int x2), (3, .int x3)] [] σ _
  unfold f_X6_fold
  refine r_aload_n 0 rfl rfl 1 rfl dX6_fold_0 ?_
  refine r_getr fl_X6_10 sh_0 rfl 4 rfl dX6_fold_1 ?_
  refine r_iload_n 1 rfl rfl 5 rfl dX6_fold_4 ?_
  refine r_calli (c_X5_isLeft E 6 tw_6 _ _) rfl sh_6 rfl ml_X6_175 cw_X5_isLeft vw_X5_isLeft (by decide) (Nat.le_of_ble_eq_true rfl) 8 rfl dX6_fold_5 (fun r1 σ1 => ?_)
  refine r_if_eq 22 11 rfl (by decide) dX6_fold_8 (fun c2 => ?_) (fun c2 => ?_)
  · refine r_iconst (-1) (by decide) 23 rfl dX6_fold_22 ?_
    exact r_iret rfl dX6_fold_23
  · refine r_aload_n 0 rfl rfl 12 rfl dX6_fold_11 ?_
    refine r_getr fl_X6_10 sh_0 rfl 15 rfl dX6_fold_12 ?_
    refine r_iload_n 2 rfl rfl 16 rfl dX6_fold_15 ?_
    refine r_calli (c_X5_isRight E 6 tw_6 _ _) rfl sh_6 rfl ml_X6_178 cw_X5_isRight vw_X5_isRight (by decide) (Nat.le_of_ble_eq_true rfl) 19 rfl dX6_fold_16 (fun r3 σ3 => ?_)
    refine r_if_ne 24 22 rfl (by decide) dX6_fold_19 (fun c4 => ?_) (fun c4 => ?_)
    · refine r_iconst (-1) (by decide) 23 rfl dX6_fold_22 ?_
      exact r_iret rfl dX6_fold_23
    · refine r_aload_n 0 rfl rfl 25 rfl dX6_fold_24 ?_
      refine r_getr fl_X6_10 sh_0 rfl 28 rfl dX6_fold_25 ?_
      refine r_iload_n 1 rfl rfl 29 rfl dX6_fold_28 ?_
      refine r_iload_n 2 rfl rfl 30 rfl dX6_fold_29 ?_
      refine r_calli (c_X5_areFolded E 6 tw_6 _ _ _) rfl sh_6 rfl ml_X6_181 cw_X5_areFolded vw_X5_areFolded (by decide) (Nat.le_of_ble_eq_true rfl) 33 rfl dX6_fold_30 (fun r5 σ5 => ?_)
      refine r_if_eq 40 36 rfl (by decide) dX6_fold_33 (fun c6 => ?_) (fun c6 => ?_)
      · refine r_iconst 0 (by decide) 41 rfl dX6_fold_40 ?_
        exact r_sub [0, 1, 2, 3] rfl (gj_X6_fold_41 E     _ _ _ _  _)
      · refine r_iconst 1 (by decide) 37 rfl dX6_fold_36 ?_
        refine r_goto 41 (by decide) dX6_fold_37 ?_
        exact r_sub [0, 1, 2, 3] rfl (gj_X6_fold_41 E     _ _ _ _  _)
/-! HandMarket.wed(II)I -/
def f_X6_wed  (x1 : Int32) (x2 : Int32) (σ : k_Mem) : Option (Int32 × k_Mem) :=
  k_bd (f_X5_isLeft 6 x1 σ) (fun r1 σ1 =>
    if r1 = 0 then (
      some ((-1), σ1)
    ) else (
      k_bd (f_X5_isRight 6 x2 σ1) (fun r3 σ3 =>
        if r3 = 0 then (
          some ((-1), σ3)
        ) else (
          k_bd (f_X5_isWed 6 x1 σ3) (fun r5 σ5 =>
            if r5 = 0 then (
              k_bd (f_X5_isWed 6 x2 σ5) (fun r7 σ7 =>
                if r7 = 0 then (
                  k_bd (f_X5_areFolded 6 x1 x2 σ7) (fun r9 σ9 =>
                    if r9 = 0 then (
                      k_bd (f_X5_join 6 x1 x2 σ9) (fun _ σ11 =>
                        k_bd (f_X5_couples 6  σ11) (fun r12 σ12 =>
                          some (r12, σ12)
                        )
                      )
                    ) else (
                      some ((-2), σ9)
                    )
                  )
                ) else (
                  some ((-2), σ7)
                )
              )
            ) else (
              some ((-2), σ5)
            )
          )
        )
      )
    )
  )
set_option maxRecDepth 100000 in
theorem c_X6_wed (E : k_EV)   (x1 : Int32) (x2 : Int32) (σ : k_Mem) : k_MC m_X6_wed E k_vi [k_rf E 0, .int x1, .int x2] σ (f_X6_wed x1 x2 σ) := by
  refine k_MC_of ⟨by decide, by decide⟩ (Nat.le_of_ble_eq_true rfl) ?_
  show k_GO _ _ _ 0 [(0, k_rf E 0), (1, .int x1), (2, .int x2)] [] σ _
  unfold f_X6_wed
  refine r_aload_n 0 rfl rfl 1 rfl dX6_wed_0 ?_
  refine r_getr fl_X6_10 sh_0 rfl 4 rfl dX6_wed_1 ?_
  refine r_iload_n 1 rfl rfl 5 rfl dX6_wed_4 ?_
  refine r_calli (c_X5_isLeft E 6 tw_6 _ _) rfl sh_6 rfl ml_X6_175 cw_X5_isLeft vw_X5_isLeft (by decide) (Nat.le_of_ble_eq_true rfl) 8 rfl dX6_wed_5 (fun r1 σ1 => ?_)
  refine r_if_eq 22 11 rfl (by decide) dX6_wed_8 (fun c2 => ?_) (fun c2 => ?_)
  · refine r_iconst (-1) (by decide) 23 rfl dX6_wed_22 ?_
    exact r_iret rfl dX6_wed_23
  · refine r_aload_n 0 rfl rfl 12 rfl dX6_wed_11 ?_
    refine r_getr fl_X6_10 sh_0 rfl 15 rfl dX6_wed_12 ?_
    refine r_iload_n 2 rfl rfl 16 rfl dX6_wed_15 ?_
    refine r_calli (c_X5_isRight E 6 tw_6 _ _) rfl sh_6 rfl ml_X6_178 cw_X5_isRight vw_X5_isRight (by decide) (Nat.le_of_ble_eq_true rfl) 19 rfl dX6_wed_16 (fun r3 σ3 => ?_)
    refine r_if_ne 24 22 rfl (by decide) dX6_wed_19 (fun c4 => ?_) (fun c4 => ?_)
    · refine r_iconst (-1) (by decide) 23 rfl dX6_wed_22 ?_
      exact r_iret rfl dX6_wed_23
    · refine r_aload_n 0 rfl rfl 25 rfl dX6_wed_24 ?_
      refine r_getr fl_X6_10 sh_0 rfl 28 rfl dX6_wed_25 ?_
      refine r_iload_n 1 rfl rfl 29 rfl dX6_wed_28 ?_
      refine r_calli (c_X5_isWed E 6 tw_6 _ _) rfl sh_6 rfl ml_X6_188 cw_X5_isWed vw_X5_isWed (by decide) (Nat.le_of_ble_eq_true rfl) 32 rfl dX6_wed_29 (fun r5 σ5 => ?_)
      refine r_if_ne 58 35 rfl (by decide) dX6_wed_32 (fun c6 => ?_) (fun c6 => ?_)
      · refine r_aload_n 0 rfl rfl 36 rfl dX6_wed_35 ?_
        refine r_getr fl_X6_10 sh_0 rfl 39 rfl dX6_wed_36 ?_
        refine r_iload_n 2 rfl rfl 40 rfl dX6_wed_39 ?_
        refine r_calli (c_X5_isWed E 6 tw_6 _ _) rfl sh_6 rfl ml_X6_188 cw_X5_isWed vw_X5_isWed (by decide) (Nat.le_of_ble_eq_true rfl) 43 rfl dX6_wed_40 (fun r7 σ7 => ?_)
        refine r_if_ne 58 46 rfl (by decide) dX6_wed_43 (fun c8 => ?_) (fun c8 => ?_)
        · refine r_aload_n 0 rfl rfl 47 rfl dX6_wed_46 ?_
          refine r_getr fl_X6_10 sh_0 rfl 50 rfl dX6_wed_47 ?_
          refine r_iload_n 1 rfl rfl 51 rfl dX6_wed_50 ?_
          refine r_iload_n 2 rfl rfl 52 rfl dX6_wed_51 ?_
          refine r_calli (c_X5_areFolded E 6 tw_6 _ _ _) rfl sh_6 rfl ml_X6_181 cw_X5_areFolded vw_X5_areFolded (by decide) (Nat.le_of_ble_eq_true rfl) 55 rfl dX6_wed_52 (fun r9 σ9 => ?_)
          refine r_if_eq 61 58 rfl (by decide) dX6_wed_55 (fun c10 => ?_) (fun c10 => ?_)
          · refine r_aload_n 0 rfl rfl 62 rfl dX6_wed_61 ?_
            refine r_getr fl_X6_10 sh_0 rfl 65 rfl dX6_wed_62 ?_
            refine r_iload_n 1 rfl rfl 66 rfl dX6_wed_65 ?_
            refine r_iload_n 2 rfl rfl 67 rfl dX6_wed_66 ?_
            refine r_callv (c_X5_join E 6 tw_6 _ _ _) rfl sh_6 rfl ml_X6_191 cw_X5_join vw_X5_join (by decide) (Nat.le_of_ble_eq_true rfl) 70 rfl dX6_wed_67 (fun _ σ11 => ?_)
            refine r_aload_n 0 rfl rfl 71 rfl dX6_wed_70 ?_
            refine r_getr fl_X6_10 sh_0 rfl 74 rfl dX6_wed_71 ?_
            refine r_calli (c_X5_couples E 6 tw_6  _) rfl sh_6 rfl ml_X6_195 cw_X5_couples vw_X5_couples (by decide) (Nat.le_of_ble_eq_true rfl) 77 rfl dX6_wed_74 (fun r12 σ12 => ?_)
            exact r_iret rfl dX6_wed_77
          · refine r_bipush (-2) (by decide) 60 rfl dX6_wed_58 ?_
            exact r_iret rfl dX6_wed_60
        · refine r_bipush (-2) (by decide) 60 rfl dX6_wed_58 ?_
          exact r_iret rfl dX6_wed_60
      · refine r_bipush (-2) (by decide) 60 rfl dX6_wed_58 ?_
        exact r_iret rfl dX6_wed_60
/-! HandMarket.part(I)I -/
def f_X6_part  (x1 : Int32) (σ : k_Mem) : Option (Int32 × k_Mem) :=
  k_bd (f_X5_isHand 6 x1 σ) (fun r1 σ1 =>
    if r1 = 0 then (
      some ((-1), σ1)
    ) else (
      if k_in x1 8 then (
        if (σ1 12 (k_n x1)) = (-1) then (
          some ((-2), σ1)
        ) else (
          k_bd (f_X5_divorce 6 x1 (σ1 12 (k_n x1)) σ1) (fun _ σ4 =>
            some ((σ1 12 (k_n x1)), σ4)
          )
        )
      ) else none
    )
  )
set_option maxRecDepth 100000 in
theorem c_X6_part (E : k_EV)   (x1 : Int32) (σ : k_Mem) : k_MC m_X6_part E k_vi [k_rf E 0, .int x1] σ (f_X6_part x1 σ) := by
  refine k_MC_of ⟨by decide, by decide⟩ (Nat.le_of_ble_eq_true rfl) ?_
  show k_GO _ _ _ 0 [(0, k_rf E 0), (1, .int x1)] [] σ _
  unfold f_X6_part
  refine r_aload_n 0 rfl rfl 1 rfl dX6_part_0 ?_
  refine r_getr fl_X6_10 sh_0 rfl 4 rfl dX6_part_1 ?_
  refine r_iload_n 1 rfl rfl 5 rfl dX6_part_4 ?_
  refine r_calli (c_X5_isHand E 6 tw_6 _ _) rfl sh_6 rfl ml_X6_113 cw_X5_isHand vw_X5_isHand (by decide) (Nat.le_of_ble_eq_true rfl) 8 rfl dX6_part_5 (fun r1 σ1 => ?_)
  refine r_if_ne 13 11 rfl (by decide) dX6_part_8 (fun c2 => ?_) (fun c2 => ?_)
  · refine r_iconst (-1) (by decide) 12 rfl dX6_part_11 ?_
    exact r_iret rfl dX6_part_12
  · refine r_aload_n 0 rfl rfl 14 rfl dX6_part_13 ?_
    refine r_getr fl_X6_10 sh_0 rfl 17 rfl dX6_part_14 ?_
    refine r_getr fl_X6_131 sh_6 rfl 20 rfl dX6_part_17 ?_
    refine r_iload_n 1 rfl rfl 21 rfl dX6_part_20 ?_
    refine r_iald sh_12 22 rfl dX6_part_21 ?_
    refine r_istore_n [(2, .int _), (0, k_rf E 0), (1, .int _)] rfl rfl (by decide) 23 rfl dX6_part_22 ?_
    refine r_iload_n 0 rfl rfl 24 rfl dX6_part_23 ?_
    refine r_iconst (-1) (by decide) 25 rfl dX6_part_24 ?_
    refine r_icmp_ne 31 28 rfl (by decide) dX6_part_25 (fun c3 => ?_) (fun c3 => ?_)
    · refine r_bipush (-2) (by decide) 30 rfl dX6_part_28 ?_
      exact r_iret rfl dX6_part_30
    · refine r_aload_n 1 rfl rfl 32 rfl dX6_part_31 ?_
      refine r_getr fl_X6_10 sh_0 rfl 35 rfl dX6_part_32 ?_
      refine r_iload_n 2 rfl rfl 36 rfl dX6_part_35 ?_
      refine r_iload_n 0 rfl rfl 37 rfl dX6_part_36 ?_
      refine r_callv (c_X5_divorce E 6 tw_6 _ _ _) rfl sh_6 rfl ml_X6_198 cw_X5_divorce vw_X5_divorce (by decide) (Nat.le_of_ble_eq_true rfl) 40 rfl dX6_part_37 (fun _ σ4 => ?_)
      refine r_iload_n 0 rfl rfl 41 rfl dX6_part_40 ?_
      exact r_iret rfl dX6_part_41
/-! HandMarket.asked(II)I -/
def f_X6_asked  (x1 : Int32) (x2 : Int32) (σ : k_Mem) : Option (Int32 × k_Mem) :=
  if x1 < 0 then (
    some ((-1), σ)
  ) else (
    if 1 < x1 then (
      some ((-1), σ)
    ) else (
      k_bd (f_X5_isHand 6 x2 σ) (fun r3 σ3 =>
        if r3 = 0 then (
          some ((-1), σ3)
        ) else (
          k_bd (f_X0_court 6 x1 σ3) (fun _ σ5 =>
            if k_in x2 8 then (
              k_bd (f_X6_orNone  (σ5 52 (k_n x2)) σ5) (fun r6 σ6 =>
                some (r6, σ6)
              )
            ) else none
          )
        )
      )
    )
  )
set_option maxRecDepth 100000 in
theorem c_X6_asked (E : k_EV)   (x1 : Int32) (x2 : Int32) (σ : k_Mem) : k_MC m_X6_asked E k_vi [k_rf E 0, .int x1, .int x2] σ (f_X6_asked x1 x2 σ) := by
  refine k_MC_of ⟨by decide, by decide⟩ (Nat.le_of_ble_eq_true rfl) ?_
  show k_GO _ _ _ 0 [(0, k_rf E 0), (1, .int x1), (2, .int x2)] [] σ _
  unfold f_X6_asked
  refine r_iload_n 1 rfl rfl 1 rfl dX6_asked_0 ?_
  refine r_if_lt 20 4 rfl (by decide) dX6_asked_1 (fun c1 => ?_) (fun c1 => ?_)
  · refine r_iconst (-1) (by decide) 21 rfl dX6_asked_20 ?_
    exact r_iret rfl dX6_asked_21
  · refine r_iload_n 1 rfl rfl 5 rfl dX6_asked_4 ?_
    refine r_iconst 1 (by decide) 6 rfl dX6_asked_5 ?_
    refine r_icmp_gt 20 9 rfl (by decide) dX6_asked_6 (fun c2 => ?_) (fun c2 => ?_)
    · refine r_iconst (-1) (by decide) 21 rfl dX6_asked_20 ?_
      exact r_iret rfl dX6_asked_21
    · refine r_aload_n 0 rfl rfl 10 rfl dX6_asked_9 ?_
      refine r_getr fl_X6_10 sh_0 rfl 13 rfl dX6_asked_10 ?_
      refine r_iload_n 2 rfl rfl 14 rfl dX6_asked_13 ?_
      refine r_calli (c_X5_isHand E 6 tw_6 _ _) rfl sh_6 rfl ml_X6_113 cw_X5_isHand vw_X5_isHand (by decide) (Nat.le_of_ble_eq_true rfl) 17 rfl dX6_asked_14 (fun r3 σ3 => ?_)
      refine r_if_ne 22 20 rfl (by decide) dX6_asked_17 (fun c4 => ?_) (fun c4 => ?_)
      · refine r_iconst (-1) (by decide) 21 rfl dX6_asked_20 ?_
        exact r_iret rfl dX6_asked_21
      · refine r_aload_n 0 rfl rfl 23 rfl dX6_asked_22 ?_
        refine r_getr fl_X6_44 sh_0 rfl 26 rfl dX6_asked_23 ?_
        refine r_aload_n 0 rfl rfl 27 rfl dX6_asked_26 ?_
        refine r_getr fl_X6_10 sh_0 rfl 30 rfl dX6_asked_27 ?_
        refine r_iload_n 1 rfl rfl 31 rfl dX6_asked_30 ?_
        refine r_callv (c_X0_court E 6 tw_6 _ _) rfl sh_46 rfl ml_X6_201 cw_X0_court vw_X0_court (by decide) (Nat.le_of_ble_eq_true rfl) 34 rfl dX6_asked_31 (fun _ σ5 => ?_)
        refine r_aload_n 0 rfl rfl 35 rfl dX6_asked_34 ?_
        refine r_getr fl_X6_44 sh_0 rfl 38 rfl dX6_asked_35 ?_
        refine r_getr fl_X6_205 sh_46 rfl 41 rfl dX6_asked_38 ?_
        refine r_iload_n 2 rfl rfl 42 rfl dX6_asked_41 ?_
        refine r_iald sh_52 43 rfl dX6_asked_42 ?_
        refine r_callsi (c_X6_orNone E   _ _) rfl ml_X6_134 cw_X6_orNone sw_X6_orNone (by decide) (Nat.le_of_ble_eq_true rfl) 46 rfl dX6_asked_43 (fun r6 σ6 => ?_)
        exact r_iret rfl dX6_asked_46
/-! HandMarket.sum(I)I -/
def f_X6_sum  (x1 : Int32) (σ : k_Mem) : Option (Int32 × k_Mem) :=
  if x1 < 0 then (
    some ((-1), σ)
  ) else (
    if x1 ≤ 3 then (
      k_bd (f_X0_court 6 (x1 / 2) σ) (fun _ σ3 =>
        if (k_rem x1 2) = 0 then (
          k_bd (f_X0_pairs   σ3) (fun r5 σ5 =>
            some (r5, σ5)
          )
        ) else (
          k_bd (f_X0_allLikes   σ3) (fun r6 σ6 =>
            some (r6, σ6)
          )
        )
      )
    ) else (
      some ((-1), σ)
    )
  )
set_option maxRecDepth 100000 in
theorem c_X6_sum (E : k_EV)   (x1 : Int32) (σ : k_Mem) : k_MC m_X6_sum E k_vi [k_rf E 0, .int x1] σ (f_X6_sum x1 σ) := by
  refine k_MC_of ⟨by decide, by decide⟩ (Nat.le_of_ble_eq_true rfl) ?_
  show k_GO _ _ _ 0 [(0, k_rf E 0), (1, .int x1)] [] σ _
  unfold f_X6_sum
  refine r_iload_n 1 rfl rfl 1 rfl dX6_sum_0 ?_
  refine r_if_lt 9 4 rfl (by decide) dX6_sum_1 (fun c1 => ?_) (fun c1 => ?_)
  · refine r_iconst (-1) (by decide) 10 rfl dX6_sum_9 ?_
    exact r_iret rfl dX6_sum_10
  · refine r_iload_n 1 rfl rfl 5 rfl dX6_sum_4 ?_
    refine r_iconst 3 (by decide) 6 rfl dX6_sum_5 ?_
    refine r_icmp_le 11 9 rfl (by decide) dX6_sum_6 (fun c2 => ?_) (fun c2 => ?_)
    · refine r_aload_n 0 rfl rfl 12 rfl dX6_sum_11 ?_
      refine r_getr fl_X6_44 sh_0 rfl 15 rfl dX6_sum_12 ?_
      refine r_aload_n 0 rfl rfl 16 rfl dX6_sum_15 ?_
      refine r_getr fl_X6_10 sh_0 rfl 19 rfl dX6_sum_16 ?_
      refine r_iload_n 1 rfl rfl 20 rfl dX6_sum_19 ?_
      refine r_iconst 2 (by decide) 21 rfl dX6_sum_20 ?_
      refine r_idiv (by decide) 22 rfl dX6_sum_21 ?_
      refine r_callv (c_X0_court E 6 tw_6 _ _) rfl sh_46 rfl ml_X6_201 cw_X0_court vw_X0_court (by decide) (Nat.le_of_ble_eq_true rfl) 25 rfl dX6_sum_22 (fun _ σ3 => ?_)
      refine r_iload_n 1 rfl rfl 26 rfl dX6_sum_25 ?_
      refine r_iconst 2 (by decide) 27 rfl dX6_sum_26 ?_
      refine r_irem (by decide) 28 rfl dX6_sum_27 ?_
      refine r_if_ne 41 31 rfl (by decide) dX6_sum_28 (fun c4 => ?_) (fun c4 => ?_)
      · refine r_aload_n 0 rfl rfl 32 rfl dX6_sum_31 ?_
        refine r_getr fl_X6_44 sh_0 rfl 35 rfl dX6_sum_32 ?_
        refine r_calli (c_X0_pairs E    _) rfl sh_46 rfl ml_X6_208 cw_X0_pairs vw_X0_pairs (by decide) (Nat.le_of_ble_eq_true rfl) 38 rfl dX6_sum_35 (fun r5 σ5 => ?_)
        refine r_goto 48 (by decide) dX6_sum_38 ?_
        exact r_iret rfl dX6_sum_48
      · refine r_aload_n 0 rfl rfl 42 rfl dX6_sum_41 ?_
        refine r_getr fl_X6_44 sh_0 rfl 45 rfl dX6_sum_42 ?_
        refine r_calli (c_X0_allLikes E    _) rfl sh_46 rfl ml_X6_211 cw_X0_allLikes vw_X0_allLikes (by decide) (Nat.le_of_ble_eq_true rfl) 48 rfl dX6_sum_45 (fun r6 σ6 => ?_)
        exact r_iret rfl dX6_sum_48
    · refine r_iconst (-1) (by decide) 10 rfl dX6_sum_9 ?_
      exact r_iret rfl dX6_sum_10
/-! HandMarket.hold(I)I -/
def j_X6_hold_22   (x1 : Int32) (x2 : Int32) (σ : k_Mem) : Option (Int32 × k_Mem) :=
  k_bd (f_X0_court 6 0 σ) (fun _ σ2 =>
    if x1 = 0 then (
      k_bd (f_X0_countHolding   σ2) (fun r4 σ4 =>
        some (r4, σ4)
      )
    ) else (
      if k_in x2 8 then (
        k_bd (f_X0_countHoldingWith  x2 (σ2 52 (k_n x2)) σ2) (fun r5 σ5 =>
          some (r5, σ5)
        )
      ) else none
    )
  )
set_option maxRecDepth 100000 in
theorem gj_X6_hold_22 (E : k_EV)     (x1 : Int32) (x2 : Int32)  (σ : k_Mem) : k_GO m_X6_hold E k_vi 22 [(0, k_rf E 0), (1, .int x1), (2, .int x2)] [] σ (j_X6_hold_22   x1 x2 σ) := by
  unfold j_X6_hold_22
  refine r_aload_n 0 rfl rfl 23 rfl dX6_hold_22 ?_
  refine r_getr fl_X6_44 sh_0 rfl 26 rfl dX6_hold_23 ?_
  refine r_aload_n 0 rfl rfl 27 rfl dX6_hold_26 ?_
  refine r_getr fl_X6_10 sh_0 rfl 30 rfl dX6_hold_27 ?_
  refine r_iconst 0 (by decide) 31 rfl dX6_hold_30 ?_
  refine r_callv (c_X0_court E 6 tw_6 _ _) rfl sh_46 rfl ml_X6_201 cw_X0_court vw_X0_court (by decide) (Nat.le_of_ble_eq_true rfl) 34 rfl dX6_hold_31 (fun _ σ2 => ?_)
  refine r_iload_n 1 rfl rfl 35 rfl dX6_hold_34 ?_
  refine r_if_ne 48 38 rfl (by decide) dX6_hold_35 (fun c3 => ?_) (fun c3 => ?_)
  · refine r_aload_n 0 rfl rfl 39 rfl dX6_hold_38 ?_
    refine r_getr fl_X6_44 sh_0 rfl 42 rfl dX6_hold_39 ?_
    refine r_calli (c_X0_countHolding E    _) rfl sh_46 rfl ml_X6_214 cw_X0_countHolding vw_X0_countHolding (by decide) (Nat.le_of_ble_eq_true rfl) 45 rfl dX6_hold_42 (fun r4 σ4 => ?_)
    refine r_goto 65 (by decide) dX6_hold_45 ?_
    exact r_iret rfl dX6_hold_65
  · refine r_aload_n 0 rfl rfl 49 rfl dX6_hold_48 ?_
    refine r_getr fl_X6_44 sh_0 rfl 52 rfl dX6_hold_49 ?_
    refine r_iload_n 2 rfl rfl 53 rfl dX6_hold_52 ?_
    refine r_aload_n 0 rfl rfl 54 rfl dX6_hold_53 ?_
    refine r_getr fl_X6_44 sh_0 rfl 57 rfl dX6_hold_54 ?_
    refine r_getr fl_X6_205 sh_46 rfl 60 rfl dX6_hold_57 ?_
    refine r_iload_n 2 rfl rfl 61 rfl dX6_hold_60 ?_
    refine r_iald sh_52 62 rfl dX6_hold_61 ?_
    refine r_calli (c_X0_countHoldingWith E   _ _ _) rfl sh_46 rfl ml_X6_217 cw_X0_countHoldingWith vw_X0_countHoldingWith (by decide) (Nat.le_of_ble_eq_true rfl) 65 rfl dX6_hold_62 (fun r5 σ5 => ?_)
    exact r_iret rfl dX6_hold_65
def f_X6_hold  (x1 : Int32) (σ : k_Mem) : Option (Int32 × k_Mem) :=
  if x1 = 0 then (
    j_X6_hold_22   x1 (x1 - 10) σ
  ) else (
    k_bd (f_X5_isHand 6 (x1 - 10) σ) (fun r6 σ6 =>
      if r6 = 0 then (
        some ((-1), σ6)
      ) else (
        j_X6_hold_22   x1 (x1 - 10) σ6
      )
    )
  )
set_option maxRecDepth 100000 in
theorem c_X6_hold (E : k_EV)   (x1 : Int32) (σ : k_Mem) : k_MC m_X6_hold E k_vi [k_rf E 0, .int x1] σ (f_X6_hold x1 σ) := by
  refine k_MC_of ⟨by decide, by decide⟩ (Nat.le_of_ble_eq_true rfl) ?_
  show k_GO _ _ _ 0 [(0, k_rf E 0), (1, .int x1)] [] σ _
  unfold f_X6_hold
  refine r_iload_n 1 rfl rfl 1 rfl dX6_hold_0 ?_
  refine r_bipush 10 (by decide) 3 rfl dX6_hold_1 ?_
  refine r_isub 4 rfl dX6_hold_3 ?_
  refine r_istore_n [(2, .int _), (0, k_rf E 0), (1, .int _)] rfl rfl (by decide) 5 rfl dX6_hold_4 ?_
  refine r_iload_n 2 rfl rfl 6 rfl dX6_hold_5 ?_
  refine r_if_eq 22 9 rfl (by decide) dX6_hold_6 (fun c1 => ?_) (fun c1 => ?_)
  · exact r_sub [1, 2, 0] rfl (gj_X6_hold_22 E     _ _  _)
  · refine r_aload_n 1 rfl rfl 10 rfl dX6_hold_9 ?_
    refine r_getr fl_X6_10 sh_0 rfl 13 rfl dX6_hold_10 ?_
    refine r_iload_n 0 rfl rfl 14 rfl dX6_hold_13 ?_
    refine r_calli (c_X5_isHand E 6 tw_6 _ _) rfl sh_6 rfl ml_X6_113 cw_X5_isHand vw_X5_isHand (by decide) (Nat.le_of_ble_eq_true rfl) 17 rfl dX6_hold_14 (fun r6 σ6 => ?_)
    refine r_if_ne 22 20 rfl (by decide) dX6_hold_17 (fun c7 => ?_) (fun c7 => ?_)
    · refine r_iconst (-1) (by decide) 21 rfl dX6_hold_20 ?_
      exact r_iret rfl dX6_hold_21
    · exact r_sub [1, 2, 0] rfl (gj_X6_hold_22 E     _ _  _)
/-! HandMarket.most(I)I -/
def j_X6_most_22   (x1 : Int32) (x2 : Int32) (σ : k_Mem) : Option (Int32 × k_Mem) :=
  k_bd (f_X0_weigh 6  σ) (fun _ σ2 =>
    k_bd (f_X0_findMost   σ2) (fun r3 σ3 =>
      if x1 = 0 then (
        some (r3, σ3)
      ) else (
        if k_in x2 8 then (
          k_bd (f_X6_orNone  (σ3 54 (k_n x2)) σ3) (fun r5 σ5 =>
            some (r5, σ5)
          )
        ) else none
      )
    )
  )
set_option maxRecDepth 100000 in
theorem gj_X6_most_22 (E : k_EV)     (x1 : Int32) (x2 : Int32)  (σ : k_Mem) : k_GO m_X6_most E k_vi 22 [(0, k_rf E 0), (1, .int x1), (2, .int x2)] [] σ (j_X6_most_22   x1 x2 σ) := by
  unfold j_X6_most_22
  refine r_aload_n 0 rfl rfl 23 rfl dX6_most_22 ?_
  refine r_getr fl_X6_44 sh_0 rfl 26 rfl dX6_most_23 ?_
  refine r_aload_n 0 rfl rfl 27 rfl dX6_most_26 ?_
  refine r_getr fl_X6_10 sh_0 rfl 30 rfl dX6_most_27 ?_
  refine r_callv (c_X0_weigh E 6 tw_6  _) rfl sh_46 rfl ml_X6_152 cw_X0_weigh vw_X0_weigh (by decide) (Nat.le_of_ble_eq_true rfl) 33 rfl dX6_most_30 (fun _ σ2 => ?_)
  refine r_aload_n 0 rfl rfl 34 rfl dX6_most_33 ?_
  refine r_getr fl_X6_44 sh_0 rfl 37 rfl dX6_most_34 ?_
  refine r_calli (c_X0_findMost E    _) rfl sh_46 rfl ml_X6_220 cw_X0_findMost vw_X0_findMost (by decide) (Nat.le_of_ble_eq_true rfl) 40 rfl dX6_most_37 (fun r3 σ3 => ?_)
  refine r_istore_n [(3, .int _), (0, k_rf E 0), (1, .int _), (2, .int _)] rfl rfl (by decide) 41 rfl dX6_most_40 ?_
  refine r_iload_n 2 rfl rfl 42 rfl dX6_most_41 ?_
  refine r_if_ne 49 45 rfl (by decide) dX6_most_42 (fun c4 => ?_) (fun c4 => ?_)
  · refine r_iload_n 0 rfl rfl 46 rfl dX6_most_45 ?_
    refine r_goto 61 (by decide) dX6_most_46 ?_
    exact r_iret rfl dX6_most_61
  · refine r_aload_n 1 rfl rfl 50 rfl dX6_most_49 ?_
    refine r_getr fl_X6_44 sh_0 rfl 53 rfl dX6_most_50 ?_
    refine r_getr fl_X6_223 sh_46 rfl 56 rfl dX6_most_53 ?_
    refine r_iload_n 3 rfl rfl 57 rfl dX6_most_56 ?_
    refine r_iald sh_54 58 rfl dX6_most_57 ?_
    refine r_callsi (c_X6_orNone E   _ _) rfl ml_X6_134 cw_X6_orNone sw_X6_orNone (by decide) (Nat.le_of_ble_eq_true rfl) 61 rfl dX6_most_58 (fun r5 σ5 => ?_)
    exact r_iret rfl dX6_most_61
def f_X6_most  (x1 : Int32) (σ : k_Mem) : Option (Int32 × k_Mem) :=
  if x1 = 0 then (
    j_X6_most_22   x1 (x1 - 10) σ
  ) else (
    k_bd (f_X5_isLeft 6 (x1 - 10) σ) (fun r6 σ6 =>
      if r6 = 0 then (
        some ((-1), σ6)
      ) else (
        j_X6_most_22   x1 (x1 - 10) σ6
      )
    )
  )
set_option maxRecDepth 100000 in
theorem c_X6_most (E : k_EV)   (x1 : Int32) (σ : k_Mem) : k_MC m_X6_most E k_vi [k_rf E 0, .int x1] σ (f_X6_most x1 σ) := by
  refine k_MC_of ⟨by decide, by decide⟩ (Nat.le_of_ble_eq_true rfl) ?_
  show k_GO _ _ _ 0 [(0, k_rf E 0), (1, .int x1)] [] σ _
  unfold f_X6_most
  refine r_iload_n 1 rfl rfl 1 rfl dX6_most_0 ?_
  refine r_bipush 10 (by decide) 3 rfl dX6_most_1 ?_
  refine r_isub 4 rfl dX6_most_3 ?_
  refine r_istore_n [(2, .int _), (0, k_rf E 0), (1, .int _)] rfl rfl (by decide) 5 rfl dX6_most_4 ?_
  refine r_iload_n 2 rfl rfl 6 rfl dX6_most_5 ?_
  refine r_if_eq 22 9 rfl (by decide) dX6_most_6 (fun c1 => ?_) (fun c1 => ?_)
  · exact r_sub [1, 2, 0] rfl (gj_X6_most_22 E     _ _  _)
  · refine r_aload_n 1 rfl rfl 10 rfl dX6_most_9 ?_
    refine r_getr fl_X6_10 sh_0 rfl 13 rfl dX6_most_10 ?_
    refine r_iload_n 0 rfl rfl 14 rfl dX6_most_13 ?_
    refine r_calli (c_X5_isLeft E 6 tw_6 _ _) rfl sh_6 rfl ml_X6_175 cw_X5_isLeft vw_X5_isLeft (by decide) (Nat.le_of_ble_eq_true rfl) 17 rfl dX6_most_14 (fun r6 σ6 => ?_)
    refine r_if_ne 22 20 rfl (by decide) dX6_most_17 (fun c7 => ?_) (fun c7 => ?_)
    · refine r_iconst (-1) (by decide) 21 rfl dX6_most_20 ?_
      exact r_iret rfl dX6_most_21
    · exact r_sub [1, 2, 0] rfl (gj_X6_most_22 E     _ _  _)
/-! HandMarket.quarrel(I)I -/
def f_X6_quarrel  (x1 : Int32) (σ : k_Mem) : Option (Int32 × k_Mem) :=
  if x1 < 0 then (
    some ((-1), σ)
  ) else (
    if x1 ≤ 1 then (
      k_bd (f_X0_weigh 6  σ) (fun _ σ3 =>
        k_bd (f_X0_setMates 12 8  σ3) (fun _ σ4 =>
          k_bd (f_X0_firstQuarrel   σ4) (fun r5 σ5 =>
            if x1 = 1 then (
              k_bd (f_X6_orNone  r5 σ5) (fun r7 σ7 =>
                some (r7, σ7)
              )
            ) else (
              k_bd (f_X0_quarrels   σ5) (fun r8 σ8 =>
                some (r8, σ8)
              )
            )
          )
        )
      )
    ) else (
      some ((-1), σ)
    )
  )
set_option maxRecDepth 100000 in
theorem c_X6_quarrel (E : k_EV)   (x1 : Int32) (σ : k_Mem) : k_MC m_X6_quarrel E k_vi [k_rf E 0, .int x1] σ (f_X6_quarrel x1 σ) := by
  refine k_MC_of ⟨by decide, by decide⟩ (Nat.le_of_ble_eq_true rfl) ?_
  show k_GO _ _ _ 0 [(0, k_rf E 0), (1, .int x1)] [] σ _
  unfold f_X6_quarrel
  refine r_iload_n 1 rfl rfl 1 rfl dX6_quarrel_0 ?_
  refine r_if_lt 9 4 rfl (by decide) dX6_quarrel_1 (fun c1 => ?_) (fun c1 => ?_)
  · refine r_iconst (-1) (by decide) 10 rfl dX6_quarrel_9 ?_
    exact r_iret rfl dX6_quarrel_10
  · refine r_iload_n 1 rfl rfl 5 rfl dX6_quarrel_4 ?_
    refine r_iconst 1 (by decide) 6 rfl dX6_quarrel_5 ?_
    refine r_icmp_le 11 9 rfl (by decide) dX6_quarrel_6 (fun c2 => ?_) (fun c2 => ?_)
    · refine r_aload_n 0 rfl rfl 12 rfl dX6_quarrel_11 ?_
      refine r_getr fl_X6_44 sh_0 rfl 15 rfl dX6_quarrel_12 ?_
      refine r_aload_n 0 rfl rfl 16 rfl dX6_quarrel_15 ?_
      refine r_getr fl_X6_10 sh_0 rfl 19 rfl dX6_quarrel_16 ?_
      refine r_callv (c_X0_weigh E 6 tw_6  _) rfl sh_46 rfl ml_X6_152 cw_X0_weigh vw_X0_weigh (by decide) (Nat.le_of_ble_eq_true rfl) 22 rfl dX6_quarrel_19 (fun _ σ3 => ?_)
      refine r_aload_n 0 rfl rfl 23 rfl dX6_quarrel_22 ?_
      refine r_getr fl_X6_44 sh_0 rfl 26 rfl dX6_quarrel_23 ?_
      refine r_aload_n 0 rfl rfl 27 rfl dX6_quarrel_26 ?_
      refine r_getr fl_X6_10 sh_0 rfl 30 rfl dX6_quarrel_27 ?_
      refine r_getr fl_X6_131 sh_6 rfl 33 rfl dX6_quarrel_30 ?_
      refine r_callv (c_X0_setMates E 12 8 sh_12  _) rfl sh_46 rfl ml_X6_226 cw_X0_setMates vw_X0_setMates (by decide) (Nat.le_of_ble_eq_true rfl) 36 rfl dX6_quarrel_33 (fun _ σ4 => ?_)
      refine r_aload_n 0 rfl rfl 37 rfl dX6_quarrel_36 ?_
      refine r_getr fl_X6_44 sh_0 rfl 40 rfl dX6_quarrel_37 ?_
      refine r_calli (c_X0_firstQuarrel E    _) rfl sh_46 rfl ml_X6_230 cw_X0_firstQuarrel vw_X0_firstQuarrel (by decide) (Nat.le_of_ble_eq_true rfl) 43 rfl dX6_quarrel_40 (fun r5 σ5 => ?_)
      refine r_istore_n [(2, .int _), (0, k_rf E 0), (1, .int _)] rfl rfl (by decide) 44 rfl dX6_quarrel_43 ?_
      refine r_iload_n 2 rfl rfl 45 rfl dX6_quarrel_44 ?_
      refine r_iconst 1 (by decide) 46 rfl dX6_quarrel_45 ?_
      refine r_icmp_ne 56 49 rfl (by decide) dX6_quarrel_46 (fun c6 => ?_) (fun c6 => ?_)
      · refine r_iload_n 0 rfl rfl 50 rfl dX6_quarrel_49 ?_
        refine r_callsi (c_X6_orNone E   _ _) rfl ml_X6_134 cw_X6_orNone sw_X6_orNone (by decide) (Nat.le_of_ble_eq_true rfl) 53 rfl dX6_quarrel_50 (fun r7 σ7 => ?_)
        refine r_goto 63 (by decide) dX6_quarrel_53 ?_
        exact r_iret rfl dX6_quarrel_63
      · refine r_aload_n 1 rfl rfl 57 rfl dX6_quarrel_56 ?_
        refine r_getr fl_X6_44 sh_0 rfl 60 rfl dX6_quarrel_57 ?_
        refine r_calli (c_X0_quarrels E    _) rfl sh_46 rfl ml_X6_233 cw_X0_quarrels vw_X0_quarrels (by decide) (Nat.le_of_ble_eq_true rfl) 63 rfl dX6_quarrel_60 (fun r8 σ8 => ?_)
        exact r_iret rfl dX6_quarrel_63
    · refine r_iconst (-1) (by decide) 10 rfl dX6_quarrel_9 ?_
      exact r_iret rfl dX6_quarrel_10
/-! HandMarket.alone()I -/
def f_X6_alone   (σ : k_Mem) : Option (Int32 × k_Mem) :=
  k_bd (f_X0_court 6 0 σ) (fun _ σ1 =>
    k_bd (f_X0_matedBits   σ1) (fun r2 σ2 =>
      some (((σ1 46 8) &&& (r2 ^^^ (-1))), σ2)
    )
  )
set_option maxRecDepth 100000 in
theorem c_X6_alone (E : k_EV)    (σ : k_Mem) : k_MC m_X6_alone E k_vi [k_rf E 0] σ (f_X6_alone  σ) := by
  refine k_MC_of ⟨by decide, by decide⟩ (Nat.le_of_ble_eq_true rfl) ?_
  show k_GO _ _ _ 0 [(0, k_rf E 0)] [] σ _
  unfold f_X6_alone
  refine r_aload_n 0 rfl rfl 1 rfl dX6_alone_0 ?_
  refine r_getr fl_X6_44 sh_0 rfl 4 rfl dX6_alone_1 ?_
  refine r_aload_n 0 rfl rfl 5 rfl dX6_alone_4 ?_
  refine r_getr fl_X6_10 sh_0 rfl 8 rfl dX6_alone_5 ?_
  refine r_iconst 0 (by decide) 9 rfl dX6_alone_8 ?_
  refine r_callv (c_X0_court E 6 tw_6 _ _) rfl sh_46 rfl ml_X6_201 cw_X0_court vw_X0_court (by decide) (Nat.le_of_ble_eq_true rfl) 12 rfl dX6_alone_9 (fun _ σ1 => ?_)
  refine r_aload_n 0 rfl rfl 13 rfl dX6_alone_12 ?_
  refine r_getr fl_X6_44 sh_0 rfl 16 rfl dX6_alone_13 ?_
  refine r_geti fl_X6_236 sh_46 rfl 19 rfl dX6_alone_16 ?_
  refine r_aload_n 0 rfl rfl 20 rfl dX6_alone_19 ?_
  refine r_getr fl_X6_44 sh_0 rfl 23 rfl dX6_alone_20 ?_
  refine r_calli (c_X0_matedBits E    _) rfl sh_46 rfl ml_X6_239 cw_X0_matedBits vw_X0_matedBits (by decide) (Nat.le_of_ble_eq_true rfl) 26 rfl dX6_alone_23 (fun r2 σ2 => ?_)
  refine r_iconst (-1) (by decide) 27 rfl dX6_alone_26 ?_
  refine r_ixor 28 rfl dX6_alone_27 ?_
  refine r_iand 29 rfl dX6_alone_28 ?_
  exact r_iret rfl dX6_alone_29
/-! HandMarket.years(I)I -/
def l_X6_years_32   : Nat → Int32 → Int32 → k_Mem → Option (Int32 × k_Mem)
  | 0, _, _, _ => none
  | n + 1, x1, x2, σ =>
    if x1 ≤ x2 then (
      some ((σ 6 10), σ)
    ) else (
      k_bd (f_X5_passYear 6  σ) (fun _ σ5 =>
        l_X6_years_32   n x1 (x2 + 1) σ5
      )
    )
set_option maxRecDepth 100000 in
theorem gl_X6_years_32 (E : k_EV)     : ∀ (n : Nat) (x1 : Int32) (x2 : Int32)  (σ : k_Mem), k_GO m_X6_years E k_vi 32 [(0, k_rf E 0), (1, .int x1), (2, .int x2)] [] σ (l_X6_years_32   n x1 x2 σ) := by
  intro n
  induction n with
  | zero => intro x1 x2  σ; exact r_none
  | succ n ih =>
    intro x1 x2  σ
    rw [l_X6_years_32]
    refine r_iload_n 2 rfl rfl 33 rfl dX6_years_32 ?_
    refine r_iload_n 1 rfl rfl 34 rfl dX6_years_33 ?_
    refine r_icmp_ge 50 37 rfl (by decide) dX6_years_34 (fun c4 => ?_) (fun c4 => ?_)
    · refine r_aload_n 0 rfl rfl 51 rfl dX6_years_50 ?_
      refine r_getr fl_X6_10 sh_0 rfl 54 rfl dX6_years_51 ?_
      refine r_geti fl_X6_110 sh_6 rfl 57 rfl dX6_years_54 ?_
      exact r_iret rfl dX6_years_57
    · refine r_aload_n 0 rfl rfl 38 rfl dX6_years_37 ?_
      refine r_getr fl_X6_10 sh_0 rfl 41 rfl dX6_years_38 ?_
      refine r_callv (c_X5_passYear E 6 tw_6  _) rfl sh_6 rfl ml_X6_242 cw_X5_passYear vw_X5_passYear (by decide) (Nat.le_of_ble_eq_true rfl) 44 rfl dX6_years_41 (fun _ σ5 => ?_)
      refine r_iinc 1 (by decide) 2 rfl [(2, .int _), (0, k_rf E 0), (1, .int _)] rfl (by decide) 47 rfl dX6_years_44 ?_
      refine r_goto 32 (by decide) dX6_years_47 ?_
      exact r_sub [1, 2, 0] rfl (ih _ _  _)
def f_X6_years  (x1 : Int32) (σ : k_Mem) : Option (Int32 × k_Mem) :=
  if x1 < 0 then (
    some ((-1), σ)
  ) else (
    if x1 ≤ 20 then (
      if ((σ 6 10) + x1) < 1000 then (
        l_X6_years_32   1000 x1 0 σ
      ) else (
        some ((-3), σ)
      )
    ) else (
      some ((-1), σ)
    )
  )
set_option maxRecDepth 100000 in
theorem c_X6_years (E : k_EV)   (x1 : Int32) (σ : k_Mem) : k_MC m_X6_years E k_vi [k_rf E 0, .int x1] σ (f_X6_years x1 σ) := by
  refine k_MC_of ⟨by decide, by decide⟩ (Nat.le_of_ble_eq_true rfl) ?_
  show k_GO _ _ _ 0 [(0, k_rf E 0), (1, .int x1)] [] σ _
  unfold f_X6_years
  refine r_iload_n 1 rfl rfl 1 rfl dX6_years_0 ?_
  refine r_if_lt 10 4 rfl (by decide) dX6_years_1 (fun c1 => ?_) (fun c1 => ?_)
  · refine r_iconst (-1) (by decide) 11 rfl dX6_years_10 ?_
    exact r_iret rfl dX6_years_11
  · refine r_iload_n 1 rfl rfl 5 rfl dX6_years_4 ?_
    refine r_bipush 20 (by decide) 7 rfl dX6_years_5 ?_
    refine r_icmp_le 12 10 rfl (by decide) dX6_years_7 (fun c2 => ?_) (fun c2 => ?_)
    · refine r_aload_n 0 rfl rfl 13 rfl dX6_years_12 ?_
      refine r_getr fl_X6_10 sh_0 rfl 16 rfl dX6_years_13 ?_
      refine r_geti fl_X6_110 sh_6 rfl 19 rfl dX6_years_16 ?_
      refine r_iload_n 1 rfl rfl 20 rfl dX6_years_19 ?_
      refine r_iadd 21 rfl dX6_years_20 ?_
      refine r_sipush 1000 (by decide) 24 rfl dX6_years_21 ?_
      refine r_icmp_lt 30 27 rfl (by decide) dX6_years_24 (fun c3 => ?_) (fun c3 => ?_)
      · refine r_iconst 0 (by decide) 31 rfl dX6_years_30 ?_
        refine r_istore_n [(2, .int _), (0, k_rf E 0), (1, .int _)] rfl rfl (by decide) 32 rfl dX6_years_31 ?_
        exact r_sub [1, 2, 0] rfl (gl_X6_years_32 E     1000 _ _  _)
      · refine r_bipush (-3) (by decide) 29 rfl dX6_years_27 ?_
        exact r_iret rfl dX6_years_29
    · refine r_iconst (-1) (by decide) 11 rfl dX6_years_10 ?_
      exact r_iret rfl dX6_years_11
/-! HandMarket.alike()I -/
def l_X6_alike_13   : Nat → Int32 → k_Mem → Option (Int32 × k_Mem)
  | 0, _, _ => none
  | n + 1, x1, σ =>
    if 20 < x1 then (
      some ((-4), σ)
    ) else (
      k_bd (f_X5_couplesAlike 14  σ) (fun r3 σ3 =>
        if r3 = 0 then (
          k_bd (f_X5_passYear 14  σ3) (fun _ σ5 =>
            l_X6_alike_13   n (x1 + 1) σ5
          )
        ) else (
          some (x1, σ3)
        )
      )
    )
set_option maxRecDepth 100000 in
theorem gl_X6_alike_13 (E : k_EV)     : ∀ (n : Nat) (x1 : Int32)  (σ : k_Mem), k_GO m_X6_alike E k_vi 13 [(0, k_rf E 0), (1, .int x1)] [] σ (l_X6_alike_13   n x1 σ) := by
  intro n
  induction n with
  | zero => intro x1  σ; exact r_none
  | succ n ih =>
    intro x1  σ
    rw [l_X6_alike_13]
    refine r_iload_n 1 rfl rfl 14 rfl dX6_alike_13 ?_
    refine r_bipush 20 (by decide) 16 rfl dX6_alike_14 ?_
    refine r_icmp_gt 44 19 rfl (by decide) dX6_alike_16 (fun c2 => ?_) (fun c2 => ?_)
    · refine r_bipush (-4) (by decide) 46 rfl dX6_alike_44 ?_
      exact r_iret rfl dX6_alike_46
    · refine r_aload_n 0 rfl rfl 20 rfl dX6_alike_19 ?_
      refine r_getr fl_X6_16 sh_0 rfl 23 rfl dX6_alike_20 ?_
      refine r_calli (c_X5_couplesAlike E 14 tw_14  _) rfl sh_14 rfl ml_X6_245 cw_X5_couplesAlike vw_X5_couplesAlike (by decide) (Nat.le_of_ble_eq_true rfl) 26 rfl dX6_alike_23 (fun r3 σ3 => ?_)
      refine r_if_eq 31 29 rfl (by decide) dX6_alike_26 (fun c4 => ?_) (fun c4 => ?_)
      · refine r_aload_n 0 rfl rfl 32 rfl dX6_alike_31 ?_
        refine r_getr fl_X6_16 sh_0 rfl 35 rfl dX6_alike_32 ?_
        refine r_callv (c_X5_passYear E 14 tw_14  _) rfl sh_14 rfl ml_X6_242 cw_X5_passYear vw_X5_passYear (by decide) (Nat.le_of_ble_eq_true rfl) 38 rfl dX6_alike_35 (fun _ σ5 => ?_)
        refine r_iinc 1 (by decide) 1 rfl [(1, .int _), (0, k_rf E 0)] rfl (by decide) 41 rfl dX6_alike_38 ?_
        refine r_goto 13 (by decide) dX6_alike_41 ?_
        exact r_sub [1, 0] rfl (ih _  _)
      · refine r_iload_n 1 rfl rfl 30 rfl dX6_alike_29 ?_
        exact r_iret rfl dX6_alike_30
def f_X6_alike   (σ : k_Mem) : Option (Int32 × k_Mem) :=
  k_bd (f_X5_become 14 6  σ) (fun _ σ1 =>
    l_X6_alike_13   1000 0 σ1
  )
set_option maxRecDepth 100000 in
theorem c_X6_alike (E : k_EV)    (σ : k_Mem) : k_MC m_X6_alike E k_vi [k_rf E 0] σ (f_X6_alike  σ) := by
  refine k_MC_of ⟨by decide, by decide⟩ (Nat.le_of_ble_eq_true rfl) ?_
  show k_GO _ _ _ 0 [(0, k_rf E 0)] [] σ _
  unfold f_X6_alike
  refine r_aload_n 0 rfl rfl 1 rfl dX6_alike_0 ?_
  refine r_getr fl_X6_16 sh_0 rfl 4 rfl dX6_alike_1 ?_
  refine r_aload_n 0 rfl rfl 5 rfl dX6_alike_4 ?_
  refine r_getr fl_X6_10 sh_0 rfl 8 rfl dX6_alike_5 ?_
  refine r_callv (c_X5_become E 14 6 tw_14 tw_6  _) rfl sh_14 rfl ml_X6_86 cw_X5_become vw_X5_become (by decide) (Nat.le_of_ble_eq_true rfl) 11 rfl dX6_alike_8 (fun _ σ1 => ?_)
  refine r_iconst 0 (by decide) 12 rfl dX6_alike_11 ?_
  refine r_istore_n [(1, .int _), (0, k_rf E 0)] rfl rfl (by decide) 13 rfl dX6_alike_12 ?_
  exact r_sub [1, 0] rfl (gl_X6_alike_13 E     1000 _  _)
/-! HandMarket.near(I)I -/
def j_X6_near_104  (k20 : Int32 → Int32 → Int32 → Int32 → k_Mem → Option (Int32 × k_Mem)) (k33 : Int32 → Int32 → Int32 → Int32 → Int32 → k_Mem → Option (Int32 × k_Mem)) (x1 : Int32) (x2 : Int32) (x3 : Int32) (x4 : Int32) (x5 : Int32) (σ : k_Mem) : Option (Int32 × k_Mem) :=
  k33 x1 x2 x3 x4 (x5 + 1) σ
set_option maxRecDepth 100000 in
theorem gj_X6_near_104 (E : k_EV)   (k20 : Int32 → Int32 → Int32 → Int32 → k_Mem → Option (Int32 × k_Mem)) (k33 : Int32 → Int32 → Int32 → Int32 → Int32 → k_Mem → Option (Int32 × k_Mem)) (hk20 : ∀ (x1 : Int32) (x2 : Int32) (x3 : Int32) (x4 : Int32)  (σ : k_Mem), k_GO m_X6_near E k_vi 20 [(0, k_rf E 0), (1, .int x1), (2, .int x2), (3, .int x3), (4, .int x4)] [] σ (k20 x1 x2 x3 x4 σ)) (hk33 : ∀ (x1 : Int32) (x2 : Int32) (x3 : Int32) (x4 : Int32) (x5 : Int32)  (σ : k_Mem), k_GO m_X6_near E k_vi 33 [(0, k_rf E 0), (1, .int x1), (2, .int x2), (3, .int x3), (4, .int x4), (5, .int x5)] [] σ (k33 x1 x2 x3 x4 x5 σ)) (x1 : Int32) (x2 : Int32) (x3 : Int32) (x4 : Int32) (x5 : Int32)  (σ : k_Mem) : k_GO m_X6_near E k_vi 104 [(0, k_rf E 0), (1, .int x1), (2, .int x2), (3, .int x3), (4, .int x4), (5, .int x5)] [] σ (j_X6_near_104  k20 k33 x1 x2 x3 x4 x5 σ) := by
  unfold j_X6_near_104
  refine r_iinc 1 (by decide) 5 rfl [(5, .int _), (0, k_rf E 0), (1, .int _), (2, .int _), (3, .int _), (4, .int _)] rfl (by decide) 107 rfl dX6_near_104 ?_
  refine r_goto 33 (by decide) dX6_near_107 ?_
  exact r_sub [1, 2, 3, 4, 5, 0] rfl (hk33 _ _ _ _ _  _)
def j_X6_near_92  (k20 : Int32 → Int32 → Int32 → Int32 → k_Mem → Option (Int32 × k_Mem)) (k33 : Int32 → Int32 → Int32 → Int32 → Int32 → k_Mem → Option (Int32 × k_Mem)) (x1 : Int32) (x4 : Int32) (x5 : Int32) (x6 : Int32) (σ : k_Mem) : Option (Int32 × k_Mem) :=
  j_X6_near_104  k20 k33 x1 ((10 * x4) + x5) x6 x4 x5 σ
set_option maxRecDepth 100000 in
theorem gj_X6_near_92 (E : k_EV)   (k20 : Int32 → Int32 → Int32 → Int32 → k_Mem → Option (Int32 × k_Mem)) (k33 : Int32 → Int32 → Int32 → Int32 → Int32 → k_Mem → Option (Int32 × k_Mem)) (hk20 : ∀ (x1 : Int32) (x2 : Int32) (x3 : Int32) (x4 : Int32)  (σ : k_Mem), k_GO m_X6_near E k_vi 20 [(0, k_rf E 0), (1, .int x1), (2, .int x2), (3, .int x3), (4, .int x4)] [] σ (k20 x1 x2 x3 x4 σ)) (hk33 : ∀ (x1 : Int32) (x2 : Int32) (x3 : Int32) (x4 : Int32) (x5 : Int32)  (σ : k_Mem), k_GO m_X6_near E k_vi 33 [(0, k_rf E 0), (1, .int x1), (2, .int x2), (3, .int x3), (4, .int x4), (5, .int x5)] [] σ (k33 x1 x2 x3 x4 x5 σ)) (x1 : Int32) (x4 : Int32) (x5 : Int32) (x6 : Int32)  (σ : k_Mem) : k_GO m_X6_near E k_vi 92 [(0, k_rf E 0), (1, .int x1), (4, .int x4), (5, .int x5), (6, .int x6)] [] σ (j_X6_near_92  k20 k33 x1 x4 x5 x6 σ) := by
  unfold j_X6_near_92
  refine r_iload 4 rfl 94 rfl dX6_near_92 ?_
  refine r_istore_n [(3, .int _), (0, k_rf E 0), (1, .int _), (4, .int _), (5, .int _), (6, .int _)] rfl rfl (by decide) 95 rfl dX6_near_94 ?_
  refine r_bipush 10 (by decide) 97 rfl dX6_near_95 ?_
  refine r_iload 3 rfl 99 rfl dX6_near_97 ?_
  refine r_imul 100 rfl dX6_near_99 ?_
  refine r_iload 4 rfl 102 rfl dX6_near_100 ?_
  refine r_iadd 103 rfl dX6_near_102 ?_
  refine r_istore_n [(2, .int _), (3, .int _), (0, k_rf E 0), (1, .int _), (4, .int _), (5, .int _), (6, .int _)] rfl rfl (by decide) 104 rfl dX6_near_103 ?_
  exact r_sub [2, 3, 0, 1, 4, 5] rfl (gj_X6_near_104 E   _ _ hk20 hk33 _ _ _ _ _  _)
def l_X6_near_33  (k20 : Int32 → Int32 → Int32 → Int32 → k_Mem → Option (Int32 × k_Mem)) : Nat → Int32 → Int32 → Int32 → Int32 → Int32 → k_Mem → Option (Int32 × k_Mem)
  | 0, _, _, _, _, _, _ => none
  | n + 1, x1, x2, x3, x4, x5, σ =>
    if 8 ≤ x5 then (
      k20 x1 x2 x3 (x4 + 1) σ
    ) else (
      k_bd (f_X5_isHand 6 x4 σ) (fun r6 σ6 =>
        if r6 = 0 then (
          j_X6_near_104  k20 (fun x1 x2 x3 x4 x5 σ => l_X6_near_33  k20 n x1 x2 x3 x4 x5 σ) x1 x2 x3 x4 x5 σ6
        ) else (
          k_bd (f_X5_isHand 6 x5 σ6) (fun r8 σ8 =>
            if r8 = 0 then (
              j_X6_near_104  k20 (fun x1 x2 x3 x4 x5 σ => l_X6_near_33  k20 n x1 x2 x3 x4 x5 σ) x1 x2 x3 x4 x5 σ8
            ) else (
              k_bd (f_X5_unlike 6 x4 x5 σ8) (fun r10 σ10 =>
                if x3 = (-4) then (
                  j_X6_near_92  k20 (fun x1 x2 x3 x4 x5 σ => l_X6_near_33  k20 n x1 x2 x3 x4 x5 σ) x1 x4 x5 r10 σ10
                ) else (
                  if x3 ≤ r10 then (
                    j_X6_near_104  k20 (fun x1 x2 x3 x4 x5 σ => l_X6_near_33  k20 n x1 x2 x3 x4 x5 σ) x1 x2 x3 x4 x5 σ10
                  ) else (
                    j_X6_near_92  k20 (fun x1 x2 x3 x4 x5 σ => l_X6_near_33  k20 n x1 x2 x3 x4 x5 σ) x1 x4 x5 r10 σ10
                  )
                )
              )
            )
          )
        )
      )
    )
set_option maxRecDepth 100000 in
theorem gl_X6_near_33 (E : k_EV)   (k20 : Int32 → Int32 → Int32 → Int32 → k_Mem → Option (Int32 × k_Mem)) (hk20 : ∀ (x1 : Int32) (x2 : Int32) (x3 : Int32) (x4 : Int32)  (σ : k_Mem), k_GO m_X6_near E k_vi 20 [(0, k_rf E 0), (1, .int x1), (2, .int x2), (3, .int x3), (4, .int x4)] [] σ (k20 x1 x2 x3 x4 σ)) : ∀ (n : Nat) (x1 : Int32) (x2 : Int32) (x3 : Int32) (x4 : Int32) (x5 : Int32)  (σ : k_Mem), k_GO m_X6_near E k_vi 33 [(0, k_rf E 0), (1, .int x1), (2, .int x2), (3, .int x3), (4, .int x4), (5, .int x5)] [] σ (l_X6_near_33  k20 n x1 x2 x3 x4 x5 σ) := by
  intro n
  induction n with
  | zero => intro x1 x2 x3 x4 x5  σ; exact r_none
  | succ n ih =>
    intro x1 x2 x3 x4 x5  σ
    rw [l_X6_near_33]
    refine r_iload 5 rfl 35 rfl dX6_near_33 ?_
    refine r_bipush 8 (by decide) 37 rfl dX6_near_35 ?_
    refine r_icmp_ge 110 40 rfl (by decide) dX6_near_37 (fun c5 => ?_) (fun c5 => ?_)
    · refine r_iinc 1 (by decide) 4 rfl [(4, .int _), (0, k_rf E 0), (1, .int _), (2, .int _), (3, .int _), (5, .int _)] rfl (by decide) 113 rfl dX6_near_110 ?_
      refine r_goto 20 (by decide) dX6_near_113 ?_
      exact r_sub [1, 2, 3, 4, 0] rfl (hk20 _ _ _ _  _)
    · refine r_aload_n 0 rfl rfl 41 rfl dX6_near_40 ?_
      refine r_getr fl_X6_10 sh_0 rfl 44 rfl dX6_near_41 ?_
      refine r_iload 4 rfl 46 rfl dX6_near_44 ?_
      refine r_calli (c_X5_isHand E 6 tw_6 _ _) rfl sh_6 rfl ml_X6_113 cw_X5_isHand vw_X5_isHand (by decide) (Nat.le_of_ble_eq_true rfl) 49 rfl dX6_near_46 (fun r6 σ6 => ?_)
      refine r_if_eq 104 52 rfl (by decide) dX6_near_49 (fun c7 => ?_) (fun c7 => ?_)
      · exact r_sub [0, 1, 2, 3, 4, 5] rfl (gj_X6_near_104 E   _ _ hk20 (fun x1 x2 x3 x4 x5  σ => ih x1 x2 x3 x4 x5  σ) _ _ _ _ _  _)
      · refine r_aload_n 0 rfl rfl 53 rfl dX6_near_52 ?_
        refine r_getr fl_X6_10 sh_0 rfl 56 rfl dX6_near_53 ?_
        refine r_iload 5 rfl 58 rfl dX6_near_56 ?_
        refine r_calli (c_X5_isHand E 6 tw_6 _ _) rfl sh_6 rfl ml_X6_113 cw_X5_isHand vw_X5_isHand (by decide) (Nat.le_of_ble_eq_true rfl) 61 rfl dX6_near_58 (fun r8 σ8 => ?_)
        refine r_if_ne 67 64 rfl (by decide) dX6_near_61 (fun c9 => ?_) (fun c9 => ?_)
        · refine r_goto 104 (by decide) dX6_near_64 ?_
          exact r_sub [0, 1, 2, 3, 4, 5] rfl (gj_X6_near_104 E   _ _ hk20 (fun x1 x2 x3 x4 x5  σ => ih x1 x2 x3 x4 x5  σ) _ _ _ _ _  _)
        · refine r_aload_n 0 rfl rfl 68 rfl dX6_near_67 ?_
          refine r_getr fl_X6_10 sh_0 rfl 71 rfl dX6_near_68 ?_
          refine r_iload 4 rfl 73 rfl dX6_near_71 ?_
          refine r_iload 5 rfl 75 rfl dX6_near_73 ?_
          refine r_calli (c_X5_unlike E 6 tw_6 _ _ _) rfl sh_6 rfl ml_X6_249 cw_X5_unlike vw_X5_unlike (by decide) (Nat.le_of_ble_eq_true rfl) 78 rfl dX6_near_75 (fun r10 σ10 => ?_)
          refine r_istore [(6, .int _), (0, k_rf E 0), (1, .int _), (2, .int _), (3, .int _), (4, .int _), (5, .int _)] rfl (by decide) 80 rfl dX6_near_78 ?_
          refine r_iload_n 4 rfl rfl 81 rfl dX6_near_80 ?_
          refine r_bipush (-4) (by decide) 83 rfl dX6_near_81 ?_
          refine r_icmp_eq 92 86 rfl (by decide) dX6_near_83 (fun c11 => ?_) (fun c11 => ?_)
          · exact r_sub [1, 2, 5, 6, 0] rfl (gj_X6_near_92 E   _ _ hk20 (fun x1 x2 x3 x4 x5  σ => ih x1 x2 x3 x4 x5  σ) _ _ _ _  _)
          · refine r_iload 0 rfl 88 rfl dX6_near_86 ?_
            refine r_iload_n 4 rfl rfl 89 rfl dX6_near_88 ?_
            refine r_icmp_ge 104 92 rfl (by decide) dX6_near_89 (fun c12 => ?_) (fun c12 => ?_)
            · exact r_sub [1, 2, 3, 4, 5, 6] rfl (gj_X6_near_104 E   _ _ hk20 (fun x1 x2 x3 x4 x5  σ => ih x1 x2 x3 x4 x5  σ) _ _ _ _ _  _)
            · exact r_sub [1, 2, 5, 6, 0] rfl (gj_X6_near_92 E   _ _ hk20 (fun x1 x2 x3 x4 x5  σ => ih x1 x2 x3 x4 x5  σ) _ _ _ _  _)
def l_X6_near_20   : Nat → Int32 → Int32 → Int32 → Int32 → k_Mem → Option (Int32 × k_Mem)
  | 0, _, _, _, _, _ => none
  | n + 1, x1, x2, x3, x4, σ =>
    if 8 ≤ x4 then (
      if x1 = 0 then (
        some (x2, σ)
      ) else (
        some (x3, σ)
      )
    ) else (
      l_X6_near_33  (fun x1 x2 x3 x4 σ => l_X6_near_20   n x1 x2 x3 x4 σ) 1000 x1 x2 x3 x4 (x4 + 1) σ
    )
set_option maxRecDepth 100000 in
theorem gl_X6_near_20 (E : k_EV)     : ∀ (n : Nat) (x1 : Int32) (x2 : Int32) (x3 : Int32) (x4 : Int32)  (σ : k_Mem), k_GO m_X6_near E k_vi 20 [(0, k_rf E 0), (1, .int x1), (2, .int x2), (3, .int x3), (4, .int x4)] [] σ (l_X6_near_20   n x1 x2 x3 x4 σ) := by
  intro n
  induction n with
  | zero => intro x1 x2 x3 x4  σ; exact r_none
  | succ n ih =>
    intro x1 x2 x3 x4  σ
    rw [l_X6_near_20]
    refine r_iload 4 rfl 22 rfl dX6_near_20 ?_
    refine r_bipush 8 (by decide) 24 rfl dX6_near_22 ?_
    refine r_icmp_ge 116 27 rfl (by decide) dX6_near_24 (fun c3 => ?_) (fun c3 => ?_)
    · refine r_iload_n 1 rfl rfl 117 rfl dX6_near_116 ?_
      refine r_if_ne 124 120 rfl (by decide) dX6_near_117 (fun c4 => ?_) (fun c4 => ?_)
      · refine r_iload_n 2 rfl rfl 121 rfl dX6_near_120 ?_
        refine r_goto 125 (by decide) dX6_near_121 ?_
        exact r_iret rfl dX6_near_125
      · refine r_iload_n 3 rfl rfl 125 rfl dX6_near_124 ?_
        exact r_iret rfl dX6_near_125
    · refine r_iload 4 rfl 29 rfl dX6_near_27 ?_
      refine r_iconst 1 (by decide) 30 rfl dX6_near_29 ?_
      refine r_iadd 31 rfl dX6_near_30 ?_
      refine r_istore [(5, .int _), (0, k_rf E 0), (1, .int _), (2, .int _), (3, .int _), (4, .int _)] rfl (by decide) 33 rfl dX6_near_31 ?_
      exact r_sub [1, 2, 3, 4, 5, 0] rfl (gl_X6_near_33 E   _ (fun x1 x2 x3 x4  σ => ih x1 x2 x3 x4  σ) 1000 _ _ _ _ _  _)
def f_X6_near  (x1 : Int32) (σ : k_Mem) : Option (Int32 × k_Mem) :=
  if x1 < 0 then (
    some ((-1), σ)
  ) else (
    if x1 ≤ 1 then (
      l_X6_near_20   1000 x1 (-4) (-4) 0 σ
    ) else (
      some ((-1), σ)
    )
  )
set_option maxRecDepth 100000 in
theorem c_X6_near (E : k_EV)   (x1 : Int32) (σ : k_Mem) : k_MC m_X6_near E k_vi [k_rf E 0, .int x1] σ (f_X6_near x1 σ) := by
  refine k_MC_of ⟨by decide, by decide⟩ (Nat.le_of_ble_eq_true rfl) ?_
  show k_GO _ _ _ 0 [(0, k_rf E 0), (1, .int x1)] [] σ _
  unfold f_X6_near
  refine r_iload_n 1 rfl rfl 1 rfl dX6_near_0 ?_
  refine r_if_lt 9 4 rfl (by decide) dX6_near_1 (fun c1 => ?_) (fun c1 => ?_)
  · refine r_iconst (-1) (by decide) 10 rfl dX6_near_9 ?_
    exact r_iret rfl dX6_near_10
  · refine r_iload_n 1 rfl rfl 5 rfl dX6_near_4 ?_
    refine r_iconst 1 (by decide) 6 rfl dX6_near_5 ?_
    refine r_icmp_le 11 9 rfl (by decide) dX6_near_6 (fun c2 => ?_) (fun c2 => ?_)
    · refine r_bipush (-4) (by decide) 13 rfl dX6_near_11 ?_
      refine r_istore_n [(2, .int _), (0, k_rf E 0), (1, .int _)] rfl rfl (by decide) 14 rfl dX6_near_13 ?_
      refine r_bipush (-4) (by decide) 16 rfl dX6_near_14 ?_
      refine r_istore_n [(3, .int _), (2, .int _), (0, k_rf E 0), (1, .int _)] rfl rfl (by decide) 17 rfl dX6_near_16 ?_
      refine r_iconst 0 (by decide) 18 rfl dX6_near_17 ?_
      refine r_istore [(4, .int _), (3, .int _), (2, .int _), (0, k_rf E 0), (1, .int _)] rfl (by decide) 20 rfl dX6_near_18 ?_
      exact r_sub [3, 4, 2, 1, 0] rfl (gl_X6_near_20 E     1000 _ _ _ _  _)
    · refine r_iconst (-1) (by decide) 10 rfl dX6_near_9 ?_
      exact r_iret rfl dX6_near_10
/-! HandMarket.forge(II)I -/
def j_X6_forge_145  (k44 : Int32 → Int32 → Int32 → Int32 → Int32 → Int32 → k_Mem → Option (Int32 × k_Mem)) (x1 : Int32) (x2 : Int32) (x3 : Int32) (x4 : Int32) (x5 : Int32) (x6 : Int32) (σ : k_Mem) : Option (Int32 × k_Mem) :=
  k44 x1 x2 x3 x4 x5 (x6 + 1) σ
set_option maxRecDepth 100000 in
theorem gj_X6_forge_145 (E : k_EV)   (k44 : Int32 → Int32 → Int32 → Int32 → Int32 → Int32 → k_Mem → Option (Int32 × k_Mem)) (hk44 : ∀ (x1 : Int32) (x2 : Int32) (x3 : Int32) (x4 : Int32) (x5 : Int32) (x6 : Int32)  (σ : k_Mem), k_GO m_X6_forge E k_vi 44 [(0, k_rf E 0), (1, .int x1), (2, .int x2), (3, .int x3), (4, .int x4), (5, .int x5), (6, .int x6)] [] σ (k44 x1 x2 x3 x4 x5 x6 σ)) (x1 : Int32) (x2 : Int32) (x3 : Int32) (x4 : Int32) (x5 : Int32) (x6 : Int32)  (σ : k_Mem) : k_GO m_X6_forge E k_vi 145 [(0, k_rf E 0), (1, .int x1), (2, .int x2), (3, .int x3), (4, .int x4), (5, .int x5), (6, .int x6)] [] σ (j_X6_forge_145  k44 x1 x2 x3 x4 x5 x6 σ) := by
  unfold j_X6_forge_145
  refine r_iinc 1 (by decide) 6 rfl [(6, .int _), (0, k_rf E 0), (1, .int _), (2, .int _), (3, .int _), (4, .int _), (5, .int _)] rfl (by decide) 148 rfl dX6_forge_145 ?_
  refine r_goto 44 (by decide) dX6_forge_148 ?_
  exact r_sub [1, 2, 3, 4, 5, 6, 0] rfl (hk44 _ _ _ _ _ _  _)
def j_X6_forge_134  (k44 : Int32 → Int32 → Int32 → Int32 → Int32 → Int32 → k_Mem → Option (Int32 × k_Mem)) (x1 : Int32) (x2 : Int32) (x6 : Int32) (x7 : Int32) (x8 : Int32) (σ : k_Mem) : Option (Int32 × k_Mem) :=
  j_X6_forge_145  k44 x1 x2 x6 x7 x8 x6 σ
set_option maxRecDepth 100000 in
theorem gj_X6_forge_134 (E : k_EV)   (k44 : Int32 → Int32 → Int32 → Int32 → Int32 → Int32 → k_Mem → Option (Int32 × k_Mem)) (hk44 : ∀ (x1 : Int32) (x2 : Int32) (x3 : Int32) (x4 : Int32) (x5 : Int32) (x6 : Int32)  (σ : k_Mem), k_GO m_X6_forge E k_vi 44 [(0, k_rf E 0), (1, .int x1), (2, .int x2), (3, .int x3), (4, .int x4), (5, .int x5), (6, .int x6)] [] σ (k44 x1 x2 x3 x4 x5 x6 σ)) (x1 : Int32) (x2 : Int32) (x6 : Int32) (x7 : Int32) (x8 : Int32)  (σ : k_Mem) : k_GO m_X6_forge E k_vi 134 [(0, k_rf E 0), (1, .int x1), (2, .int x2), (6, .int x6), (7, .int x7), (8, .int x8)] [] σ (j_X6_forge_134  k44 x1 x2 x6 x7 x8 σ) := by
  unfold j_X6_forge_134
  refine r_iload 3 rfl 136 rfl dX6_forge_134 ?_
  refine r_istore_n [(3, .int _), (0, k_rf E 0), (1, .int _), (2, .int _), (6, .int _), (7, .int _), (8, .int _)] rfl rfl (by decide) 137 rfl dX6_forge_136 ?_
  refine r_iload 5 rfl 139 rfl dX6_forge_137 ?_
  refine r_istore [(4, .int _), (3, .int _), (0, k_rf E 0), (1, .int _), (2, .int _), (6, .int _), (7, .int _), (8, .int _)] rfl (by decide) 141 rfl dX6_forge_139 ?_
  refine r_iload 7 rfl 143 rfl dX6_forge_141 ?_
  refine r_istore [(5, .int _), (4, .int _), (3, .int _), (0, k_rf E 0), (1, .int _), (2, .int _), (6, .int _), (7, .int _), (8, .int _)] rfl (by decide) 145 rfl dX6_forge_143 ?_
  exact r_sub [3, 4, 5, 2, 1, 0, 6] rfl (gj_X6_forge_145 E   _ hk44 _ _ _ _ _ _  _)
def j_X6_forge_120  (k44 : Int32 → Int32 → Int32 → Int32 → Int32 → Int32 → k_Mem → Option (Int32 × k_Mem)) (x1 : Int32) (x2 : Int32) (x3 : Int32) (x4 : Int32) (x5 : Int32) (x6 : Int32) (x7 : Int32) (xs0 : Int32) (σ : k_Mem) : Option (Int32 × k_Mem) :=
  if x3 = (-1) then (
    j_X6_forge_134  k44 x1 x2 x6 x7 xs0 σ
  ) else (
    if xs0 ≤ x5 then (
      j_X6_forge_145  k44 x1 x2 x3 x4 x5 x6 σ
    ) else (
      j_X6_forge_134  k44 x1 x2 x6 x7 xs0 σ
    )
  )
set_option maxRecDepth 100000 in
theorem gj_X6_forge_120 (E : k_EV)   (k44 : Int32 → Int32 → Int32 → Int32 → Int32 → Int32 → k_Mem → Option (Int32 × k_Mem)) (hk44 : ∀ (x1 : Int32) (x2 : Int32) (x3 : Int32) (x4 : Int32) (x5 : Int32) (x6 : Int32)  (σ : k_Mem), k_GO m_X6_forge E k_vi 44 [(0, k_rf E 0), (1, .int x1), (2, .int x2), (3, .int x3), (4, .int x4), (5, .int x5), (6, .int x6)] [] σ (k44 x1 x2 x3 x4 x5 x6 σ)) (x1 : Int32) (x2 : Int32) (x3 : Int32) (x4 : Int32) (x5 : Int32) (x6 : Int32) (x7 : Int32) (xs0 : Int32)  (σ : k_Mem) : k_GO m_X6_forge E k_vi 120 [(0, k_rf E 0), (1, .int x1), (2, .int x2), (3, .int x3), (4, .int x4), (5, .int x5), (6, .int x6), (7, .int x7)] [.int xs0] σ (j_X6_forge_120  k44 x1 x2 x3 x4 x5 x6 x7 xs0 σ) := by
  unfold j_X6_forge_120
  refine r_istore [(8, .int _), (0, k_rf E 0), (1, .int _), (2, .int _), (3, .int _), (4, .int _), (5, .int _), (6, .int _), (7, .int _)] rfl (by decide) 122 rfl dX6_forge_120 ?_
  refine r_iload_n 4 rfl rfl 123 rfl dX6_forge_122 ?_
  refine r_iconst (-1) (by decide) 124 rfl dX6_forge_123 ?_
  refine r_icmp_eq 134 127 rfl (by decide) dX6_forge_124 (fun c14 => ?_) (fun c14 => ?_)
  · exact r_sub [1, 2, 3, 7, 8, 0] rfl (gj_X6_forge_134 E   _ hk44 _ _ _ _ _  _)
  · refine r_iload 0 rfl 129 rfl dX6_forge_127 ?_
    refine r_iload 6 rfl 131 rfl dX6_forge_129 ?_
    refine r_icmp_le 145 134 rfl (by decide) dX6_forge_131 (fun c15 => ?_) (fun c15 => ?_)
    · exact r_sub [1, 2, 3, 4, 5, 6, 7] rfl (gj_X6_forge_145 E   _ hk44 _ _ _ _ _ _  _)
    · exact r_sub [1, 2, 3, 7, 8, 0] rfl (gj_X6_forge_134 E   _ hk44 _ _ _ _ _  _)
def l_X6_forge_44   : Nat → Int32 → Int32 → Int32 → Int32 → Int32 → Int32 → k_Mem → Option (Int32 × k_Mem)
  | 0, _, _, _, _, _, _, _ => none
  | n + 1, x1, x2, x3, x4, x5, x6, σ =>
    if 8 ≤ x6 then (
      if x2 = 0 then (
        k_bd (f_X6_orNone  x3 σ) (fun r8 σ8 =>
          some (r8, σ8)
        )
      ) else (
        k_bd (f_X6_orNone  x4 σ) (fun r9 σ9 =>
          some (r9, σ9)
        )
      )
    ) else (
      k_bd (f_X5_isHand 6 x6 σ) (fun r10 σ10 =>
        if r10 = 0 then (
          j_X6_forge_145  (fun x1 x2 x3 x4 x5 x6 σ => l_X6_forge_44   n x1 x2 x3 x4 x5 x6 σ) x1 x2 x3 x4 x5 x6 σ10
        ) else (
          if k_in x1 8 then (
            k_bd (f_X0_court 14 0 (k_mset σ10 19 (k_n x1) x6)) (fun _ σ12 =>
              if k_in x1 8 then (
                if (σ12 52 (k_n x1)) = (-1) then (
                  j_X6_forge_120  (fun x1 x2 x3 x4 x5 x6 σ => l_X6_forge_44   n x1 x2 x3 x4 x5 x6 σ) x1 x2 x3 x4 x5 x6 (σ12 52 (k_n x1)) (-1) σ12
                ) else (
                  k_bd (f_X0_liking  x1 (σ12 52 (k_n x1)) σ12) (fun r16 σ16 =>
                    j_X6_forge_120  (fun x1 x2 x3 x4 x5 x6 σ => l_X6_forge_44   n x1 x2 x3 x4 x5 x6 σ) x1 x2 x3 x4 x5 x6 (σ12 52 (k_n x1)) r16 σ16
                  )
                )
              ) else none
            )
          ) else none
        )
      )
    )
set_option maxRecDepth 100000 in
theorem gl_X6_forge_44 (E : k_EV)     : ∀ (n : Nat) (x1 : Int32) (x2 : Int32) (x3 : Int32) (x4 : Int32) (x5 : Int32) (x6 : Int32)  (σ : k_Mem), k_GO m_X6_forge E k_vi 44 [(0, k_rf E 0), (1, .int x1), (2, .int x2), (3, .int x3), (4, .int x4), (5, .int x5), (6, .int x6)] [] σ (l_X6_forge_44   n x1 x2 x3 x4 x5 x6 σ) := by
  intro n
  induction n with
  | zero => intro x1 x2 x3 x4 x5 x6  σ; exact r_none
  | succ n ih =>
    intro x1 x2 x3 x4 x5 x6  σ
    rw [l_X6_forge_44]
    refine r_iload 6 rfl 46 rfl dX6_forge_44 ?_
    refine r_bipush 8 (by decide) 48 rfl dX6_forge_46 ?_
    refine r_icmp_ge 151 51 rfl (by decide) dX6_forge_48 (fun c6 => ?_) (fun c6 => ?_)
    · refine r_iload_n 2 rfl rfl 152 rfl dX6_forge_151 ?_
      refine r_if_ne 162 155 rfl (by decide) dX6_forge_152 (fun c7 => ?_) (fun c7 => ?_)
      · refine r_iload_n 3 rfl rfl 156 rfl dX6_forge_155 ?_
        refine r_callsi (c_X6_orNone E   _ _) rfl ml_X6_134 cw_X6_orNone sw_X6_orNone (by decide) (Nat.le_of_ble_eq_true rfl) 159 rfl dX6_forge_156 (fun r8 σ8 => ?_)
        refine r_goto 167 (by decide) dX6_forge_159 ?_
        exact r_iret rfl dX6_forge_167
      · refine r_iload 4 rfl 164 rfl dX6_forge_162 ?_
        refine r_callsi (c_X6_orNone E   _ _) rfl ml_X6_134 cw_X6_orNone sw_X6_orNone (by decide) (Nat.le_of_ble_eq_true rfl) 167 rfl dX6_forge_164 (fun r9 σ9 => ?_)
        exact r_iret rfl dX6_forge_167
    · refine r_aload_n 0 rfl rfl 52 rfl dX6_forge_51 ?_
      refine r_getr fl_X6_10 sh_0 rfl 55 rfl dX6_forge_52 ?_
      refine r_iload 6 rfl 57 rfl dX6_forge_55 ?_
      refine r_calli (c_X5_isHand E 6 tw_6 _ _) rfl sh_6 rfl ml_X6_113 cw_X5_isHand vw_X5_isHand (by decide) (Nat.le_of_ble_eq_true rfl) 60 rfl dX6_forge_57 (fun r10 σ10 => ?_)
      refine r_if_ne 66 63 rfl (by decide) dX6_forge_60 (fun c11 => ?_) (fun c11 => ?_)
      · refine r_goto 145 (by decide) dX6_forge_63 ?_
        exact r_sub [0, 1, 2, 3, 4, 5, 6] rfl (gj_X6_forge_145 E   _ (fun x1 x2 x3 x4 x5 x6  σ => ih x1 x2 x3 x4 x5 x6  σ) _ _ _ _ _ _  _)
      · refine r_aload_n 0 rfl rfl 67 rfl dX6_forge_66 ?_
        refine r_getr fl_X6_16 sh_0 rfl 70 rfl dX6_forge_67 ?_
        refine r_getr fl_X6_128 sh_14 rfl 73 rfl dX6_forge_70 ?_
        refine r_iload_n 1 rfl rfl 74 rfl dX6_forge_73 ?_
        refine r_iload 6 rfl 76 rfl dX6_forge_74 ?_
        refine r_iast sh_19 77 rfl dX6_forge_76 ?_
        refine r_aload_n 0 rfl rfl 78 rfl dX6_forge_77 ?_
        refine r_getr fl_X6_44 sh_0 rfl 81 rfl dX6_forge_78 ?_
        refine r_aload_n 0 rfl rfl 82 rfl dX6_forge_81 ?_
        refine r_getr fl_X6_16 sh_0 rfl 85 rfl dX6_forge_82 ?_
        refine r_iconst 0 (by decide) 86 rfl dX6_forge_85 ?_
        refine r_callv (c_X0_court E 14 tw_14 _ _) rfl sh_46 rfl ml_X6_201 cw_X0_court vw_X0_court (by decide) (Nat.le_of_ble_eq_true rfl) 89 rfl dX6_forge_86 (fun _ σ12 => ?_)
        refine r_aload_n 0 rfl rfl 90 rfl dX6_forge_89 ?_
        refine r_getr fl_X6_44 sh_0 rfl 93 rfl dX6_forge_90 ?_
        refine r_getr fl_X6_205 sh_46 rfl 96 rfl dX6_forge_93 ?_
        refine r_iload_n 1 rfl rfl 97 rfl dX6_forge_96 ?_
        refine r_iald sh_52 98 rfl dX6_forge_97 ?_
        refine r_istore [(7, .int _), (0, k_rf E 0), (1, .int _), (2, .int _), (3, .int _), (4, .int _), (5, .int _), (6, .int _)] rfl (by decide) 100 rfl dX6_forge_98 ?_
        refine r_iload 0 rfl 102 rfl dX6_forge_100 ?_
        refine r_iconst (-1) (by decide) 103 rfl dX6_forge_102 ?_
        refine r_icmp_ne 110 106 rfl (by decide) dX6_forge_103 (fun c13 => ?_) (fun c13 => ?_)
        · refine r_iconst (-1) (by decide) 107 rfl dX6_forge_106 ?_
          refine r_goto 120 (by decide) dX6_forge_107 ?_
          exact r_sub [1, 2, 3, 4, 5, 6, 7, 0] rfl (gj_X6_forge_120 E   _ (fun x1 x2 x3 x4 x5 x6  σ => ih x1 x2 x3 x4 x5 x6  σ) _ _ _ _ _ _ _ _  _)
        · refine r_aload_n 1 rfl rfl 111 rfl dX6_forge_110 ?_
          refine r_getr fl_X6_44 sh_0 rfl 114 rfl dX6_forge_111 ?_
          refine r_iload_n 2 rfl rfl 115 rfl dX6_forge_114 ?_
          refine r_iload 0 rfl 117 rfl dX6_forge_115 ?_
          refine r_calli (c_X0_liking E   _ _ _) rfl sh_46 rfl ml_X6_155 cw_X0_liking vw_X0_liking (by decide) (Nat.le_of_ble_eq_true rfl) 120 rfl dX6_forge_117 (fun r16 σ16 => ?_)
          exact r_sub [1, 2, 3, 4, 5, 6, 7, 0] rfl (gj_X6_forge_120 E   _ (fun x1 x2 x3 x4 x5 x6  σ => ih x1 x2 x3 x4 x5 x6  σ) _ _ _ _ _ _ _ _  _)
def f_X6_forge  (x1 : Int32) (x2 : Int32) (σ : k_Mem) : Option (Int32 × k_Mem) :=
  k_bd (f_X5_isHand 6 x1 σ) (fun r1 σ1 =>
    if r1 = 0 then (
      some ((-1), σ1)
    ) else (
      if x2 < 0 then (
        some ((-1), σ1)
      ) else (
        if x2 ≤ 1 then (
          k_bd (f_X5_become 14 6  σ1) (fun _ σ5 =>
            l_X6_forge_44   1000 x1 x2 (-1) (-1) 0 0 σ5
          )
        ) else (
          some ((-1), σ1)
        )
      )
    )
  )
set_option maxRecDepth 100000 in
theorem c_X6_forge (E : k_EV)   (x1 : Int32) (x2 : Int32) (σ : k_Mem) : k_MC m_X6_forge E k_vi [k_rf E 0, .int x1, .int x2] σ (f_X6_forge x1 x2 σ) := by
  refine k_MC_of ⟨by decide, by decide⟩ (Nat.le_of_ble_eq_true rfl) ?_
  show k_GO _ _ _ 0 [(0, k_rf E 0), (1, .int x1), (2, .int x2)] [] σ _
  unfold f_X6_forge
  refine r_aload_n 0 rfl rfl 1 rfl dX6_forge_0 ?_
  refine r_getr fl_X6_10 sh_0 rfl 4 rfl dX6_forge_1 ?_
  refine r_iload_n 1 rfl rfl 5 rfl dX6_forge_4 ?_
  refine r_calli (c_X5_isHand E 6 tw_6 _ _) rfl sh_6 rfl ml_X6_113 cw_X5_isHand vw_X5_isHand (by decide) (Nat.le_of_ble_eq_true rfl) 8 rfl dX6_forge_5 (fun r1 σ1 => ?_)
  refine r_if_eq 20 11 rfl (by decide) dX6_forge_8 (fun c2 => ?_) (fun c2 => ?_)
  · refine r_iconst (-1) (by decide) 21 rfl dX6_forge_20 ?_
    exact r_iret rfl dX6_forge_21
  · refine r_iload_n 2 rfl rfl 12 rfl dX6_forge_11 ?_
    refine r_if_lt 20 15 rfl (by decide) dX6_forge_12 (fun c3 => ?_) (fun c3 => ?_)
    · refine r_iconst (-1) (by decide) 21 rfl dX6_forge_20 ?_
      exact r_iret rfl dX6_forge_21
    · refine r_iload_n 2 rfl rfl 16 rfl dX6_forge_15 ?_
      refine r_iconst 1 (by decide) 17 rfl dX6_forge_16 ?_
      refine r_icmp_le 22 20 rfl (by decide) dX6_forge_17 (fun c4 => ?_) (fun c4 => ?_)
      · refine r_aload_n 0 rfl rfl 23 rfl dX6_forge_22 ?_
        refine r_getr fl_X6_16 sh_0 rfl 26 rfl dX6_forge_23 ?_
        refine r_aload_n 0 rfl rfl 27 rfl dX6_forge_26 ?_
        refine r_getr fl_X6_10 sh_0 rfl 30 rfl dX6_forge_27 ?_
        refine r_callv (c_X5_become E 14 6 tw_14 tw_6  _) rfl sh_14 rfl ml_X6_86 cw_X5_become vw_X5_become (by decide) (Nat.le_of_ble_eq_true rfl) 33 rfl dX6_forge_30 (fun _ σ5 => ?_)
        refine r_iconst (-1) (by decide) 34 rfl dX6_forge_33 ?_
        refine r_istore_n [(3, .int _), (0, k_rf E 0), (1, .int _), (2, .int _)] rfl rfl (by decide) 35 rfl dX6_forge_34 ?_
        refine r_iconst (-1) (by decide) 36 rfl dX6_forge_35 ?_
        refine r_istore [(4, .int _), (3, .int _), (0, k_rf E 0), (1, .int _), (2, .int _)] rfl (by decide) 38 rfl dX6_forge_36 ?_
        refine r_iconst 0 (by decide) 39 rfl dX6_forge_38 ?_
        refine r_istore [(5, .int _), (4, .int _), (3, .int _), (0, k_rf E 0), (1, .int _), (2, .int _)] rfl (by decide) 41 rfl dX6_forge_39 ?_
        refine r_iconst 0 (by decide) 42 rfl dX6_forge_41 ?_
        refine r_istore [(6, .int _), (5, .int _), (4, .int _), (3, .int _), (0, k_rf E 0), (1, .int _), (2, .int _)] rfl (by decide) 44 rfl dX6_forge_42 ?_
        exact r_sub [4, 5, 6, 3, 2, 1, 0] rfl (gl_X6_forge_44 E     1000 _ _ _ _ _ _  _)
      · refine r_iconst (-1) (by decide) 21 rfl dX6_forge_20 ?_
        exact r_iret rfl dX6_forge_21
/-! HandMarket.likesIfSwapped(II)I -/
def f_X6_likesIfSwapped  (x1 : Int32) (x2 : Int32) (σ : k_Mem) : Option (Int32 × k_Mem) :=
  k_bd (f_X5_swapPens 14 x1 x2 σ) (fun _ σ1 =>
    k_bd (f_X0_court 14 0 σ1) (fun _ σ2 =>
      k_bd (f_X5_swapPens 14 x1 x2 σ2) (fun _ σ3 =>
        k_bd (f_X0_allLikes   σ3) (fun r4 σ4 =>
          some (r4, σ4)
        )
      )
    )
  )
set_option maxRecDepth 100000 in
theorem c_X6_likesIfSwapped (E : k_EV)   (x1 : Int32) (x2 : Int32) (σ : k_Mem) : k_MC m_X6_likesIfSwapped E k_vi [k_rf E 0, .int x1, .int x2] σ (f_X6_likesIfSwapped x1 x2 σ) := by
  refine k_MC_of ⟨by decide, by decide⟩ (Nat.le_of_ble_eq_true rfl) ?_
  show k_GO _ _ _ 0 [(0, k_rf E 0), (1, .int x1), (2, .int x2)] [] σ _
  unfold f_X6_likesIfSwapped
  refine r_aload_n 0 rfl rfl 1 rfl dX6_likesIfSwapped_0 ?_
  refine r_getr fl_X6_16 sh_0 rfl 4 rfl dX6_likesIfSwapped_1 ?_
  refine r_iload_n 1 rfl rfl 5 rfl dX6_likesIfSwapped_4 ?_
  refine r_iload_n 2 rfl rfl 6 rfl dX6_likesIfSwapped_5 ?_
  refine r_callv (c_X5_swapPens E 14 tw_14 _ _ _) rfl sh_14 rfl ml_X6_335 cw_X5_swapPens vw_X5_swapPens (by decide) (Nat.le_of_ble_eq_true rfl) 9 rfl dX6_likesIfSwapped_6 (fun _ σ1 => ?_)
  refine r_aload_n 0 rfl rfl 10 rfl dX6_likesIfSwapped_9 ?_
  refine r_getr fl_X6_44 sh_0 rfl 13 rfl dX6_likesIfSwapped_10 ?_
  refine r_aload_n 0 rfl rfl 14 rfl dX6_likesIfSwapped_13 ?_
  refine r_getr fl_X6_16 sh_0 rfl 17 rfl dX6_likesIfSwapped_14 ?_
  refine r_iconst 0 (by decide) 18 rfl dX6_likesIfSwapped_17 ?_
  refine r_callv (c_X0_court E 14 tw_14 _ _) rfl sh_46 rfl ml_X6_201 cw_X0_court vw_X0_court (by decide) (Nat.le_of_ble_eq_true rfl) 21 rfl dX6_likesIfSwapped_18 (fun _ σ2 => ?_)
  refine r_aload_n 0 rfl rfl 22 rfl dX6_likesIfSwapped_21 ?_
  refine r_getr fl_X6_16 sh_0 rfl 25 rfl dX6_likesIfSwapped_22 ?_
  refine r_iload_n 1 rfl rfl 26 rfl dX6_likesIfSwapped_25 ?_
  refine r_iload_n 2 rfl rfl 27 rfl dX6_likesIfSwapped_26 ?_
  refine r_callv (c_X5_swapPens E 14 tw_14 _ _ _) rfl sh_14 rfl ml_X6_335 cw_X5_swapPens vw_X5_swapPens (by decide) (Nat.le_of_ble_eq_true rfl) 30 rfl dX6_likesIfSwapped_27 (fun _ σ3 => ?_)
  refine r_aload_n 0 rfl rfl 31 rfl dX6_likesIfSwapped_30 ?_
  refine r_getr fl_X6_44 sh_0 rfl 34 rfl dX6_likesIfSwapped_31 ?_
  refine r_calli (c_X0_allLikes E    _) rfl sh_46 rfl ml_X6_211 cw_X0_allLikes vw_X0_allLikes (by decide) (Nat.le_of_ble_eq_true rfl) 37 rfl dX6_likesIfSwapped_34 (fun r4 σ4 => ?_)
  exact r_iret rfl dX6_likesIfSwapped_37
/-! HandMarket.swap(I)I -/
def j_X6_swap_123  (k48 : Int32 → Int32 → Int32 → Int32 → k_Mem → Option (Int32 × k_Mem)) (k61 : Int32 → Int32 → Int32 → Int32 → Int32 → k_Mem → Option (Int32 × k_Mem)) (x1 : Int32) (x2 : Int32) (x3 : Int32) (x4 : Int32) (x5 : Int32) (σ : k_Mem) : Option (Int32 × k_Mem) :=
  k61 x1 x2 x3 x4 (x5 + 1) σ
set_option maxRecDepth 100000 in
theorem gj_X6_swap_123 (E : k_EV)   (k48 : Int32 → Int32 → Int32 → Int32 → k_Mem → Option (Int32 × k_Mem)) (k61 : Int32 → Int32 → Int32 → Int32 → Int32 → k_Mem → Option (Int32 × k_Mem)) (hk48 : ∀ (x1 : Int32) (x2 : Int32) (x3 : Int32) (x4 : Int32)  (σ : k_Mem), k_GO m_X6_swap E k_vi 48 [(0, k_rf E 0), (1, .int x1), (2, .int x2), (3, .int x3), (4, .int x4)] [] σ (k48 x1 x2 x3 x4 σ)) (hk61 : ∀ (x1 : Int32) (x2 : Int32) (x3 : Int32) (x4 : Int32) (x5 : Int32)  (σ : k_Mem), k_GO m_X6_swap E k_vi 61 [(0, k_rf E 0), (1, .int x1), (2, .int x2), (3, .int x3), (4, .int x4), (5, .int x5)] [] σ (k61 x1 x2 x3 x4 x5 σ)) (x1 : Int32) (x2 : Int32) (x3 : Int32) (x4 : Int32) (x5 : Int32)  (σ : k_Mem) : k_GO m_X6_swap E k_vi 123 [(0, k_rf E 0), (1, .int x1), (2, .int x2), (3, .int x3), (4, .int x4), (5, .int x5)] [] σ (j_X6_swap_123  k48 k61 x1 x2 x3 x4 x5 σ) := by
  unfold j_X6_swap_123
  refine r_iinc 1 (by decide) 5 rfl [(5, .int _), (0, k_rf E 0), (1, .int _), (2, .int _), (3, .int _), (4, .int _)] rfl (by decide) 126 rfl dX6_swap_123 ?_
  refine r_goto 61 (by decide) dX6_swap_126 ?_
  exact r_sub [1, 2, 3, 4, 5, 0] rfl (hk61 _ _ _ _ _  _)
def l_X6_swap_61  (k48 : Int32 → Int32 → Int32 → Int32 → k_Mem → Option (Int32 × k_Mem)) : Nat → Int32 → Int32 → Int32 → Int32 → Int32 → k_Mem → Option (Int32 × k_Mem)
  | 0, _, _, _, _, _, _ => none
  | n + 1, x1, x2, x3, x4, x5, σ =>
    if 8 ≤ x5 then (
      k48 x1 x2 x3 (x4 + 1) σ
    ) else (
      k_bd (f_X5_isHand 6 x4 σ) (fun r10 σ10 =>
        if r10 = 0 then (
          j_X6_swap_123  k48 (fun x1 x2 x3 x4 x5 σ => l_X6_swap_61  k48 n x1 x2 x3 x4 x5 σ) x1 x2 x3 x4 x5 σ10
        ) else (
          k_bd (f_X5_isHand 6 x5 σ10) (fun r12 σ12 =>
            if r12 = 0 then (
              j_X6_swap_123  k48 (fun x1 x2 x3 x4 x5 σ => l_X6_swap_61  k48 n x1 x2 x3 x4 x5 σ) x1 x2 x3 x4 x5 σ12
            ) else (
              k_bd (f_X6_likesIfSwapped  x4 x5 σ12) (fun r14 σ14 =>
                if r14 ≤ x2 then (
                  j_X6_swap_123  k48 (fun x1 x2 x3 x4 x5 σ => l_X6_swap_61  k48 n x1 x2 x3 x4 x5 σ) x1 x2 x3 x4 x5 σ14
                ) else (
                  j_X6_swap_123  k48 (fun x1 x2 x3 x4 x5 σ => l_X6_swap_61  k48 n x1 x2 x3 x4 x5 σ) x1 r14 ((10 * x4) + x5) x4 x5 σ14
                )
              )
            )
          )
        )
      )
    )
set_option maxRecDepth 100000 in
theorem gl_X6_swap_61 (E : k_EV)   (k48 : Int32 → Int32 → Int32 → Int32 → k_Mem → Option (Int32 × k_Mem)) (hk48 : ∀ (x1 : Int32) (x2 : Int32) (x3 : Int32) (x4 : Int32)  (σ : k_Mem), k_GO m_X6_swap E k_vi 48 [(0, k_rf E 0), (1, .int x1), (2, .int x2), (3, .int x3), (4, .int x4)] [] σ (k48 x1 x2 x3 x4 σ)) : ∀ (n : Nat) (x1 : Int32) (x2 : Int32) (x3 : Int32) (x4 : Int32) (x5 : Int32)  (σ : k_Mem), k_GO m_X6_swap E k_vi 61 [(0, k_rf E 0), (1, .int x1), (2, .int x2), (3, .int x3), (4, .int x4), (5, .int x5)] [] σ (l_X6_swap_61  k48 n x1 x2 x3 x4 x5 σ) := by
  intro n
  induction n with
  | zero => intro x1 x2 x3 x4 x5  σ; exact r_none
  | succ n ih =>
    intro x1 x2 x3 x4 x5  σ
    rw [l_X6_swap_61]
    refine r_iload 5 rfl 63 rfl dX6_swap_61 ?_
    refine r_bipush 8 (by decide) 65 rfl dX6_swap_63 ?_
    refine r_icmp_ge 129 68 rfl (by decide) dX6_swap_65 (fun c9 => ?_) (fun c9 => ?_)
    · refine r_iinc 1 (by decide) 4 rfl [(4, .int _), (0, k_rf E 0), (1, .int _), (2, .int _), (3, .int _), (5, .int _)] rfl (by decide) 132 rfl dX6_swap_129 ?_
      refine r_goto 48 (by decide) dX6_swap_132 ?_
      exact r_sub [1, 2, 3, 4, 0] rfl (hk48 _ _ _ _  _)
    · refine r_aload_n 0 rfl rfl 69 rfl dX6_swap_68 ?_
      refine r_getr fl_X6_10 sh_0 rfl 72 rfl dX6_swap_69 ?_
      refine r_iload 4 rfl 74 rfl dX6_swap_72 ?_
      refine r_calli (c_X5_isHand E 6 tw_6 _ _) rfl sh_6 rfl ml_X6_113 cw_X5_isHand vw_X5_isHand (by decide) (Nat.le_of_ble_eq_true rfl) 77 rfl dX6_swap_74 (fun r10 σ10 => ?_)
      refine r_if_eq 123 80 rfl (by decide) dX6_swap_77 (fun c11 => ?_) (fun c11 => ?_)
      · exact r_sub [0, 1, 2, 3, 4, 5] rfl (gj_X6_swap_123 E   _ _ hk48 (fun x1 x2 x3 x4 x5  σ => ih x1 x2 x3 x4 x5  σ) _ _ _ _ _  _)
      · refine r_aload_n 0 rfl rfl 81 rfl dX6_swap_80 ?_
        refine r_getr fl_X6_10 sh_0 rfl 84 rfl dX6_swap_81 ?_
        refine r_iload 5 rfl 86 rfl dX6_swap_84 ?_
        refine r_calli (c_X5_isHand E 6 tw_6 _ _) rfl sh_6 rfl ml_X6_113 cw_X5_isHand vw_X5_isHand (by decide) (Nat.le_of_ble_eq_true rfl) 89 rfl dX6_swap_86 (fun r12 σ12 => ?_)
        refine r_if_ne 95 92 rfl (by decide) dX6_swap_89 (fun c13 => ?_) (fun c13 => ?_)
        · refine r_goto 123 (by decide) dX6_swap_92 ?_
          exact r_sub [0, 1, 2, 3, 4, 5] rfl (gj_X6_swap_123 E   _ _ hk48 (fun x1 x2 x3 x4 x5  σ => ih x1 x2 x3 x4 x5  σ) _ _ _ _ _  _)
        · refine r_aload_n 0 rfl rfl 96 rfl dX6_swap_95 ?_
          refine r_iload 4 rfl 98 rfl dX6_swap_96 ?_
          refine r_iload 5 rfl 100 rfl dX6_swap_98 ?_
          refine r_calli (c_X6_likesIfSwapped E   _ _ _) rfl sh_0 rfl ml_X6_252 cw_X6_likesIfSwapped vw_X6_likesIfSwapped (by decide) (Nat.le_of_ble_eq_true rfl) 103 rfl dX6_swap_100 (fun r14 σ14 => ?_)
          refine r_istore [(6, .int _), (0, k_rf E 0), (1, .int _), (2, .int _), (3, .int _), (4, .int _), (5, .int _)] rfl (by decide) 105 rfl dX6_swap_103 ?_
          refine r_iload 0 rfl 107 rfl dX6_swap_105 ?_
          refine r_iload_n 3 rfl rfl 108 rfl dX6_swap_107 ?_
          refine r_icmp_le 123 111 rfl (by decide) dX6_swap_108 (fun c15 => ?_) (fun c15 => ?_)
          · exact r_sub [1, 2, 3, 4, 5, 6] rfl (gj_X6_swap_123 E   _ _ hk48 (fun x1 x2 x3 x4 x5  σ => ih x1 x2 x3 x4 x5  σ) _ _ _ _ _  _)
          · refine r_iload 0 rfl 113 rfl dX6_swap_111 ?_
            refine r_istore_n [(2, .int _), (6, .int _), (0, k_rf E 0), (1, .int _), (3, .int _), (4, .int _), (5, .int _)] rfl rfl (by decide) 114 rfl dX6_swap_113 ?_
            refine r_bipush 10 (by decide) 116 rfl dX6_swap_114 ?_
            refine r_iload 5 rfl 118 rfl dX6_swap_116 ?_
            refine r_imul 119 rfl dX6_swap_118 ?_
            refine r_iload 6 rfl 121 rfl dX6_swap_119 ?_
            refine r_iadd 122 rfl dX6_swap_121 ?_
            refine r_istore_n [(3, .int _), (2, .int _), (6, .int _), (0, k_rf E 0), (1, .int _), (4, .int _), (5, .int _)] rfl rfl (by decide) 123 rfl dX6_swap_122 ?_
            exact r_sub [3, 4, 1, 0, 5, 6] rfl (gj_X6_swap_123 E   _ _ hk48 (fun x1 x2 x3 x4 x5  σ => ih x1 x2 x3 x4 x5  σ) _ _ _ _ _  _)
def l_X6_swap_48   : Nat → Int32 → Int32 → Int32 → Int32 → k_Mem → Option (Int32 × k_Mem)
  | 0, _, _, _, _, _ => none
  | n + 1, x1, x2, x3, x4, σ =>
    if 8 ≤ x4 then (
      if x1 = 0 then (
        some (x3, σ)
      ) else (
        if x3 = (-4) then (
          some (x3, σ)
        ) else (
          some (x2, σ)
        )
      )
    ) else (
      l_X6_swap_61  (fun x1 x2 x3 x4 σ => l_X6_swap_48   n x1 x2 x3 x4 σ) 1000 x1 x2 x3 x4 (x4 + 1) σ
    )
set_option maxRecDepth 100000 in
theorem gl_X6_swap_48 (E : k_EV)     : ∀ (n : Nat) (x1 : Int32) (x2 : Int32) (x3 : Int32) (x4 : Int32)  (σ : k_Mem), k_GO m_X6_swap E k_vi 48 [(0, k_rf E 0), (1, .int x1), (2, .int x2), (3, .int x3), (4, .int x4)] [] σ (l_X6_swap_48   n x1 x2 x3 x4 σ) := by
  intro n
  induction n with
  | zero => intro x1 x2 x3 x4  σ; exact r_none
  | succ n ih =>
    intro x1 x2 x3 x4  σ
    rw [l_X6_swap_48]
    refine r_iload 4 rfl 50 rfl dX6_swap_48 ?_
    refine r_bipush 8 (by decide) 52 rfl dX6_swap_50 ?_
    refine r_icmp_ge 135 55 rfl (by decide) dX6_swap_52 (fun c6 => ?_) (fun c6 => ?_)
    · refine r_iload_n 1 rfl rfl 136 rfl dX6_swap_135 ?_
      refine r_if_eq 145 139 rfl (by decide) dX6_swap_136 (fun c7 => ?_) (fun c7 => ?_)
      · refine r_iload_n 3 rfl rfl 146 rfl dX6_swap_145 ?_
        refine r_goto 150 (by decide) dX6_swap_146 ?_
        exact r_iret rfl dX6_swap_150
      · refine r_iload_n 3 rfl rfl 140 rfl dX6_swap_139 ?_
        refine r_bipush (-4) (by decide) 142 rfl dX6_swap_140 ?_
        refine r_icmp_ne 149 145 rfl (by decide) dX6_swap_142 (fun c8 => ?_) (fun c8 => ?_)
        · refine r_iload_n 3 rfl rfl 146 rfl dX6_swap_145 ?_
          refine r_goto 150 (by decide) dX6_swap_146 ?_
          exact r_iret rfl dX6_swap_150
        · refine r_iload_n 2 rfl rfl 150 rfl dX6_swap_149 ?_
          exact r_iret rfl dX6_swap_150
    · refine r_iload 4 rfl 57 rfl dX6_swap_55 ?_
      refine r_iconst 1 (by decide) 58 rfl dX6_swap_57 ?_
      refine r_iadd 59 rfl dX6_swap_58 ?_
      refine r_istore [(5, .int _), (0, k_rf E 0), (1, .int _), (2, .int _), (3, .int _), (4, .int _)] rfl (by decide) 61 rfl dX6_swap_59 ?_
      exact r_sub [1, 2, 3, 4, 5, 0] rfl (gl_X6_swap_61 E   _ (fun x1 x2 x3 x4  σ => ih x1 x2 x3 x4  σ) 1000 _ _ _ _ _  _)
def f_X6_swap  (x1 : Int32) (σ : k_Mem) : Option (Int32 × k_Mem) :=
  if x1 < 0 then (
    some ((-1), σ)
  ) else (
    if x1 ≤ 1 then (
      k_bd (f_X5_become 14 6  σ) (fun _ σ3 =>
        k_bd (f_X0_court 14 0 σ3) (fun _ σ4 =>
          k_bd (f_X0_allLikes   σ4) (fun r5 σ5 =>
            l_X6_swap_48   1000 x1 r5 (-4) 0 σ5
          )
        )
      )
    ) else (
      some ((-1), σ)
    )
  )
set_option maxRecDepth 100000 in
theorem c_X6_swap (E : k_EV)   (x1 : Int32) (σ : k_Mem) : k_MC m_X6_swap E k_vi [k_rf E 0, .int x1] σ (f_X6_swap x1 σ) := by
  refine k_MC_of ⟨by decide, by decide⟩ (Nat.le_of_ble_eq_true rfl) ?_
  show k_GO _ _ _ 0 [(0, k_rf E 0), (1, .int x1)] [] σ _
  unfold f_X6_swap
  refine r_iload_n 1 rfl rfl 1 rfl dX6_swap_0 ?_
  refine r_if_lt 9 4 rfl (by decide) dX6_swap_1 (fun c1 => ?_) (fun c1 => ?_)
  · refine r_iconst (-1) (by decide) 10 rfl dX6_swap_9 ?_
    exact r_iret rfl dX6_swap_10
  · refine r_iload_n 1 rfl rfl 5 rfl dX6_swap_4 ?_
    refine r_iconst 1 (by decide) 6 rfl dX6_swap_5 ?_
    refine r_icmp_le 11 9 rfl (by decide) dX6_swap_6 (fun c2 => ?_) (fun c2 => ?_)
    · refine r_aload_n 0 rfl rfl 12 rfl dX6_swap_11 ?_
      refine r_getr fl_X6_16 sh_0 rfl 15 rfl dX6_swap_12 ?_
      refine r_aload_n 0 rfl rfl 16 rfl dX6_swap_15 ?_
      refine r_getr fl_X6_10 sh_0 rfl 19 rfl dX6_swap_16 ?_
      refine r_callv (c_X5_become E 14 6 tw_14 tw_6  _) rfl sh_14 rfl ml_X6_86 cw_X5_become vw_X5_become (by decide) (Nat.le_of_ble_eq_true rfl) 22 rfl dX6_swap_19 (fun _ σ3 => ?_)
      refine r_aload_n 0 rfl rfl 23 rfl dX6_swap_22 ?_
      refine r_getr fl_X6_44 sh_0 rfl 26 rfl dX6_swap_23 ?_
      refine r_aload_n 0 rfl rfl 27 rfl dX6_swap_26 ?_
      refine r_getr fl_X6_16 sh_0 rfl 30 rfl dX6_swap_27 ?_
      refine r_iconst 0 (by decide) 31 rfl dX6_swap_30 ?_
      refine r_callv (c_X0_court E 14 tw_14 _ _) rfl sh_46 rfl ml_X6_201 cw_X0_court vw_X0_court (by decide) (Nat.le_of_ble_eq_true rfl) 34 rfl dX6_swap_31 (fun _ σ4 => ?_)
      refine r_aload_n 0 rfl rfl 35 rfl dX6_swap_34 ?_
      refine r_getr fl_X6_44 sh_0 rfl 38 rfl dX6_swap_35 ?_
      refine r_calli (c_X0_allLikes E    _) rfl sh_46 rfl ml_X6_211 cw_X0_allLikes vw_X0_allLikes (by decide) (Nat.le_of_ble_eq_true rfl) 41 rfl dX6_swap_38 (fun r5 σ5 => ?_)
      refine r_istore_n [(2, .int _), (0, k_rf E 0), (1, .int _)] rfl rfl (by decide) 42 rfl dX6_swap_41 ?_
      refine r_bipush (-4) (by decide) 44 rfl dX6_swap_42 ?_
      refine r_istore_n [(3, .int _), (2, .int _), (0, k_rf E 0), (1, .int _)] rfl rfl (by decide) 45 rfl dX6_swap_44 ?_
      refine r_iconst 0 (by decide) 46 rfl dX6_swap_45 ?_
      refine r_istore [(4, .int _), (3, .int _), (2, .int _), (0, k_rf E 0), (1, .int _)] rfl (by decide) 48 rfl dX6_swap_46 ?_
      exact r_sub [3, 4, 2, 1, 0] rfl (gl_X6_swap_48 E     1000 _ _ _ _  _)
    · refine r_iconst (-1) (by decide) 10 rfl dX6_swap_9 ?_
      exact r_iret rfl dX6_swap_10
/-! HandMarket.power(II)J -/
def l_X6_power_5   : Nat → Int32 → Int32 → Int64 → Int32 → k_Mem → Option (Int64 × k_Mem)
  | 0, _, _, _, _, _ => none
  | n + 1, x0, x1, x2, x4, σ =>
    if x1 ≤ x4 then (
      some (x2, σ)
    ) else (
      l_X6_power_5   n x0 x1 (x2 * (Int32.toInt64 x0)) (x4 + 1) σ
    )
set_option maxRecDepth 100000 in
theorem gl_X6_power_5 (E : k_EV)     : ∀ (n : Nat) (x0 : Int32) (x1 : Int32) (x2 : Int64) (x4 : Int32)  (σ : k_Mem), k_GO m_X6_power E k_vl 5 [(0, .int x0), (1, .int x1), (2, .long x2), (4, .int x4)] [] σ (l_X6_power_5   n x0 x1 x2 x4 σ) := by
  intro n
  induction n with
  | zero => intro x0 x1 x2 x4  σ; exact r_none
  | succ n ih =>
    intro x0 x1 x2 x4  σ
    rw [l_X6_power_5]
    refine r_iload 3 rfl 7 rfl dX6_power_5 ?_
    refine r_iload_n 1 rfl rfl 8 rfl dX6_power_7 ?_
    refine r_icmp_ge 22 11 rfl (by decide) dX6_power_8 (fun c1 => ?_) (fun c1 => ?_)
    · refine r_lload_n 2 rfl rfl 23 rfl dX6_power_22 ?_
      exact r_lret rfl dX6_power_23
    · refine r_lload_n 2 rfl rfl 12 rfl dX6_power_11 ?_
      refine r_iload_n 0 rfl rfl 13 rfl dX6_power_12 ?_
      refine r_i2l 14 rfl dX6_power_13 ?_
      refine r_lmul 15 rfl dX6_power_14 ?_
      refine r_lstore_n [(2, .long _), (0, .int _), (1, .int _), (4, .int _)] rfl rfl (by decide) 16 rfl dX6_power_15 ?_
      refine r_iinc 1 (by decide) 3 rfl [(4, .int _), (2, .long _), (0, .int _), (1, .int _)] rfl (by decide) 19 rfl dX6_power_16 ?_
      refine r_goto 5 (by decide) dX6_power_19 ?_
      exact r_sub [2, 3, 1, 0] rfl (ih _ _ _ _  _)
def f_X6_power  (x0 : Int32) (x1 : Int32) (σ : k_Mem) : Option (Int64 × k_Mem) :=
  l_X6_power_5   1000 x0 x1 1 0 σ
set_option maxRecDepth 100000 in
theorem c_X6_power (E : k_EV)   (x0 : Int32) (x1 : Int32) (σ : k_Mem) : k_MC m_X6_power E k_vl [.int x0, .int x1] σ (f_X6_power x0 x1 σ) := by
  refine k_MC_of ⟨by decide, by decide⟩ (Nat.le_of_ble_eq_true rfl) ?_
  show k_GO _ _ _ 0 [(0, .int x0), (1, .int x1)] [] σ _
  unfold f_X6_power
  refine r_lconst 1 (by decide) 1 rfl dX6_power_0 ?_
  refine r_lstore_n [(2, .long _), (0, .int _), (1, .int _)] rfl rfl (by decide) 2 rfl dX6_power_1 ?_
  refine r_iconst 0 (by decide) 3 rfl dX6_power_2 ?_
  refine r_istore [(4, .int _), (2, .long _), (0, .int _), (1, .int _)] rfl (by decide) 5 rfl dX6_power_3 ?_
  exact r_sub [2, 3, 1, 0] rfl (gl_X6_power_5 E     1000 _ _ _ _  _)
/-! HandMarket.stolenSum(II)J -/
def j_X6_stolenSum_146  (k25 : Int32 → Int32 → Int32 → Int64 → Int32 → k_Mem → Option (Int64 × k_Mem)) (x1 : Int32) (x2 : Int32) (x3 : Int32) (x4 : Int64) (x6 : Int32) (σ : k_Mem) : Option (Int64 × k_Mem) :=
  k25 x1 x2 x3 x4 (x6 + 1) σ
set_option maxRecDepth 100000 in
theorem gj_X6_stolenSum_146 (E : k_EV)   (k25 : Int32 → Int32 → Int32 → Int64 → Int32 → k_Mem → Option (Int64 × k_Mem)) (hk25 : ∀ (x1 : Int32) (x2 : Int32) (x3 : Int32) (x4 : Int64) (x6 : Int32)  (σ : k_Mem), k_GO m_X6_stolenSum E k_vl 25 [(0, k_rf E 0), (1, .int x1), (2, .int x2), (3, .int x3), (4, .long x4), (6, .int x6)] [] σ (k25 x1 x2 x3 x4 x6 σ)) (x1 : Int32) (x2 : Int32) (x3 : Int32) (x4 : Int64) (x6 : Int32)  (σ : k_Mem) : k_GO m_X6_stolenSum E k_vl 146 [(0, k_rf E 0), (1, .int x1), (2, .int x2), (3, .int x3), (4, .long x4), (6, .int x6)] [] σ (j_X6_stolenSum_146  k25 x1 x2 x3 x4 x6 σ) := by
  unfold j_X6_stolenSum_146
  refine r_iinc 1 (by decide) 5 rfl [(6, .int _), (0, k_rf E 0), (1, .int _), (2, .int _), (3, .int _), (4, .long _)] rfl (by decide) 149 rfl dX6_stolenSum_146 ?_
  refine r_goto 25 (by decide) dX6_stolenSum_149 ?_
  exact r_sub [1, 2, 3, 4, 5, 0] rfl (hk25 _ _ _ _ _  _)
def j_X6_stolenSum_141  (k25 : Int32 → Int32 → Int32 → Int64 → Int32 → k_Mem → Option (Int64 × k_Mem)) (x1 : Int32) (x2 : Int32) (x3 : Int32) (x6 : Int32) (xs0 : Int64) (xs1 : Int64) (xs2 : Int32) (σ : k_Mem) : Option (Int64 × k_Mem) :=
  j_X6_stolenSum_146  k25 x1 x2 x3 (xs0 + (xs1 * (Int32.toInt64 xs2))) x6 σ
set_option maxRecDepth 100000 in
theorem gj_X6_stolenSum_141 (E : k_EV)   (k25 : Int32 → Int32 → Int32 → Int64 → Int32 → k_Mem → Option (Int64 × k_Mem)) (hk25 : ∀ (x1 : Int32) (x2 : Int32) (x3 : Int32) (x4 : Int64) (x6 : Int32)  (σ : k_Mem), k_GO m_X6_stolenSum E k_vl 25 [(0, k_rf E 0), (1, .int x1), (2, .int x2), (3, .int x3), (4, .long x4), (6, .int x6)] [] σ (k25 x1 x2 x3 x4 x6 σ)) (x1 : Int32) (x2 : Int32) (x3 : Int32) (x6 : Int32) (xs0 : Int64) (xs1 : Int64) (xs2 : Int32)  (σ : k_Mem) : k_GO m_X6_stolenSum E k_vl 141 [(0, k_rf E 0), (1, .int x1), (2, .int x2), (3, .int x3), (6, .int x6)] [.int xs2, .long xs1, .long xs0] σ (j_X6_stolenSum_141  k25 x1 x2 x3 x6 xs0 xs1 xs2 σ) := by
  unfold j_X6_stolenSum_141
  refine r_i2l 142 rfl dX6_stolenSum_141 ?_
  refine r_lmul 143 rfl dX6_stolenSum_142 ?_
  refine r_ladd 144 rfl dX6_stolenSum_143 ?_
  refine r_lstore [(4, .long _), (0, k_rf E 0), (1, .int _), (2, .int _), (3, .int _), (6, .int _)] rfl (by decide) 146 rfl dX6_stolenSum_144 ?_
  exact r_sub [1, 2, 3, 4, 0, 5] rfl (gj_X6_stolenSum_146 E   _ hk25 _ _ _ _ _  _)
def l_X6_stolenSum_25   : Nat → Int32 → Int32 → Int32 → Int64 → Int32 → k_Mem → Option (Int64 × k_Mem)
  | 0, _, _, _, _, _, _ => none
  | n + 1, x1, x2, x3, x4, x6, σ =>
    if 256 ≤ x6 then (
      some (x4, σ)
    ) else (
      if (x6 &&& (x3 ^^^ (-1))) = 0 then (
        k_bd (f_J6_bitCount_0f7a4  x6 σ) (fun r4 σ4 =>
          k_bd (f_X6_power  x1 r4 σ4) (fun r5 σ5 =>
            k_bd (f_X5_size 6  σ5) (fun r6 σ6 =>
              k_bd (f_X6_power  (10 - x1) (r6 - r4) σ6) (fun r7 σ7 =>
                if (lg_cmp (r5 * r7) 0) ≤ 0 then (
                  j_X6_stolenSum_146  (fun x1 x2 x3 x4 x6 σ => l_X6_stolenSum_25   n x1 x2 x3 x4 x6 σ) x1 x2 x3 x4 x6 σ7
                ) else (
                  k_bd (f_X0_ask  ((x3 &&& (x6 ^^^ (-1))) &&& 15) ((x3 &&& (x6 ^^^ (-1))) &&& 240) σ7) (fun _ σ9 =>
                    if x2 = (-1) then (
                      k_bd (f_X0_pairs   σ9) (fun r11 σ11 =>
                        j_X6_stolenSum_141  (fun x1 x2 x3 x4 x6 σ => l_X6_stolenSum_25   n x1 x2 x3 x4 x6 σ) x1 x2 x3 x6 x4 (r5 * r7) r11 σ11
                      )
                    ) else (
                      k_bd (f_X0_matedBits   σ9) (fun r12 σ12 =>
                        j_X6_stolenSum_141  (fun x1 x2 x3 x4 x6 σ => l_X6_stolenSum_25   n x1 x2 x3 x4 x6 σ) x1 x2 x3 x6 x4 (r5 * r7) ((k_shr r12 x2) &&& 1) σ12
                      )
                    )
                  )
                )
              )
            )
          )
        )
      ) else (
        j_X6_stolenSum_146  (fun x1 x2 x3 x4 x6 σ => l_X6_stolenSum_25   n x1 x2 x3 x4 x6 σ) x1 x2 x3 x4 x6 σ
      )
    )
set_option maxRecDepth 100000 in
theorem gl_X6_stolenSum_25 (E : k_EV)     : ∀ (n : Nat) (x1 : Int32) (x2 : Int32) (x3 : Int32) (x4 : Int64) (x6 : Int32)  (σ : k_Mem), k_GO m_X6_stolenSum E k_vl 25 [(0, k_rf E 0), (1, .int x1), (2, .int x2), (3, .int x3), (4, .long x4), (6, .int x6)] [] σ (l_X6_stolenSum_25   n x1 x2 x3 x4 x6 σ) := by
  intro n
  induction n with
  | zero => intro x1 x2 x3 x4 x6  σ; exact r_none
  | succ n ih =>
    intro x1 x2 x3 x4 x6  σ
    rw [l_X6_stolenSum_25]
    refine r_iload 5 rfl 27 rfl dX6_stolenSum_25 ?_
    refine r_sipush 256 (by decide) 30 rfl dX6_stolenSum_27 ?_
    refine r_icmp_ge 152 33 rfl (by decide) dX6_stolenSum_30 (fun c2 => ?_) (fun c2 => ?_)
    · refine r_lload 4 rfl 154 rfl dX6_stolenSum_152 ?_
      exact r_lret rfl dX6_stolenSum_154
    · refine r_iload 5 rfl 35 rfl dX6_stolenSum_33 ?_
      refine r_iload_n 3 rfl rfl 36 rfl dX6_stolenSum_35 ?_
      refine r_iconst (-1) (by decide) 37 rfl dX6_stolenSum_36 ?_
      refine r_ixor 38 rfl dX6_stolenSum_37 ?_
      refine r_iand 39 rfl dX6_stolenSum_38 ?_
      refine r_if_eq 45 42 rfl (by decide) dX6_stolenSum_39 (fun c3 => ?_) (fun c3 => ?_)
      · refine r_iload 5 rfl 47 rfl dX6_stolenSum_45 ?_
        refine r_callsi (c_J6_bitCount_0f7a4 E   _ _) rfl ml_X6_277 cw_J6_bitCount_0f7a4 sw_J6_bitCount_0f7a4 (by decide) (Nat.le_of_ble_eq_true rfl) 50 rfl dX6_stolenSum_47 (fun r4 σ4 => ?_)
        refine r_istore [(7, .int _), (0, k_rf E 0), (1, .int _), (2, .int _), (3, .int _), (4, .long _), (6, .int _)] rfl (by decide) 52 rfl dX6_stolenSum_50 ?_
        refine r_iload_n 2 rfl rfl 53 rfl dX6_stolenSum_52 ?_
        refine r_iload 0 rfl 55 rfl dX6_stolenSum_53 ?_
        refine r_callsl (c_X6_power E   _ _ _) rfl ml_X6_263 cw_X6_power sw_X6_power (by decide) (Nat.le_of_ble_eq_true rfl) 58 rfl dX6_stolenSum_55 (fun r5 σ5 => ?_)
        refine r_bipush 10 (by decide) 60 rfl dX6_stolenSum_58 ?_
        refine r_iload_n 2 rfl rfl 61 rfl dX6_stolenSum_60 ?_
        refine r_isub 62 rfl dX6_stolenSum_61 ?_
        refine r_aload_n 1 rfl rfl 63 rfl dX6_stolenSum_62 ?_
        refine r_getr fl_X6_10 sh_0 rfl 66 rfl dX6_stolenSum_63 ?_
        refine r_calli (c_X5_size E 6 tw_6  _) rfl sh_6 rfl ml_X6_261 cw_X5_size vw_X5_size (by decide) (Nat.le_of_ble_eq_true rfl) 69 rfl dX6_stolenSum_66 (fun r6 σ6 => ?_)
        refine r_iload 0 rfl 71 rfl dX6_stolenSum_69 ?_
        refine r_isub 72 rfl dX6_stolenSum_71 ?_
        refine r_callsl (c_X6_power E   _ _ _) rfl ml_X6_263 cw_X6_power sw_X6_power (by decide) (Nat.le_of_ble_eq_true rfl) 75 rfl dX6_stolenSum_72 (fun r7 σ7 => ?_)
        refine r_lmul 76 rfl dX6_stolenSum_75 ?_
        refine r_lstore [(8, .long _), (7, .int _), (0, k_rf E 0), (1, .int _), (2, .int _), (3, .int _), (4, .long _), (6, .int _)] rfl (by decide) 78 rfl dX6_stolenSum_76 ?_
        refine r_lload 0 rfl 80 rfl dX6_stolenSum_78 ?_
        refine r_lconst 0 (by decide) 81 rfl dX6_stolenSum_80 ?_
        refine r_lcmp 82 rfl dX6_stolenSum_81 ?_
        refine r_if_le 146 85 rfl (by decide) dX6_stolenSum_82 (fun c8 => ?_) (fun c8 => ?_)
        · exact r_sub [2, 3, 4, 5, 6, 7] rfl (gj_X6_stolenSum_146 E   _ (fun x1 x2 x3 x4 x6  σ => ih x1 x2 x3 x4 x6  σ) _ _ _ _ _  _)
        · refine r_aload_n 2 rfl rfl 86 rfl dX6_stolenSum_85 ?_
          refine r_getr fl_X6_44 sh_0 rfl 89 rfl dX6_stolenSum_86 ?_
          refine r_iload_n 5 rfl rfl 90 rfl dX6_stolenSum_89 ?_
          refine r_iload 7 rfl 92 rfl dX6_stolenSum_90 ?_
          refine r_iconst (-1) (by decide) 93 rfl dX6_stolenSum_92 ?_
          refine r_ixor 94 rfl dX6_stolenSum_93 ?_
          refine r_iand 95 rfl dX6_stolenSum_94 ?_
          refine r_bipush 15 (by decide) 97 rfl dX6_stolenSum_95 ?_
          refine r_iand 98 rfl dX6_stolenSum_97 ?_
          refine r_iload_n 5 rfl rfl 99 rfl dX6_stolenSum_98 ?_
          refine r_iload 7 rfl 101 rfl dX6_stolenSum_99 ?_
          refine r_iconst (-1) (by decide) 102 rfl dX6_stolenSum_101 ?_
          refine r_ixor 103 rfl dX6_stolenSum_102 ?_
          refine r_iand 104 rfl dX6_stolenSum_103 ?_
          refine r_sipush 240 (by decide) 107 rfl dX6_stolenSum_104 ?_
          refine r_iand 108 rfl dX6_stolenSum_107 ?_
          refine r_callv (c_X0_ask E   _ _ _) rfl sh_46 rfl ml_X6_338 cw_X0_ask vw_X0_ask (by decide) (Nat.le_of_ble_eq_true rfl) 111 rfl dX6_stolenSum_108 (fun _ σ9 => ?_)
          refine r_lload 6 rfl 113 rfl dX6_stolenSum_111 ?_
          refine r_lload 0 rfl 115 rfl dX6_stolenSum_113 ?_
          refine r_iload_n 4 rfl rfl 116 rfl dX6_stolenSum_115 ?_
          refine r_iconst (-1) (by decide) 117 rfl dX6_stolenSum_116 ?_
          refine r_icmp_ne 130 120 rfl (by decide) dX6_stolenSum_117 (fun c10 => ?_) (fun c10 => ?_)
          · refine r_aload_n 2 rfl rfl 121 rfl dX6_stolenSum_120 ?_
            refine r_getr fl_X6_44 sh_0 rfl 124 rfl dX6_stolenSum_121 ?_
            refine r_calli (c_X0_pairs E    _) rfl sh_46 rfl ml_X6_208 cw_X0_pairs vw_X0_pairs (by decide) (Nat.le_of_ble_eq_true rfl) 127 rfl dX6_stolenSum_124 (fun r11 σ11 => ?_)
            refine r_goto 141 (by decide) dX6_stolenSum_127 ?_
            exact r_sub [2, 3, 4, 5, 7] rfl (gj_X6_stolenSum_141 E   _ (fun x1 x2 x3 x4 x6  σ => ih x1 x2 x3 x4 x6  σ) _ _ _ _ _ _ _  _)
          · refine r_aload_n 2 rfl rfl 131 rfl dX6_stolenSum_130 ?_
            refine r_getr fl_X6_44 sh_0 rfl 134 rfl dX6_stolenSum_131 ?_
            refine r_calli (c_X0_matedBits E    _) rfl sh_46 rfl ml_X6_239 cw_X0_matedBits vw_X0_matedBits (by decide) (Nat.le_of_ble_eq_true rfl) 137 rfl dX6_stolenSum_134 (fun r12 σ12 => ?_)
            refine r_iload_n 4 rfl rfl 138 rfl dX6_stolenSum_137 ?_
            refine r_ishr 139 rfl dX6_stolenSum_138 ?_
            refine r_iconst 1 (by decide) 140 rfl dX6_stolenSum_139 ?_
            refine r_iand 141 rfl dX6_stolenSum_140 ?_
            exact r_sub [2, 3, 4, 5, 7] rfl (gj_X6_stolenSum_141 E   _ (fun x1 x2 x3 x4 x6  σ => ih x1 x2 x3 x4 x6  σ) _ _ _ _ _ _ _  _)
      · refine r_goto 146 (by decide) dX6_stolenSum_42 ?_
        exact r_sub [0, 1, 2, 3, 4, 5] rfl (gj_X6_stolenSum_146 E   _ (fun x1 x2 x3 x4 x6  σ => ih x1 x2 x3 x4 x6  σ) _ _ _ _ _  _)
def f_X6_stolenSum  (x1 : Int32) (x2 : Int32) (σ : k_Mem) : Option (Int64 × k_Mem) :=
  k_bd (f_X0_weigh 6  σ) (fun _ σ1 =>
    l_X6_stolenSum_25   1000 x1 x2 (σ1 46 8) 0 0 σ1
  )
set_option maxRecDepth 100000 in
theorem c_X6_stolenSum (E : k_EV)   (x1 : Int32) (x2 : Int32) (σ : k_Mem) : k_MC m_X6_stolenSum E k_vl [k_rf E 0, .int x1, .int x2] σ (f_X6_stolenSum x1 x2 σ) := by
  refine k_MC_of ⟨by decide, by decide⟩ (Nat.le_of_ble_eq_true rfl) ?_
  show k_GO _ _ _ 0 [(0, k_rf E 0), (1, .int x1), (2, .int x2)] [] σ _
  unfold f_X6_stolenSum
  refine r_aload_n 0 rfl rfl 1 rfl dX6_stolenSum_0 ?_
  refine r_getr fl_X6_44 sh_0 rfl 4 rfl dX6_stolenSum_1 ?_
  refine r_aload_n 0 rfl rfl 5 rfl dX6_stolenSum_4 ?_
  refine r_getr fl_X6_10 sh_0 rfl 8 rfl dX6_stolenSum_5 ?_
  refine r_callv (c_X0_weigh E 6 tw_6  _) rfl sh_46 rfl ml_X6_152 cw_X0_weigh vw_X0_weigh (by decide) (Nat.le_of_ble_eq_true rfl) 11 rfl dX6_stolenSum_8 (fun _ σ1 => ?_)
  refine r_aload_n 0 rfl rfl 12 rfl dX6_stolenSum_11 ?_
  refine r_getr fl_X6_44 sh_0 rfl 15 rfl dX6_stolenSum_12 ?_
  refine r_geti fl_X6_236 sh_46 rfl 18 rfl dX6_stolenSum_15 ?_
  refine r_istore_n [(3, .int _), (0, k_rf E 0), (1, .int _), (2, .int _)] rfl rfl (by decide) 19 rfl dX6_stolenSum_18 ?_
  refine r_lconst 0 (by decide) 20 rfl dX6_stolenSum_19 ?_
  refine r_lstore [(4, .long _), (3, .int _), (0, k_rf E 0), (1, .int _), (2, .int _)] rfl (by decide) 22 rfl dX6_stolenSum_20 ?_
  refine r_iconst 0 (by decide) 23 rfl dX6_stolenSum_22 ?_
  refine r_istore [(6, .int _), (4, .long _), (3, .int _), (0, k_rf E 0), (1, .int _), (2, .int _)] rfl (by decide) 25 rfl dX6_stolenSum_23 ?_
  exact r_sub [3, 4, 5, 2, 1, 0] rfl (gl_X6_stolenSum_25 E     1000 _ _ _ _ _  _)
/-! HandMarket.commonDivisor(JJ)J -/
def l_X6_commonDivisor_9   : Nat → Int64 → Int64 → Int32 → k_Mem → Option (Int64 × k_Mem)
  | 0, _, _, _, _ => none
  | n + 1, x4, x6, x8, σ =>
    if 100 ≤ x8 then (
      some (x4, σ)
    ) else (
      if (lg_cmp x6 0) = 0 then (
        some (x4, σ)
      ) else (
        if x6 = 0 then none else (
          l_X6_commonDivisor_9   n x6 (k_lrem x4 x6) (x8 + 1) σ
        )
      )
    )
set_option maxRecDepth 100000 in
theorem gl_X6_commonDivisor_9 (E : k_EV)     : ∀ (n : Nat) (x4 : Int64) (x6 : Int64) (x8 : Int32)  (σ : k_Mem), k_GO m_X6_commonDivisor E k_vl 9 [(4, .long x4), (6, .long x6), (8, .int x8)] [] σ (l_X6_commonDivisor_9   n x4 x6 x8 σ) := by
  intro n
  induction n with
  | zero => intro x4 x6 x8  σ; exact r_none
  | succ n ih =>
    intro x4 x6 x8  σ
    rw [l_X6_commonDivisor_9]
    refine r_iload 2 rfl 11 rfl dX6_commonDivisor_9 ?_
    refine r_bipush 100 (by decide) 13 rfl dX6_commonDivisor_11 ?_
    refine r_icmp_ge 44 16 rfl (by decide) dX6_commonDivisor_13 (fun c1 => ?_) (fun c1 => ?_)
    · refine r_lload 0 rfl 46 rfl dX6_commonDivisor_44 ?_
      exact r_lret rfl dX6_commonDivisor_46
    · refine r_lload 1 rfl 18 rfl dX6_commonDivisor_16 ?_
      refine r_lconst 0 (by decide) 19 rfl dX6_commonDivisor_18 ?_
      refine r_lcmp 20 rfl dX6_commonDivisor_19 ?_
      refine r_if_eq 44 23 rfl (by decide) dX6_commonDivisor_20 (fun c2 => ?_) (fun c2 => ?_)
      · refine r_lload 0 rfl 46 rfl dX6_commonDivisor_44 ?_
        exact r_lret rfl dX6_commonDivisor_46
      · refine r_lload 0 rfl 25 rfl dX6_commonDivisor_23 ?_
        refine r_lload 1 rfl 27 rfl dX6_commonDivisor_25 ?_
        refine r_nz (fun c3 => ?_)
        refine r_lrem c3 28 rfl dX6_commonDivisor_27 ?_
        refine r_lstore [(9, .long _), (4, .long _), (6, .long _), (8, .int _)] rfl (by decide) 30 rfl dX6_commonDivisor_28 ?_
        refine r_lload 2 rfl 32 rfl dX6_commonDivisor_30 ?_
        refine r_lstore [(4, .long _), (9, .long _), (6, .long _), (8, .int _)] rfl (by decide) 34 rfl dX6_commonDivisor_32 ?_
        refine r_lload 1 rfl 36 rfl dX6_commonDivisor_34 ?_
        refine r_lstore [(6, .long _), (4, .long _), (9, .long _), (8, .int _)] rfl (by decide) 38 rfl dX6_commonDivisor_36 ?_
        refine r_iinc 1 (by decide) 3 rfl [(8, .int _), (6, .long _), (4, .long _), (9, .long _)] rfl (by decide) 41 rfl dX6_commonDivisor_38 ?_
        refine r_goto 9 (by decide) dX6_commonDivisor_41 ?_
        exact r_sub [2, 1, 0] rfl (ih _ _ _  _)
def f_X6_commonDivisor  (x0 : Int64) (x2 : Int64) (σ : k_Mem) : Option (Int64 × k_Mem) :=
  l_X6_commonDivisor_9   1000 x0 x2 0 σ
set_option maxRecDepth 100000 in
theorem c_X6_commonDivisor (E : k_EV)   (x0 : Int64) (x2 : Int64) (σ : k_Mem) : k_MC m_X6_commonDivisor E k_vl [.long x0, .long x2] σ (f_X6_commonDivisor x0 x2 σ) := by
  refine k_MC_of ⟨by decide, by decide⟩ (Nat.le_of_ble_eq_true rfl) ?_
  show k_GO _ _ _ 0 [(0, .long x0), (2, .long x2)] [] σ _
  unfold f_X6_commonDivisor
  refine r_lload_n 0 rfl rfl 1 rfl dX6_commonDivisor_0 ?_
  refine r_lstore [(4, .long _), (0, .long _), (2, .long _)] rfl (by decide) 3 rfl dX6_commonDivisor_1 ?_
  refine r_lload_n 2 rfl rfl 4 rfl dX6_commonDivisor_3 ?_
  refine r_lstore [(6, .long _), (4, .long _), (0, .long _), (2, .long _)] rfl (by decide) 6 rfl dX6_commonDivisor_4 ?_
  refine r_iconst 0 (by decide) 7 rfl dX6_commonDivisor_6 ?_
  refine r_istore [(8, .int _), (6, .long _), (4, .long _), (0, .long _), (2, .long _)] rfl (by decide) 9 rfl dX6_commonDivisor_7 ?_
  exact r_sub [2, 1, 0] rfl (gl_X6_commonDivisor_9 E     1000 _ _ _  _)
/-! HandMarket.lowestTerms(JJI)J -/
def f_X6_lowestTerms  (x0 : Int64) (x2 : Int64) (x4 : Int32) (σ : k_Mem) : Option (Int64 × k_Mem) :=
  k_bd (f_X6_commonDivisor  x0 x2 σ) (fun r1 σ1 =>
    if 0 ≤ (lg_cmp r1 1) then (
      if x4 = 0 then (
        if r1 = 0 then none else (
          some ((x0 / r1), σ1)
        )
      ) else (
        if r1 = 0 then none else (
          some ((x2 / r1), σ1)
        )
      )
    ) else (
      some ((-1), σ1)
    )
  )
set_option maxRecDepth 100000 in
theorem c_X6_lowestTerms (E : k_EV)   (x0 : Int64) (x2 : Int64) (x4 : Int32) (σ : k_Mem) : k_MC m_X6_lowestTerms E k_vl [.long x0, .long x2, .int x4] σ (f_X6_lowestTerms x0 x2 x4 σ) := by
  refine k_MC_of ⟨by decide, by decide⟩ (Nat.le_of_ble_eq_true rfl) ?_
  show k_GO _ _ _ 0 [(0, .long x0), (2, .long x2), (4, .int x4)] [] σ _
  unfold f_X6_lowestTerms
  refine r_lload_n 0 rfl rfl 1 rfl dX6_lowestTerms_0 ?_
  refine r_lload_n 1 rfl rfl 2 rfl dX6_lowestTerms_1 ?_
  refine r_callsl (c_X6_commonDivisor E   _ _ _) rfl ml_X6_341 cw_X6_commonDivisor sw_X6_commonDivisor (by decide) (Nat.le_of_ble_eq_true rfl) 5 rfl dX6_lowestTerms_2 (fun r1 σ1 => ?_)
  refine r_lstore [(5, .long _), (0, .long _), (2, .long _), (4, .int _)] rfl (by decide) 7 rfl dX6_lowestTerms_5 ?_
  refine r_lload 0 rfl 9 rfl dX6_lowestTerms_7 ?_
  refine r_lconst 1 (by decide) 10 rfl dX6_lowestTerms_9 ?_
  refine r_lcmp 11 rfl dX6_lowestTerms_10 ?_
  refine r_if_ge 18 14 rfl (by decide) dX6_lowestTerms_11 (fun c2 => ?_) (fun c2 => ?_)
  · refine r_iload 3 rfl 20 rfl dX6_lowestTerms_18 ?_
    refine r_if_ne 30 23 rfl (by decide) dX6_lowestTerms_20 (fun c3 => ?_) (fun c3 => ?_)
    · refine r_lload_n 1 rfl rfl 24 rfl dX6_lowestTerms_23 ?_
      refine r_lload 0 rfl 26 rfl dX6_lowestTerms_24 ?_
      refine r_nz (fun c4 => ?_)
      refine r_ldiv c4 27 rfl dX6_lowestTerms_26 ?_
      refine r_goto 34 (by decide) dX6_lowestTerms_27 ?_
      exact r_lret rfl dX6_lowestTerms_34
    · refine r_lload_n 2 rfl rfl 31 rfl dX6_lowestTerms_30 ?_
      refine r_lload 0 rfl 33 rfl dX6_lowestTerms_31 ?_
      refine r_nz (fun c5 => ?_)
      refine r_ldiv c5 34 rfl dX6_lowestTerms_33 ?_
      exact r_lret rfl dX6_lowestTerms_34
  · refine r_ldc2 cs_X6_255 17 rfl dX6_lowestTerms_14 ?_
    exact r_lret rfl dX6_lowestTerms_17
/-! HandMarket.mean(II)J -/
def f_X6_mean  (x1 : Int32) (x2 : Int32) (σ : k_Mem) : Option (Int64 × k_Mem) :=
  if x1 < 0 then (
    some ((-1), σ)
  ) else (
    if 10 < x1 then (
      some ((-1), σ)
    ) else (
      if x2 < 0 then (
        some ((-1), σ)
      ) else (
        if x2 ≤ 1 then (
          k_bd (f_X6_stolenSum  x1 (-1) σ) (fun r5 σ5 =>
            k_bd (f_X5_size 6  σ5) (fun r6 σ6 =>
              k_bd (f_X6_power  10 r6 σ6) (fun r7 σ7 =>
                k_bd (f_X6_lowestTerms  r5 r7 x2 σ7) (fun r8 σ8 =>
                  some (r8, σ8)
                )
              )
            )
          )
        ) else (
          some ((-1), σ)
        )
      )
    )
  )
set_option maxRecDepth 100000 in
theorem c_X6_mean (E : k_EV)   (x1 : Int32) (x2 : Int32) (σ : k_Mem) : k_MC m_X6_mean E k_vl [k_rf E 0, .int x1, .int x2] σ (f_X6_mean x1 x2 σ) := by
  refine k_MC_of ⟨by decide, by decide⟩ (Nat.le_of_ble_eq_true rfl) ?_
  show k_GO _ _ _ 0 [(0, k_rf E 0), (1, .int x1), (2, .int x2)] [] σ _
  unfold f_X6_mean
  refine r_iload_n 1 rfl rfl 1 rfl dX6_mean_0 ?_
  refine r_if_lt 19 4 rfl (by decide) dX6_mean_1 (fun c1 => ?_) (fun c1 => ?_)
  · refine r_ldc2 cs_X6_255 22 rfl dX6_mean_19 ?_
    exact r_lret rfl dX6_mean_22
  · refine r_iload_n 1 rfl rfl 5 rfl dX6_mean_4 ?_
    refine r_bipush 10 (by decide) 7 rfl dX6_mean_5 ?_
    refine r_icmp_gt 19 10 rfl (by decide) dX6_mean_7 (fun c2 => ?_) (fun c2 => ?_)
    · refine r_ldc2 cs_X6_255 22 rfl dX6_mean_19 ?_
      exact r_lret rfl dX6_mean_22
    · refine r_iload_n 2 rfl rfl 11 rfl dX6_mean_10 ?_
      refine r_if_lt 19 14 rfl (by decide) dX6_mean_11 (fun c3 => ?_) (fun c3 => ?_)
      · refine r_ldc2 cs_X6_255 22 rfl dX6_mean_19 ?_
        exact r_lret rfl dX6_mean_22
      · refine r_iload_n 2 rfl rfl 15 rfl dX6_mean_14 ?_
        refine r_iconst 1 (by decide) 16 rfl dX6_mean_15 ?_
        refine r_icmp_le 23 19 rfl (by decide) dX6_mean_16 (fun c4 => ?_) (fun c4 => ?_)
        · refine r_aload_n 0 rfl rfl 24 rfl dX6_mean_23 ?_
          refine r_iload_n 1 rfl rfl 25 rfl dX6_mean_24 ?_
          refine r_iconst (-1) (by decide) 26 rfl dX6_mean_25 ?_
          refine r_calll (c_X6_stolenSum E   _ _ _) rfl sh_0 rfl ml_X6_257 cw_X6_stolenSum vw_X6_stolenSum (by decide) (Nat.le_of_ble_eq_true rfl) 29 rfl dX6_mean_26 (fun r5 σ5 => ?_)
          refine r_bipush 10 (by decide) 31 rfl dX6_mean_29 ?_
          refine r_aload_n 0 rfl rfl 32 rfl dX6_mean_31 ?_
          refine r_getr fl_X6_10 sh_0 rfl 35 rfl dX6_mean_32 ?_
          refine r_calli (c_X5_size E 6 tw_6  _) rfl sh_6 rfl ml_X6_261 cw_X5_size vw_X5_size (by decide) (Nat.le_of_ble_eq_true rfl) 38 rfl dX6_mean_35 (fun r6 σ6 => ?_)
          refine r_callsl (c_X6_power E   _ _ _) rfl ml_X6_263 cw_X6_power sw_X6_power (by decide) (Nat.le_of_ble_eq_true rfl) 41 rfl dX6_mean_38 (fun r7 σ7 => ?_)
          refine r_iload_n 2 rfl rfl 42 rfl dX6_mean_41 ?_
          refine r_callsl (c_X6_lowestTerms E   _ _ _ _) rfl ml_X6_266 cw_X6_lowestTerms sw_X6_lowestTerms (by decide) (Nat.le_of_ble_eq_true rfl) 45 rfl dX6_mean_42 (fun r8 σ8 => ?_)
          exact r_lret rfl dX6_mean_45
        · refine r_ldc2 cs_X6_255 22 rfl dX6_mean_19 ?_
          exact r_lret rfl dX6_mean_22
/-! HandMarket.luck(III)J -/
def f_X6_luck  (x1 : Int32) (x2 : Int32) (x3 : Int32) (σ : k_Mem) : Option (Int64 × k_Mem) :=
  if x1 < 0 then (
    some ((-1), σ)
  ) else (
    if 10 < x1 then (
      some ((-1), σ)
    ) else (
      k_bd (f_X5_isHand 6 x2 σ) (fun r3 σ3 =>
        if r3 = 0 then (
          some ((-1), σ3)
        ) else (
          if x3 < 0 then (
            some ((-1), σ3)
          ) else (
            if x3 ≤ 1 then (
              k_bd (f_X6_stolenSum  x1 x2 σ3) (fun r7 σ7 =>
                k_bd (f_X5_size 6  σ7) (fun r8 σ8 =>
                  k_bd (f_X6_power  10 r8 σ8) (fun r9 σ9 =>
                    k_bd (f_X6_lowestTerms  r7 r9 x3 σ9) (fun r10 σ10 =>
                      some (r10, σ10)
                    )
                  )
                )
              )
            ) else (
              some ((-1), σ3)
            )
          )
        )
      )
    )
  )
set_option maxRecDepth 100000 in
theorem c_X6_luck (E : k_EV)   (x1 : Int32) (x2 : Int32) (x3 : Int32) (σ : k_Mem) : k_MC m_X6_luck E k_vl [k_rf E 0, .int x1, .int x2, .int x3] σ (f_X6_luck x1 x2 x3 σ) := by
  refine k_MC_of ⟨by decide, by decide⟩ (Nat.le_of_ble_eq_true rfl) ?_
  show k_GO _ _ _ 0 [(0, k_rf E 0), (1, .int x1), (2, .int x2), (3, .int x3)] [] σ _
  unfold f_X6_luck
  refine r_iload_n 1 rfl rfl 1 rfl dX6_luck_0 ?_
  refine r_if_lt 30 4 rfl (by decide) dX6_luck_1 (fun c1 => ?_) (fun c1 => ?_)
  · refine r_ldc2 cs_X6_255 33 rfl dX6_luck_30 ?_
    exact r_lret rfl dX6_luck_33
  · refine r_iload_n 1 rfl rfl 5 rfl dX6_luck_4 ?_
    refine r_bipush 10 (by decide) 7 rfl dX6_luck_5 ?_
    refine r_icmp_gt 30 10 rfl (by decide) dX6_luck_7 (fun c2 => ?_) (fun c2 => ?_)
    · refine r_ldc2 cs_X6_255 33 rfl dX6_luck_30 ?_
      exact r_lret rfl dX6_luck_33
    · refine r_aload_n 0 rfl rfl 11 rfl dX6_luck_10 ?_
      refine r_getr fl_X6_10 sh_0 rfl 14 rfl dX6_luck_11 ?_
      refine r_iload_n 2 rfl rfl 15 rfl dX6_luck_14 ?_
      refine r_calli (c_X5_isHand E 6 tw_6 _ _) rfl sh_6 rfl ml_X6_113 cw_X5_isHand vw_X5_isHand (by decide) (Nat.le_of_ble_eq_true rfl) 18 rfl dX6_luck_15 (fun r3 σ3 => ?_)
      refine r_if_eq 30 21 rfl (by decide) dX6_luck_18 (fun c4 => ?_) (fun c4 => ?_)
      · refine r_ldc2 cs_X6_255 33 rfl dX6_luck_30 ?_
        exact r_lret rfl dX6_luck_33
      · refine r_iload_n 3 rfl rfl 22 rfl dX6_luck_21 ?_
        refine r_if_lt 30 25 rfl (by decide) dX6_luck_22 (fun c5 => ?_) (fun c5 => ?_)
        · refine r_ldc2 cs_X6_255 33 rfl dX6_luck_30 ?_
          exact r_lret rfl dX6_luck_33
        · refine r_iload_n 3 rfl rfl 26 rfl dX6_luck_25 ?_
          refine r_iconst 1 (by decide) 27 rfl dX6_luck_26 ?_
          refine r_icmp_le 34 30 rfl (by decide) dX6_luck_27 (fun c6 => ?_) (fun c6 => ?_)
          · refine r_aload_n 0 rfl rfl 35 rfl dX6_luck_34 ?_
            refine r_iload_n 1 rfl rfl 36 rfl dX6_luck_35 ?_
            refine r_iload_n 2 rfl rfl 37 rfl dX6_luck_36 ?_
            refine r_calll (c_X6_stolenSum E   _ _ _) rfl sh_0 rfl ml_X6_257 cw_X6_stolenSum vw_X6_stolenSum (by decide) (Nat.le_of_ble_eq_true rfl) 40 rfl dX6_luck_37 (fun r7 σ7 => ?_)
            refine r_bipush 10 (by decide) 42 rfl dX6_luck_40 ?_
            refine r_aload_n 0 rfl rfl 43 rfl dX6_luck_42 ?_
            refine r_getr fl_X6_10 sh_0 rfl 46 rfl dX6_luck_43 ?_
            refine r_calli (c_X5_size E 6 tw_6  _) rfl sh_6 rfl ml_X6_261 cw_X5_size vw_X5_size (by decide) (Nat.le_of_ble_eq_true rfl) 49 rfl dX6_luck_46 (fun r8 σ8 => ?_)
            refine r_callsl (c_X6_power E   _ _ _) rfl ml_X6_263 cw_X6_power sw_X6_power (by decide) (Nat.le_of_ble_eq_true rfl) 52 rfl dX6_luck_49 (fun r9 σ9 => ?_)
            refine r_iload_n 3 rfl rfl 53 rfl dX6_luck_52 ?_
            refine r_callsl (c_X6_lowestTerms E   _ _ _ _) rfl ml_X6_266 cw_X6_lowestTerms sw_X6_lowestTerms (by decide) (Nat.le_of_ble_eq_true rfl) 56 rfl dX6_luck_53 (fun r10 σ10 => ?_)
            exact r_lret rfl dX6_luck_56
          · refine r_ldc2 cs_X6_255 33 rfl dX6_luck_30 ?_
            exact r_lret rfl dX6_luck_33
/-! HandMarket.see(III)I -/
def f_X6_see  (x1 : Int32) (x2 : Int32) (x3 : Int32) (σ : k_Mem) : Option (Int32 × k_Mem) :=
  k_bd (f_X5_isHand 6 x1 σ) (fun r1 σ1 =>
    if r1 = 0 then (
      some ((-1), σ1)
    ) else (
      k_bd (f_X6_isTrait  x2 σ1) (fun r3 σ3 =>
        if r3 = 0 then (
          some ((-1), σ3)
        ) else (
          k_bd (f_X6_isStrokes  x3 σ3) (fun r5 σ5 =>
            if r5 = 0 then (
              some ((-1), σ5)
            ) else (
              k_bd (f_X3_add  x1 x2 x3 σ5) (fun r7 σ7 =>
                if r7 = 0 then (
                  some ((-3), σ7)
                ) else (
                  some ((σ7 55 3), σ7)
                )
              )
            )
          )
        )
      )
    )
  )
set_option maxRecDepth 100000 in
theorem c_X6_see (E : k_EV)   (x1 : Int32) (x2 : Int32) (x3 : Int32) (σ : k_Mem) : k_MC m_X6_see E k_vi [k_rf E 0, .int x1, .int x2, .int x3] σ (f_X6_see x1 x2 x3 σ) := by
  refine k_MC_of ⟨by decide, by decide⟩ (Nat.le_of_ble_eq_true rfl) ?_
  show k_GO _ _ _ 0 [(0, k_rf E 0), (1, .int x1), (2, .int x2), (3, .int x3)] [] σ _
  unfold f_X6_see
  refine r_aload_n 0 rfl rfl 1 rfl dX6_see_0 ?_
  refine r_getr fl_X6_10 sh_0 rfl 4 rfl dX6_see_1 ?_
  refine r_iload_n 1 rfl rfl 5 rfl dX6_see_4 ?_
  refine r_calli (c_X5_isHand E 6 tw_6 _ _) rfl sh_6 rfl ml_X6_113 cw_X5_isHand vw_X5_isHand (by decide) (Nat.le_of_ble_eq_true rfl) 8 rfl dX6_see_5 (fun r1 σ1 => ?_)
  refine r_if_eq 25 11 rfl (by decide) dX6_see_8 (fun c2 => ?_) (fun c2 => ?_)
  · refine r_iconst (-1) (by decide) 26 rfl dX6_see_25 ?_
    exact r_iret rfl dX6_see_26
  · refine r_iload_n 2 rfl rfl 12 rfl dX6_see_11 ?_
    refine r_callsi (c_X6_isTrait E   _ _) rfl ml_X6_141 cw_X6_isTrait sw_X6_isTrait (by decide) (Nat.le_of_ble_eq_true rfl) 15 rfl dX6_see_12 (fun r3 σ3 => ?_)
    refine r_if_eq 25 18 rfl (by decide) dX6_see_15 (fun c4 => ?_) (fun c4 => ?_)
    · refine r_iconst (-1) (by decide) 26 rfl dX6_see_25 ?_
      exact r_iret rfl dX6_see_26
    · refine r_iload_n 3 rfl rfl 19 rfl dX6_see_18 ?_
      refine r_callsi (c_X6_isStrokes E   _ _) rfl ml_X6_165 cw_X6_isStrokes sw_X6_isStrokes (by decide) (Nat.le_of_ble_eq_true rfl) 22 rfl dX6_see_19 (fun r5 σ5 => ?_)
      refine r_if_ne 27 25 rfl (by decide) dX6_see_22 (fun c6 => ?_) (fun c6 => ?_)
      · refine r_iconst (-1) (by decide) 26 rfl dX6_see_25 ?_
        exact r_iret rfl dX6_see_26
      · refine r_aload_n 0 rfl rfl 28 rfl dX6_see_27 ?_
        refine r_getr fl_X6_51 sh_0 rfl 31 rfl dX6_see_28 ?_
        refine r_iload_n 1 rfl rfl 32 rfl dX6_see_31 ?_
        refine r_iload_n 2 rfl rfl 33 rfl dX6_see_32 ?_
        refine r_iload_n 3 rfl rfl 34 rfl dX6_see_33 ?_
        refine r_calli (c_X3_add E   _ _ _ _) rfl sh_55 rfl ml_X6_270 cw_X3_add vw_X3_add (by decide) (Nat.le_of_ble_eq_true rfl) 37 rfl dX6_see_34 (fun r7 σ7 => ?_)
        refine r_if_eq 50 40 rfl (by decide) dX6_see_37 (fun c8 => ?_) (fun c8 => ?_)
        · refine r_bipush (-3) (by decide) 52 rfl dX6_see_50 ?_
          exact r_iret rfl dX6_see_52
        · refine r_aload_n 0 rfl rfl 41 rfl dX6_see_40 ?_
          refine r_getr fl_X6_51 sh_0 rfl 44 rfl dX6_see_41 ?_
          refine r_geti fl_X6_90 sh_55 rfl 47 rfl dX6_see_44 ?_
          refine r_goto 52 (by decide) dX6_see_47 ?_
          exact r_iret rfl dX6_see_52
/-! HandMarket.forget(I)I -/
def f_X6_forget  (x1 : Int32) (σ : k_Mem) : Option (Int32 × k_Mem) :=
  if x1 < 0 then (
    some ((-1), σ)
  ) else (
    if x1 ≤ (σ 55 3) then (
      some ((σ 55 3), (k_mset σ 55 3 x1))
    ) else (
      some ((-1), σ)
    )
  )
set_option maxRecDepth 100000 in
theorem c_X6_forget (E : k_EV)   (x1 : Int32) (σ : k_Mem) : k_MC m_X6_forget E k_vi [k_rf E 0, .int x1] σ (f_X6_forget x1 σ) := by
  refine k_MC_of ⟨by decide, by decide⟩ (Nat.le_of_ble_eq_true rfl) ?_
  show k_GO _ _ _ 0 [(0, k_rf E 0), (1, .int x1)] [] σ _
  unfold f_X6_forget
  refine r_aload_n 0 rfl rfl 1 rfl dX6_forget_0 ?_
  refine r_getr fl_X6_51 sh_0 rfl 4 rfl dX6_forget_1 ?_
  refine r_geti fl_X6_90 sh_55 rfl 7 rfl dX6_forget_4 ?_
  refine r_istore_n [(2, .int _), (0, k_rf E 0), (1, .int _)] rfl rfl (by decide) 8 rfl dX6_forget_7 ?_
  refine r_iload_n 2 rfl rfl 9 rfl dX6_forget_8 ?_
  refine r_if_lt 17 12 rfl (by decide) dX6_forget_9 (fun c1 => ?_) (fun c1 => ?_)
  · refine r_iconst (-1) (by decide) 18 rfl dX6_forget_17 ?_
    exact r_iret rfl dX6_forget_18
  · refine r_iload_n 2 rfl rfl 13 rfl dX6_forget_12 ?_
    refine r_iload_n 0 rfl rfl 14 rfl dX6_forget_13 ?_
    refine r_icmp_le 19 17 rfl (by decide) dX6_forget_14 (fun c2 => ?_) (fun c2 => ?_)
    · refine r_aload_n 1 rfl rfl 20 rfl dX6_forget_19 ?_
      refine r_getr fl_X6_51 sh_0 rfl 23 rfl dX6_forget_20 ?_
      refine r_iload_n 2 rfl rfl 24 rfl dX6_forget_23 ?_
      refine r_puti fp_X6_90 sh_55 rfl 27 rfl dX6_forget_24 ?_
      refine r_iload_n 0 rfl rfl 28 rfl dX6_forget_27 ?_
      exact r_iret rfl dX6_forget_28
    · refine r_iconst (-1) (by decide) 18 rfl dX6_forget_17 ?_
      exact r_iret rfl dX6_forget_18
/-! HandMarket.fittingPens(I)I -/
def j_X6_fittingPens_66  (k15 : Int32 → Int32 → Int32 → k_Mem → Option (Int32 × k_Mem)) (x1 : Int32) (x2 : Int32) (x3 : Int32) (σ : k_Mem) : Option (Int32 × k_Mem) :=
  k15 x1 x2 (x3 + 1) σ
set_option maxRecDepth 100000 in
theorem gj_X6_fittingPens_66 (E : k_EV)   (k15 : Int32 → Int32 → Int32 → k_Mem → Option (Int32 × k_Mem)) (hk15 : ∀ (x1 : Int32) (x2 : Int32) (x3 : Int32)  (σ : k_Mem), k_GO m_X6_fittingPens E k_vi 15 [(0, k_rf E 0), (1, .int x1), (2, .int x2), (3, .int x3)] [] σ (k15 x1 x2 x3 σ)) (x1 : Int32) (x2 : Int32) (x3 : Int32)  (σ : k_Mem) : k_GO m_X6_fittingPens E k_vi 66 [(0, k_rf E 0), (1, .int x1), (2, .int x2), (3, .int x3)] [] σ (j_X6_fittingPens_66  k15 x1 x2 x3 σ) := by
  unfold j_X6_fittingPens_66
  refine r_iinc 1 (by decide) 3 rfl [(3, .int _), (0, k_rf E 0), (1, .int _), (2, .int _)] rfl (by decide) 69 rfl dX6_fittingPens_66 ?_
  refine r_goto 15 (by decide) dX6_fittingPens_69 ?_
  exact r_sub [1, 2, 3, 0] rfl (hk15 _ _ _  _)
def l_X6_fittingPens_15   : Nat → Int32 → Int32 → Int32 → k_Mem → Option (Int32 × k_Mem)
  | 0, _, _, _, _ => none
  | n + 1, x1, x2, x3, σ =>
    if 8 ≤ x3 then (
      some (x2, σ)
    ) else (
      k_bd (f_X5_isHand 6 x3 σ) (fun r3 σ3 =>
        if r3 = 0 then (
          j_X6_fittingPens_66  (fun x1 x2 x3 σ => l_X6_fittingPens_15   n x1 x2 x3 σ) x1 x2 x3 σ3
        ) else (
          if k_in x1 8 then (
            k_bd (f_X3_agreeWith 14 x1 (k_mset σ3 19 (k_n x1) x3)) (fun r5 σ5 =>
              if r5 = 0 then (
                j_X6_fittingPens_66  (fun x1 x2 x3 σ => l_X6_fittingPens_15   n x1 x2 x3 σ) x1 x2 x3 σ5
              ) else (
                j_X6_fittingPens_66  (fun x1 x2 x3 σ => l_X6_fittingPens_15   n x1 x2 x3 σ) x1 (x2 ||| (k_shl 1 x3)) x3 σ5
              )
            )
          ) else none
        )
      )
    )
set_option maxRecDepth 100000 in
theorem gl_X6_fittingPens_15 (E : k_EV)     : ∀ (n : Nat) (x1 : Int32) (x2 : Int32) (x3 : Int32)  (σ : k_Mem), k_GO m_X6_fittingPens E k_vi 15 [(0, k_rf E 0), (1, .int x1), (2, .int x2), (3, .int x3)] [] σ (l_X6_fittingPens_15   n x1 x2 x3 σ) := by
  intro n
  induction n with
  | zero => intro x1 x2 x3  σ; exact r_none
  | succ n ih =>
    intro x1 x2 x3  σ
    rw [l_X6_fittingPens_15]
    refine r_iload_n 3 rfl rfl 16 rfl dX6_fittingPens_15 ?_
    refine r_bipush 8 (by decide) 18 rfl dX6_fittingPens_16 ?_
    refine r_icmp_ge 72 21 rfl (by decide) dX6_fittingPens_18 (fun c2 => ?_) (fun c2 => ?_)
    · refine r_iload_n 2 rfl rfl 73 rfl dX6_fittingPens_72 ?_
      exact r_iret rfl dX6_fittingPens_73
    · refine r_aload_n 0 rfl rfl 22 rfl dX6_fittingPens_21 ?_
      refine r_getr fl_X6_10 sh_0 rfl 25 rfl dX6_fittingPens_22 ?_
      refine r_iload_n 3 rfl rfl 26 rfl dX6_fittingPens_25 ?_
      refine r_calli (c_X5_isHand E 6 tw_6 _ _) rfl sh_6 rfl ml_X6_113 cw_X5_isHand vw_X5_isHand (by decide) (Nat.le_of_ble_eq_true rfl) 29 rfl dX6_fittingPens_26 (fun r3 σ3 => ?_)
      refine r_if_ne 35 32 rfl (by decide) dX6_fittingPens_29 (fun c4 => ?_) (fun c4 => ?_)
      · refine r_goto 66 (by decide) dX6_fittingPens_32 ?_
        exact r_sub [0, 1, 2, 3] rfl (gj_X6_fittingPens_66 E   _ (fun x1 x2 x3  σ => ih x1 x2 x3  σ) _ _ _  _)
      · refine r_aload_n 0 rfl rfl 36 rfl dX6_fittingPens_35 ?_
        refine r_getr fl_X6_16 sh_0 rfl 39 rfl dX6_fittingPens_36 ?_
        refine r_getr fl_X6_128 sh_14 rfl 42 rfl dX6_fittingPens_39 ?_
        refine r_iload_n 1 rfl rfl 43 rfl dX6_fittingPens_42 ?_
        refine r_iload_n 3 rfl rfl 44 rfl dX6_fittingPens_43 ?_
        refine r_iast sh_19 45 rfl dX6_fittingPens_44 ?_
        refine r_aload_n 0 rfl rfl 46 rfl dX6_fittingPens_45 ?_
        refine r_getr fl_X6_51 sh_0 rfl 49 rfl dX6_fittingPens_46 ?_
        refine r_aload_n 0 rfl rfl 50 rfl dX6_fittingPens_49 ?_
        refine r_getr fl_X6_16 sh_0 rfl 53 rfl dX6_fittingPens_50 ?_
        refine r_iload_n 1 rfl rfl 54 rfl dX6_fittingPens_53 ?_
        refine r_calli (c_X3_agreeWith E 14 tw_14 _ _) rfl sh_55 rfl ml_X6_345 cw_X3_agreeWith vw_X3_agreeWith (by decide) (Nat.le_of_ble_eq_true rfl) 57 rfl dX6_fittingPens_54 (fun r5 σ5 => ?_)
        refine r_if_eq 66 60 rfl (by decide) dX6_fittingPens_57 (fun c6 => ?_) (fun c6 => ?_)
        · exact r_sub [0, 1, 2, 3] rfl (gj_X6_fittingPens_66 E   _ (fun x1 x2 x3  σ => ih x1 x2 x3  σ) _ _ _  _)
        · refine r_iload_n 2 rfl rfl 61 rfl dX6_fittingPens_60 ?_
          refine r_iconst 1 (by decide) 62 rfl dX6_fittingPens_61 ?_
          refine r_iload_n 3 rfl rfl 63 rfl dX6_fittingPens_62 ?_
          refine r_ishl 64 rfl dX6_fittingPens_63 ?_
          refine r_ior 65 rfl dX6_fittingPens_64 ?_
          refine r_istore_n [(2, .int _), (0, k_rf E 0), (1, .int _), (3, .int _)] rfl rfl (by decide) 66 rfl dX6_fittingPens_65 ?_
          exact r_sub [1, 2, 0, 3] rfl (gj_X6_fittingPens_66 E   _ (fun x1 x2 x3  σ => ih x1 x2 x3  σ) _ _ _  _)
def f_X6_fittingPens  (x1 : Int32) (σ : k_Mem) : Option (Int32 × k_Mem) :=
  k_bd (f_X5_become 14 6  σ) (fun _ σ1 =>
    l_X6_fittingPens_15   1000 x1 0 0 σ1
  )
set_option maxRecDepth 100000 in
theorem c_X6_fittingPens (E : k_EV)   (x1 : Int32) (σ : k_Mem) : k_MC m_X6_fittingPens E k_vi [k_rf E 0, .int x1] σ (f_X6_fittingPens x1 σ) := by
  refine k_MC_of ⟨by decide, by decide⟩ (Nat.le_of_ble_eq_true rfl) ?_
  show k_GO _ _ _ 0 [(0, k_rf E 0), (1, .int x1)] [] σ _
  unfold f_X6_fittingPens
  refine r_aload_n 0 rfl rfl 1 rfl dX6_fittingPens_0 ?_
  refine r_getr fl_X6_16 sh_0 rfl 4 rfl dX6_fittingPens_1 ?_
  refine r_aload_n 0 rfl rfl 5 rfl dX6_fittingPens_4 ?_
  refine r_getr fl_X6_10 sh_0 rfl 8 rfl dX6_fittingPens_5 ?_
  refine r_callv (c_X5_become E 14 6 tw_14 tw_6  _) rfl sh_14 rfl ml_X6_86 cw_X5_become vw_X5_become (by decide) (Nat.le_of_ble_eq_true rfl) 11 rfl dX6_fittingPens_8 (fun _ σ1 => ?_)
  refine r_iconst 0 (by decide) 12 rfl dX6_fittingPens_11 ?_
  refine r_istore_n [(2, .int _), (0, k_rf E 0), (1, .int _)] rfl rfl (by decide) 13 rfl dX6_fittingPens_12 ?_
  refine r_iconst 0 (by decide) 14 rfl dX6_fittingPens_13 ?_
  refine r_istore_n [(3, .int _), (2, .int _), (0, k_rf E 0), (1, .int _)] rfl rfl (by decide) 15 rfl dX6_fittingPens_14 ?_
  exact r_sub [2, 3, 1, 0] rfl (gl_X6_fittingPens_15 E     1000 _ _ _  _)
/-! HandMarket.fits(I)I -/
def f_X6_fits  (x1 : Int32) (σ : k_Mem) : Option (Int32 × k_Mem) :=
  k_bd (f_X5_isHand 6 x1 σ) (fun r1 σ1 =>
    if r1 = 0 then (
      some ((-1), σ1)
    ) else (
      k_bd (f_X6_fittingPens  x1 σ1) (fun r3 σ3 =>
        some (r3, σ3)
      )
    )
  )
set_option maxRecDepth 100000 in
theorem c_X6_fits (E : k_EV)   (x1 : Int32) (σ : k_Mem) : k_MC m_X6_fits E k_vi [k_rf E 0, .int x1] σ (f_X6_fits x1 σ) := by
  refine k_MC_of ⟨by decide, by decide⟩ (Nat.le_of_ble_eq_true rfl) ?_
  show k_GO _ _ _ 0 [(0, k_rf E 0), (1, .int x1)] [] σ _
  unfold f_X6_fits
  refine r_aload_n 0 rfl rfl 1 rfl dX6_fits_0 ?_
  refine r_getr fl_X6_10 sh_0 rfl 4 rfl dX6_fits_1 ?_
  refine r_iload_n 1 rfl rfl 5 rfl dX6_fits_4 ?_
  refine r_calli (c_X5_isHand E 6 tw_6 _ _) rfl sh_6 rfl ml_X6_113 cw_X5_isHand vw_X5_isHand (by decide) (Nat.le_of_ble_eq_true rfl) 8 rfl dX6_fits_5 (fun r1 σ1 => ?_)
  refine r_if_eq 19 11 rfl (by decide) dX6_fits_8 (fun c2 => ?_) (fun c2 => ?_)
  · refine r_iconst (-1) (by decide) 20 rfl dX6_fits_19 ?_
    exact r_iret rfl dX6_fits_20
  · refine r_aload_n 0 rfl rfl 12 rfl dX6_fits_11 ?_
    refine r_iload_n 1 rfl rfl 13 rfl dX6_fits_12 ?_
    refine r_calli (c_X6_fittingPens E   _ _) rfl sh_0 rfl ml_X6_274 cw_X6_fittingPens vw_X6_fittingPens (by decide) (Nat.le_of_ble_eq_true rfl) 16 rfl dX6_fits_13 (fun r3 σ3 => ?_)
    refine r_goto 20 (by decide) dX6_fits_16 ?_
    exact r_iret rfl dX6_fits_20
/-! HandMarket.leftAtWorst(III)I -/
def j_X6_leftAtWorst_99  (k25 : Int32 → Int32 → Int32 → Int32 → Int32 → k_Mem → Option (Int32 × k_Mem)) (x1 : Int32) (x2 : Int32) (x3 : Int32) (x4 : Int32) (x5 : Int32) (σ : k_Mem) : Option (Int32 × k_Mem) :=
  k25 x1 x2 x3 x4 (x5 + 1) σ
set_option maxRecDepth 100000 in
theorem gj_X6_leftAtWorst_99 (E : k_EV)   (k25 : Int32 → Int32 → Int32 → Int32 → Int32 → k_Mem → Option (Int32 × k_Mem)) (hk25 : ∀ (x1 : Int32) (x2 : Int32) (x3 : Int32) (x4 : Int32) (x5 : Int32)  (σ : k_Mem), k_GO m_X6_leftAtWorst E k_vi 25 [(0, k_rf E 0), (1, .int x1), (2, .int x2), (3, .int x3), (4, .int x4), (5, .int x5)] [] σ (k25 x1 x2 x3 x4 x5 σ)) (x1 : Int32) (x2 : Int32) (x3 : Int32) (x4 : Int32) (x5 : Int32)  (σ : k_Mem) : k_GO m_X6_leftAtWorst E k_vi 99 [(0, k_rf E 0), (1, .int x1), (2, .int x2), (3, .int x3), (4, .int x4), (5, .int x5)] [] σ (j_X6_leftAtWorst_99  k25 x1 x2 x3 x4 x5 σ) := by
  unfold j_X6_leftAtWorst_99
  refine r_iinc 1 (by decide) 5 rfl [(5, .int _), (0, k_rf E 0), (1, .int _), (2, .int _), (3, .int _), (4, .int _)] rfl (by decide) 102 rfl dX6_leftAtWorst_99 ?_
  refine r_goto 25 (by decide) dX6_leftAtWorst_102 ?_
  exact r_sub [1, 2, 3, 4, 5, 0] rfl (hk25 _ _ _ _ _  _)
def l_X6_leftAtWorst_25   : Nat → Int32 → Int32 → Int32 → Int32 → Int32 → k_Mem → Option (Int32 × k_Mem)
  | 0, _, _, _, _, _, _ => none
  | n + 1, x1, x2, x3, x4, x5, σ =>
    if 8 ≤ x5 then (
      some (x4, σ)
    ) else (
      if ((k_shr x3 x5) &&& 1) = 0 then (
        j_X6_leftAtWorst_99  (fun x1 x2 x3 x4 x5 σ => l_X6_leftAtWorst_25   n x1 x2 x3 x4 x5 σ) x1 x2 x3 x4 x5 σ
      ) else (
        if k_in x1 8 then (
          k_bd (f_X5_shows 14 x1 x2 (k_mset σ 19 (k_n x1) x5)) (fun r5 σ5 =>
            k_bd (f_X6_isStrokes  r5 σ5) (fun r6 σ6 =>
              if r6 = 0 then (
                j_X6_leftAtWorst_99  (fun x1 x2 x3 x4 x5 σ => l_X6_leftAtWorst_25   n x1 x2 x3 x4 x5 σ) x1 x2 x3 x4 x5 σ6
              ) else (
                if k_in r5 10 then (
                  if k_in r5 10 then (
                    if k_in r5 10 then (
                      j_X6_leftAtWorst_99  (fun x1 x2 x3 x4 x5 σ => l_X6_leftAtWorst_25   n x1 x2 x3 x4 x5 σ) x1 x2 x3 (k_max x4 ((k_mset σ6 4 (k_n r5) ((σ6 4 (k_n r5)) + 1)) 4 (k_n r5))) x5 (k_mset σ6 4 (k_n r5) ((σ6 4 (k_n r5)) + 1))
                    ) else none
                  ) else none
                ) else none
              )
            )
          )
        ) else none
      )
    )
set_option maxRecDepth 100000 in
theorem gl_X6_leftAtWorst_25 (E : k_EV)     : ∀ (n : Nat) (x1 : Int32) (x2 : Int32) (x3 : Int32) (x4 : Int32) (x5 : Int32)  (σ : k_Mem), k_GO m_X6_leftAtWorst E k_vi 25 [(0, k_rf E 0), (1, .int x1), (2, .int x2), (3, .int x3), (4, .int x4), (5, .int x5)] [] σ (l_X6_leftAtWorst_25   n x1 x2 x3 x4 x5 σ) := by
  intro n
  induction n with
  | zero => intro x1 x2 x3 x4 x5  σ; exact r_none
  | succ n ih =>
    intro x1 x2 x3 x4 x5  σ
    rw [l_X6_leftAtWorst_25]
    refine r_iload 5 rfl 27 rfl dX6_leftAtWorst_25 ?_
    refine r_bipush 8 (by decide) 29 rfl dX6_leftAtWorst_27 ?_
    refine r_icmp_ge 105 32 rfl (by decide) dX6_leftAtWorst_29 (fun c3 => ?_) (fun c3 => ?_)
    · refine r_iload 4 rfl 107 rfl dX6_leftAtWorst_105 ?_
      exact r_iret rfl dX6_leftAtWorst_107
    · refine r_iload_n 3 rfl rfl 33 rfl dX6_leftAtWorst_32 ?_
      refine r_iload 5 rfl 35 rfl dX6_leftAtWorst_33 ?_
      refine r_ishr 36 rfl dX6_leftAtWorst_35 ?_
      refine r_iconst 1 (by decide) 37 rfl dX6_leftAtWorst_36 ?_
      refine r_iand 38 rfl dX6_leftAtWorst_37 ?_
      refine r_if_ne 44 41 rfl (by decide) dX6_leftAtWorst_38 (fun c4 => ?_) (fun c4 => ?_)
      · refine r_goto 99 (by decide) dX6_leftAtWorst_41 ?_
        exact r_sub [0, 1, 2, 3, 4, 5] rfl (gj_X6_leftAtWorst_99 E   _ (fun x1 x2 x3 x4 x5  σ => ih x1 x2 x3 x4 x5  σ) _ _ _ _ _  _)
      · refine r_aload_n 0 rfl rfl 45 rfl dX6_leftAtWorst_44 ?_
        refine r_getr fl_X6_16 sh_0 rfl 48 rfl dX6_leftAtWorst_45 ?_
        refine r_getr fl_X6_128 sh_14 rfl 51 rfl dX6_leftAtWorst_48 ?_
        refine r_iload_n 1 rfl rfl 52 rfl dX6_leftAtWorst_51 ?_
        refine r_iload 5 rfl 54 rfl dX6_leftAtWorst_52 ?_
        refine r_iast sh_19 55 rfl dX6_leftAtWorst_54 ?_
        refine r_aload_n 0 rfl rfl 56 rfl dX6_leftAtWorst_55 ?_
        refine r_getr fl_X6_16 sh_0 rfl 59 rfl dX6_leftAtWorst_56 ?_
        refine r_iload_n 1 rfl rfl 60 rfl dX6_leftAtWorst_59 ?_
        refine r_iload_n 2 rfl rfl 61 rfl dX6_leftAtWorst_60 ?_
        refine r_calli (c_X5_shows E 14 tw_14 _ _ _) rfl sh_14 rfl ml_X6_144 cw_X5_shows vw_X5_shows (by decide) (Nat.le_of_ble_eq_true rfl) 64 rfl dX6_leftAtWorst_61 (fun r5 σ5 => ?_)
        refine r_istore [(6, .int _), (0, k_rf E 0), (1, .int _), (2, .int _), (3, .int _), (4, .int _), (5, .int _)] rfl (by decide) 66 rfl dX6_leftAtWorst_64 ?_
        refine r_iload 0 rfl 68 rfl dX6_leftAtWorst_66 ?_
        refine r_callsi (c_X6_isStrokes E   _ _) rfl ml_X6_165 cw_X6_isStrokes sw_X6_isStrokes (by decide) (Nat.le_of_ble_eq_true rfl) 71 rfl dX6_leftAtWorst_68 (fun r6 σ6 => ?_)
        refine r_if_eq 99 74 rfl (by decide) dX6_leftAtWorst_71 (fun c7 => ?_) (fun c7 => ?_)
        · exact r_sub [1, 2, 3, 4, 5, 6] rfl (gj_X6_leftAtWorst_99 E   _ (fun x1 x2 x3 x4 x5  σ => ih x1 x2 x3 x4 x5  σ) _ _ _ _ _  _)
        · refine r_aload_n 1 rfl rfl 75 rfl dX6_leftAtWorst_74 ?_
          refine r_getr fl_X6_55 sh_0 rfl 78 rfl dX6_leftAtWorst_75 ?_
          refine r_iload 0 rfl 80 rfl dX6_leftAtWorst_78 ?_
          refine r_dup2 81 rfl dX6_leftAtWorst_80 rfl rfl ?_
          refine r_iald sh_4 82 rfl dX6_leftAtWorst_81 ?_
          refine r_iconst 1 (by decide) 83 rfl dX6_leftAtWorst_82 ?_
          refine r_iadd 84 rfl dX6_leftAtWorst_83 ?_
          refine r_iast sh_4 85 rfl dX6_leftAtWorst_84 ?_
          refine r_iload 5 rfl 87 rfl dX6_leftAtWorst_85 ?_
          refine r_aload_n 1 rfl rfl 88 rfl dX6_leftAtWorst_87 ?_
          refine r_getr fl_X6_55 sh_0 rfl 91 rfl dX6_leftAtWorst_88 ?_
          refine r_iload 0 rfl 93 rfl dX6_leftAtWorst_91 ?_
          refine r_iald sh_4 94 rfl dX6_leftAtWorst_93 ?_
          refine r_mmax ma_max ml_X6_355 ⟨Nat.le_of_ble_eq_true rfl, Nat.le_of_ble_eq_true rfl⟩ 97 rfl dX6_leftAtWorst_94 ?_
          refine r_istore [(4, .int _), (6, .int _), (0, k_rf E 0), (1, .int _), (2, .int _), (3, .int _), (5, .int _)] rfl (by decide) 99 rfl dX6_leftAtWorst_97 ?_
          exact r_sub [2, 3, 4, 5, 0, 6] rfl (gj_X6_leftAtWorst_99 E   _ (fun x1 x2 x3 x4 x5  σ => ih x1 x2 x3 x4 x5  σ) _ _ _ _ _  _)
def f_X6_leftAtWorst  (x1 : Int32) (x2 : Int32) (x3 : Int32) (σ : k_Mem) : Option (Int32 × k_Mem) :=
  k_bd (f_X5_become 14 6  σ) (fun _ σ1 =>
    k_bd (f_J7_fill_53178 4 10 0 σ1) (fun _ σ2 =>
      l_X6_leftAtWorst_25   1000 x1 x2 x3 0 0 σ2
    )
  )
set_option maxRecDepth 100000 in
theorem c_X6_leftAtWorst (E : k_EV)   (x1 : Int32) (x2 : Int32) (x3 : Int32) (σ : k_Mem) : k_MC m_X6_leftAtWorst E k_vi [k_rf E 0, .int x1, .int x2, .int x3] σ (f_X6_leftAtWorst x1 x2 x3 σ) := by
  refine k_MC_of ⟨by decide, by decide⟩ (Nat.le_of_ble_eq_true rfl) ?_
  show k_GO _ _ _ 0 [(0, k_rf E 0), (1, .int x1), (2, .int x2), (3, .int x3)] [] σ _
  unfold f_X6_leftAtWorst
  refine r_aload_n 0 rfl rfl 1 rfl dX6_leftAtWorst_0 ?_
  refine r_getr fl_X6_16 sh_0 rfl 4 rfl dX6_leftAtWorst_1 ?_
  refine r_aload_n 0 rfl rfl 5 rfl dX6_leftAtWorst_4 ?_
  refine r_getr fl_X6_10 sh_0 rfl 8 rfl dX6_leftAtWorst_5 ?_
  refine r_callv (c_X5_become E 14 6 tw_14 tw_6  _) rfl sh_14 rfl ml_X6_86 cw_X5_become vw_X5_become (by decide) (Nat.le_of_ble_eq_true rfl) 11 rfl dX6_leftAtWorst_8 (fun _ σ1 => ?_)
  refine r_aload_n 0 rfl rfl 12 rfl dX6_leftAtWorst_11 ?_
  refine r_getr fl_X6_55 sh_0 rfl 15 rfl dX6_leftAtWorst_12 ?_
  refine r_iconst 0 (by decide) 16 rfl dX6_leftAtWorst_15 ?_
  refine r_callsv (c_J7_fill_53178 E 4 10 sh_4 _ _) rfl ml_X6_349 cw_J7_fill_53178 sw_J7_fill_53178 (by decide) (Nat.le_of_ble_eq_true rfl) 19 rfl dX6_leftAtWorst_16 (fun _ σ2 => ?_)
  refine r_iconst 0 (by decide) 20 rfl dX6_leftAtWorst_19 ?_
  refine r_istore [(4, .int _), (0, k_rf E 0), (1, .int _), (2, .int _), (3, .int _)] rfl (by decide) 22 rfl dX6_leftAtWorst_20 ?_
  refine r_iconst 0 (by decide) 23 rfl dX6_leftAtWorst_22 ?_
  refine r_istore [(5, .int _), (4, .int _), (0, k_rf E 0), (1, .int _), (2, .int _), (3, .int _)] rfl (by decide) 25 rfl dX6_leftAtWorst_23 ?_
  exact r_sub [2, 3, 4, 5, 1, 0] rfl (gl_X6_leftAtWorst_25 E     1000 _ _ _ _ _  _)
/-! HandMarket.look(II)I -/
def j_X6_look_72  (k41 : Int32 → Int32 → Int32 → Int32 → Int32 → Int32 → k_Mem → Option (Int32 × k_Mem)) (x1 : Int32) (x2 : Int32) (x3 : Int32) (x4 : Int32) (x5 : Int32) (x6 : Int32) (σ : k_Mem) : Option (Int32 × k_Mem) :=
  k41 x1 x2 x3 x4 x5 (x6 + 1) σ
set_option maxRecDepth 100000 in
theorem gj_X6_look_72 (E : k_EV)   (k41 : Int32 → Int32 → Int32 → Int32 → Int32 → Int32 → k_Mem → Option (Int32 × k_Mem)) (hk41 : ∀ (x1 : Int32) (x2 : Int32) (x3 : Int32) (x4 : Int32) (x5 : Int32) (x6 : Int32)  (σ : k_Mem), k_GO m_X6_look E k_vi 41 [(0, k_rf E 0), (1, .int x1), (2, .int x2), (3, .int x3), (4, .int x4), (5, .int x5), (6, .int x6)] [] σ (k41 x1 x2 x3 x4 x5 x6 σ)) (x1 : Int32) (x2 : Int32) (x3 : Int32) (x4 : Int32) (x5 : Int32) (x6 : Int32)  (σ : k_Mem) : k_GO m_X6_look E k_vi 72 [(0, k_rf E 0), (1, .int x1), (2, .int x2), (3, .int x3), (4, .int x4), (5, .int x5), (6, .int x6)] [] σ (j_X6_look_72  k41 x1 x2 x3 x4 x5 x6 σ) := by
  unfold j_X6_look_72
  refine r_iinc 1 (by decide) 6 rfl [(6, .int _), (0, k_rf E 0), (1, .int _), (2, .int _), (3, .int _), (4, .int _), (5, .int _)] rfl (by decide) 75 rfl dX6_look_72 ?_
  refine r_goto 41 (by decide) dX6_look_75 ?_
  exact r_sub [1, 2, 3, 4, 5, 6, 0] rfl (hk41 _ _ _ _ _ _  _)
def l_X6_look_41   : Nat → Int32 → Int32 → Int32 → Int32 → Int32 → Int32 → k_Mem → Option (Int32 × k_Mem)
  | 0, _, _, _, _, _, _, _ => none
  | n + 1, x1, x2, x3, x4, x5, x6, σ =>
    if 3 ≤ x6 then (
      if x2 = 0 then (
        some (x5, σ)
      ) else (
        if x5 = (-4) then (
          some (x5, σ)
        ) else (
          some (x4, σ)
        )
      )
    ) else (
      k_bd (f_X6_leftAtWorst  x1 x6 x3 σ) (fun r10 σ10 =>
        if x4 ≤ r10 then (
          j_X6_look_72  (fun x1 x2 x3 x4 x5 x6 σ => l_X6_look_41   n x1 x2 x3 x4 x5 x6 σ) x1 x2 x3 x4 x5 x6 σ10
        ) else (
          j_X6_look_72  (fun x1 x2 x3 x4 x5 x6 σ => l_X6_look_41   n x1 x2 x3 x4 x5 x6 σ) x1 x2 x3 r10 x6 x6 σ10
        )
      )
    )
set_option maxRecDepth 100000 in
theorem gl_X6_look_41 (E : k_EV)     : ∀ (n : Nat) (x1 : Int32) (x2 : Int32) (x3 : Int32) (x4 : Int32) (x5 : Int32) (x6 : Int32)  (σ : k_Mem), k_GO m_X6_look E k_vi 41 [(0, k_rf E 0), (1, .int x1), (2, .int x2), (3, .int x3), (4, .int x4), (5, .int x5), (6, .int x6)] [] σ (l_X6_look_41   n x1 x2 x3 x4 x5 x6 σ) := by
  intro n
  induction n with
  | zero => intro x1 x2 x3 x4 x5 x6  σ; exact r_none
  | succ n ih =>
    intro x1 x2 x3 x4 x5 x6  σ
    rw [l_X6_look_41]
    refine r_iload 6 rfl 43 rfl dX6_look_41 ?_
    refine r_iconst 3 (by decide) 44 rfl dX6_look_43 ?_
    refine r_icmp_ge 78 47 rfl (by decide) dX6_look_44 (fun c7 => ?_) (fun c7 => ?_)
    · refine r_iload_n 2 rfl rfl 79 rfl dX6_look_78 ?_
      refine r_if_eq 89 82 rfl (by decide) dX6_look_79 (fun c8 => ?_) (fun c8 => ?_)
      · refine r_iload 5 rfl 91 rfl dX6_look_89 ?_
        refine r_goto 96 (by decide) dX6_look_91 ?_
        exact r_iret rfl dX6_look_96
      · refine r_iload 5 rfl 84 rfl dX6_look_82 ?_
        refine r_bipush (-4) (by decide) 86 rfl dX6_look_84 ?_
        refine r_icmp_ne 94 89 rfl (by decide) dX6_look_86 (fun c9 => ?_) (fun c9 => ?_)
        · refine r_iload 5 rfl 91 rfl dX6_look_89 ?_
          refine r_goto 96 (by decide) dX6_look_91 ?_
          exact r_iret rfl dX6_look_96
        · refine r_iload 4 rfl 96 rfl dX6_look_94 ?_
          exact r_iret rfl dX6_look_96
    · refine r_aload_n 0 rfl rfl 48 rfl dX6_look_47 ?_
      refine r_iload_n 1 rfl rfl 49 rfl dX6_look_48 ?_
      refine r_iload 6 rfl 51 rfl dX6_look_49 ?_
      refine r_iload_n 3 rfl rfl 52 rfl dX6_look_51 ?_
      refine r_calli (c_X6_leftAtWorst E   _ _ _ _) rfl sh_0 rfl ml_X6_282 cw_X6_leftAtWorst vw_X6_leftAtWorst (by decide) (Nat.le_of_ble_eq_true rfl) 55 rfl dX6_look_52 (fun r10 σ10 => ?_)
      refine r_istore [(7, .int _), (0, k_rf E 0), (1, .int _), (2, .int _), (3, .int _), (4, .int _), (5, .int _), (6, .int _)] rfl (by decide) 57 rfl dX6_look_55 ?_
      refine r_iload 0 rfl 59 rfl dX6_look_57 ?_
      refine r_iload 5 rfl 61 rfl dX6_look_59 ?_
      refine r_icmp_ge 72 64 rfl (by decide) dX6_look_61 (fun c11 => ?_) (fun c11 => ?_)
      · exact r_sub [1, 2, 3, 4, 5, 6, 7] rfl (gj_X6_look_72 E   _ (fun x1 x2 x3 x4 x5 x6  σ => ih x1 x2 x3 x4 x5 x6  σ) _ _ _ _ _ _  _)
      · refine r_iload 0 rfl 66 rfl dX6_look_64 ?_
        refine r_istore [(4, .int _), (7, .int _), (0, k_rf E 0), (1, .int _), (2, .int _), (3, .int _), (5, .int _), (6, .int _)] rfl (by decide) 68 rfl dX6_look_66 ?_
        refine r_iload 7 rfl 70 rfl dX6_look_68 ?_
        refine r_istore [(5, .int _), (4, .int _), (7, .int _), (0, k_rf E 0), (1, .int _), (2, .int _), (3, .int _), (6, .int _)] rfl (by decide) 72 rfl dX6_look_70 ?_
        exact r_sub [3, 4, 5, 6, 1, 0, 7] rfl (gj_X6_look_72 E   _ (fun x1 x2 x3 x4 x5 x6  σ => ih x1 x2 x3 x4 x5 x6  σ) _ _ _ _ _ _  _)
def f_X6_look  (x1 : Int32) (x2 : Int32) (σ : k_Mem) : Option (Int32 × k_Mem) :=
  k_bd (f_X5_isHand 6 x1 σ) (fun r1 σ1 =>
    if r1 = 0 then (
      some ((-1), σ1)
    ) else (
      if x2 < 0 then (
        some ((-1), σ1)
      ) else (
        if x2 ≤ 1 then (
          k_bd (f_X6_fittingPens  x1 σ1) (fun r5 σ5 =>
            k_bd (f_J6_bitCount_0f7a4  r5 σ5) (fun r6 σ6 =>
              l_X6_look_41   1000 x1 x2 r5 r6 (-4) 0 σ6
            )
          )
        ) else (
          some ((-1), σ1)
        )
      )
    )
  )
set_option maxRecDepth 100000 in
theorem c_X6_look (E : k_EV)   (x1 : Int32) (x2 : Int32) (σ : k_Mem) : k_MC m_X6_look E k_vi [k_rf E 0, .int x1, .int x2] σ (f_X6_look x1 x2 σ) := by
  refine k_MC_of ⟨by decide, by decide⟩ (Nat.le_of_ble_eq_true rfl) ?_
  show k_GO _ _ _ 0 [(0, k_rf E 0), (1, .int x1), (2, .int x2)] [] σ _
  unfold f_X6_look
  refine r_aload_n 0 rfl rfl 1 rfl dX6_look_0 ?_
  refine r_getr fl_X6_10 sh_0 rfl 4 rfl dX6_look_1 ?_
  refine r_iload_n 1 rfl rfl 5 rfl dX6_look_4 ?_
  refine r_calli (c_X5_isHand E 6 tw_6 _ _) rfl sh_6 rfl ml_X6_113 cw_X5_isHand vw_X5_isHand (by decide) (Nat.le_of_ble_eq_true rfl) 8 rfl dX6_look_5 (fun r1 σ1 => ?_)
  refine r_if_eq 20 11 rfl (by decide) dX6_look_8 (fun c2 => ?_) (fun c2 => ?_)
  · refine r_iconst (-1) (by decide) 21 rfl dX6_look_20 ?_
    exact r_iret rfl dX6_look_21
  · refine r_iload_n 2 rfl rfl 12 rfl dX6_look_11 ?_
    refine r_if_lt 20 15 rfl (by decide) dX6_look_12 (fun c3 => ?_) (fun c3 => ?_)
    · refine r_iconst (-1) (by decide) 21 rfl dX6_look_20 ?_
      exact r_iret rfl dX6_look_21
    · refine r_iload_n 2 rfl rfl 16 rfl dX6_look_15 ?_
      refine r_iconst 1 (by decide) 17 rfl dX6_look_16 ?_
      refine r_icmp_le 22 20 rfl (by decide) dX6_look_17 (fun c4 => ?_) (fun c4 => ?_)
      · refine r_aload_n 0 rfl rfl 23 rfl dX6_look_22 ?_
        refine r_iload_n 1 rfl rfl 24 rfl dX6_look_23 ?_
        refine r_calli (c_X6_fittingPens E   _ _) rfl sh_0 rfl ml_X6_274 cw_X6_fittingPens vw_X6_fittingPens (by decide) (Nat.le_of_ble_eq_true rfl) 27 rfl dX6_look_24 (fun r5 σ5 => ?_)
        refine r_istore_n [(3, .int _), (0, k_rf E 0), (1, .int _), (2, .int _)] rfl rfl (by decide) 28 rfl dX6_look_27 ?_
        refine r_iload_n 0 rfl rfl 29 rfl dX6_look_28 ?_
        refine r_callsi (c_J6_bitCount_0f7a4 E   _ _) rfl ml_X6_277 cw_J6_bitCount_0f7a4 sw_J6_bitCount_0f7a4 (by decide) (Nat.le_of_ble_eq_true rfl) 32 rfl dX6_look_29 (fun r6 σ6 => ?_)
        refine r_istore [(4, .int _), (3, .int _), (0, k_rf E 0), (1, .int _), (2, .int _)] rfl (by decide) 34 rfl dX6_look_32 ?_
        refine r_bipush (-4) (by decide) 36 rfl dX6_look_34 ?_
        refine r_istore [(5, .int _), (4, .int _), (3, .int _), (0, k_rf E 0), (1, .int _), (2, .int _)] rfl (by decide) 38 rfl dX6_look_36 ?_
        refine r_iconst 0 (by decide) 39 rfl dX6_look_38 ?_
        refine r_istore [(6, .int _), (5, .int _), (4, .int _), (3, .int _), (0, k_rf E 0), (1, .int _), (2, .int _)] rfl (by decide) 41 rfl dX6_look_39 ?_
        exact r_sub [4, 5, 6, 3, 2, 1, 0] rfl (gl_X6_look_41 E     1000 _ _ _ _ _ _  _)
      · refine r_iconst (-1) (by decide) 21 rfl dX6_look_20 ?_
        exact r_iret rfl dX6_look_21
/-! HandMarket.nextSeed(I)I -/
def f_X6_nextSeed  (x0 : Int32) (σ : k_Mem) : Option (Int32 × k_Mem) :=
  some (((x0 * 1103515245) + 12345), σ)
set_option maxRecDepth 100000 in
theorem c_X6_nextSeed (E : k_EV)   (x0 : Int32) (σ : k_Mem) : k_MC m_X6_nextSeed E k_vi [.int x0] σ (f_X6_nextSeed x0 σ) := by
  refine k_MC_of ⟨by decide, by decide⟩ (Nat.le_of_ble_eq_true rfl) ?_
  show k_GO _ _ _ 0 [(0, .int x0)] [] σ _
  unfold f_X6_nextSeed
  refine r_iload_n 0 rfl rfl 1 rfl dX6_nextSeed_0 ?_
  refine r_ldcw cs_X6_360 4 rfl dX6_nextSeed_1 ?_
  refine r_imul 5 rfl dX6_nextSeed_4 ?_
  refine r_sipush 12345 (by decide) 8 rfl dX6_nextSeed_5 ?_
  refine r_iadd 9 rfl dX6_nextSeed_8 ?_
  exact r_iret rfl dX6_nextSeed_9
/-! HandMarket.drawn(I)I -/
def f_X6_drawn  (x0 : Int32) (σ : k_Mem) : Option (Int32 × k_Mem) :=
  some (((k_ushr x0 16) &&& 32767), σ)
set_option maxRecDepth 100000 in
theorem c_X6_drawn (E : k_EV)   (x0 : Int32) (σ : k_Mem) : k_MC m_X6_drawn E k_vi [.int x0] σ (f_X6_drawn x0 σ) := by
  refine k_MC_of ⟨by decide, by decide⟩ (Nat.le_of_ble_eq_true rfl) ?_
  show k_GO _ _ _ 0 [(0, .int x0)] [] σ _
  unfold f_X6_drawn
  refine r_iload_n 0 rfl rfl 1 rfl dX6_drawn_0 ?_
  refine r_bipush 16 (by decide) 3 rfl dX6_drawn_1 ?_
  refine r_iushr 4 rfl dX6_drawn_3 ?_
  refine r_sipush 32767 (by decide) 7 rfl dX6_drawn_4 ?_
  refine r_iand 8 rfl dX6_drawn_7 ?_
  exact r_iret rfl dX6_drawn_8
/-! HandMarket.drift(III)I -/
def j_X6_drift_151  (k60 : Int32 → Int32 → Int32 → Int32 → Int32 → Int32 → k_Mem → Option (Int32 × k_Mem)) (x2 : Int32) (x3 : Int32) (x4 : Int32) (x5 : Int32) (x6 : Int32) (x7 : Int32) (σ : k_Mem) : Option (Int32 × k_Mem) :=
  k60 x2 x3 x4 x5 x6 (x7 + 1) σ
set_option maxRecDepth 100000 in
theorem gj_X6_drift_151 (E : k_EV)   (k60 : Int32 → Int32 → Int32 → Int32 → Int32 → Int32 → k_Mem → Option (Int32 × k_Mem)) (hk60 : ∀ (x2 : Int32) (x3 : Int32) (x4 : Int32) (x5 : Int32) (x6 : Int32) (x7 : Int32)  (σ : k_Mem), k_GO m_X6_drift E k_vi 60 [(0, k_rf E 0), (2, .int x2), (3, .int x3), (4, .int x4), (5, .int x5), (6, .int x6), (7, .int x7)] [] σ (k60 x2 x3 x4 x5 x6 x7 σ)) (x2 : Int32) (x3 : Int32) (x4 : Int32) (x5 : Int32) (x6 : Int32) (x7 : Int32)  (σ : k_Mem) : k_GO m_X6_drift E k_vi 151 [(0, k_rf E 0), (2, .int x2), (3, .int x3), (4, .int x4), (5, .int x5), (6, .int x6), (7, .int x7)] [] σ (j_X6_drift_151  k60 x2 x3 x4 x5 x6 x7 σ) := by
  unfold j_X6_drift_151
  refine r_iinc 1 (by decide) 6 rfl [(7, .int _), (0, k_rf E 0), (2, .int _), (3, .int _), (4, .int _), (5, .int _), (6, .int _)] rfl (by decide) 154 rfl dX6_drift_151 ?_
  refine r_goto 60 (by decide) dX6_drift_154 ?_
  exact r_sub [1, 2, 3, 4, 5, 6, 0] rfl (hk60 _ _ _ _ _ _  _)
def l_X6_drift_60   : Nat → Int32 → Int32 → Int32 → Int32 → Int32 → Int32 → k_Mem → Option (Int32 × k_Mem)
  | 0, _, _, _, _, _, _, _ => none
  | n + 1, x2, x3, x4, x5, x6, x7, σ =>
    if x2 ≤ x7 then (
      if x3 = 1 then (
        some (x6, σ)
      ) else (
        k_bd (f_X0_court 14 0 σ) (fun _ σ10 =>
          k_bd (f_X0_pairs   σ10) (fun r11 σ11 =>
            some (r11, σ11)
          )
        )
      )
    ) else (
      k_bd (f_X6_nextSeed  x5 σ) (fun r12 σ12 =>
        k_bd (f_X6_drawn  r12 σ12) (fun r13 σ13 =>
          if x4 = 0 then none else (
            k_bd (f_X5_byOrder 14 (k_rem r13 x4) σ13) (fun r15 σ15 =>
              k_bd (f_X6_nextSeed  r12 σ15) (fun r16 σ16 =>
                k_bd (f_X6_drawn  r16 σ16) (fun r17 σ17 =>
                  if x4 = 0 then none else (
                    k_bd (f_X5_byOrder 14 (k_rem r17 x4) σ17) (fun r19 σ19 =>
                      if k_in r15 8 then (
                        if x3 = 1 then (
                          k_bd (f_X0_court 14 0 (k_mset σ19 19 (k_n r15) r19)) (fun _ σ21 =>
                            k_bd (f_X0_allLikes   σ21) (fun r22 σ22 =>
                              j_X6_drift_151  (fun x2 x3 x4 x5 x6 x7 σ => l_X6_drift_60   n x2 x3 x4 x5 x6 x7 σ) x2 x3 x4 r16 (x6 + r22) x7 σ22
                            )
                          )
                        ) else (
                          j_X6_drift_151  (fun x2 x3 x4 x5 x6 x7 σ => l_X6_drift_60   n x2 x3 x4 x5 x6 x7 σ) x2 x3 x4 r16 x6 x7 (k_mset σ19 19 (k_n r15) r19)
                        )
                      ) else none
                    )
                  )
                )
              )
            )
          )
        )
      )
    )
set_option maxRecDepth 100000 in
theorem gl_X6_drift_60 (E : k_EV)     : ∀ (n : Nat) (x2 : Int32) (x3 : Int32) (x4 : Int32) (x5 : Int32) (x6 : Int32) (x7 : Int32)  (σ : k_Mem), k_GO m_X6_drift E k_vi 60 [(0, k_rf E 0), (2, .int x2), (3, .int x3), (4, .int x4), (5, .int x5), (6, .int x6), (7, .int x7)] [] σ (l_X6_drift_60   n x2 x3 x4 x5 x6 x7 σ) := by
  intro n
  induction n with
  | zero => intro x2 x3 x4 x5 x6 x7  σ; exact r_none
  | succ n ih =>
    intro x2 x3 x4 x5 x6 x7  σ
    rw [l_X6_drift_60]
    refine r_iload 6 rfl 62 rfl dX6_drift_60 ?_
    refine r_iload_n 1 rfl rfl 63 rfl dX6_drift_62 ?_
    refine r_icmp_ge 157 66 rfl (by decide) dX6_drift_63 (fun c8 => ?_) (fun c8 => ?_)
    · refine r_iload_n 2 rfl rfl 158 rfl dX6_drift_157 ?_
      refine r_iconst 1 (by decide) 159 rfl dX6_drift_158 ?_
      refine r_icmp_ne 165 162 rfl (by decide) dX6_drift_159 (fun c9 => ?_) (fun c9 => ?_)
      · refine r_iload 5 rfl 164 rfl dX6_drift_162 ?_
        exact r_iret rfl dX6_drift_164
      · refine r_aload_n 0 rfl rfl 166 rfl dX6_drift_165 ?_
        refine r_getr fl_X6_44 sh_0 rfl 169 rfl dX6_drift_166 ?_
        refine r_aload_n 0 rfl rfl 170 rfl dX6_drift_169 ?_
        refine r_getr fl_X6_16 sh_0 rfl 173 rfl dX6_drift_170 ?_
        refine r_iconst 0 (by decide) 174 rfl dX6_drift_173 ?_
        refine r_callv (c_X0_court E 14 tw_14 _ _) rfl sh_46 rfl ml_X6_201 cw_X0_court vw_X0_court (by decide) (Nat.le_of_ble_eq_true rfl) 177 rfl dX6_drift_174 (fun _ σ10 => ?_)
        refine r_aload_n 0 rfl rfl 178 rfl dX6_drift_177 ?_
        refine r_getr fl_X6_44 sh_0 rfl 181 rfl dX6_drift_178 ?_
        refine r_calli (c_X0_pairs E    _) rfl sh_46 rfl ml_X6_208 cw_X0_pairs vw_X0_pairs (by decide) (Nat.le_of_ble_eq_true rfl) 184 rfl dX6_drift_181 (fun r11 σ11 => ?_)
        exact r_iret rfl dX6_drift_184
    · refine r_iload 4 rfl 68 rfl dX6_drift_66 ?_
      refine r_callsi (c_X6_nextSeed E   _ _) rfl ml_X6_286 cw_X6_nextSeed sw_X6_nextSeed (by decide) (Nat.le_of_ble_eq_true rfl) 71 rfl dX6_drift_68 (fun r12 σ12 => ?_)
      refine r_istore [(5, .int _), (0, k_rf E 0), (2, .int _), (3, .int _), (4, .int _), (6, .int _), (7, .int _)] rfl (by decide) 73 rfl dX6_drift_71 ?_
      refine r_aload_n 1 rfl rfl 74 rfl dX6_drift_73 ?_
      refine r_getr fl_X6_16 sh_0 rfl 77 rfl dX6_drift_74 ?_
      refine r_iload 0 rfl 79 rfl dX6_drift_77 ?_
      refine r_callsi (c_X6_drawn E   _ _) rfl ml_X6_289 cw_X6_drawn sw_X6_drawn (by decide) (Nat.le_of_ble_eq_true rfl) 82 rfl dX6_drift_79 (fun r13 σ13 => ?_)
      refine r_iload 4 rfl 84 rfl dX6_drift_82 ?_
      refine r_nz (fun c14 => ?_)
      refine r_irem c14 85 rfl dX6_drift_84 ?_
      refine r_calli (c_X5_byOrder E 14 tw_14 _ _) rfl sh_14 rfl ml_X6_292 cw_X5_byOrder vw_X5_byOrder (by decide) (Nat.le_of_ble_eq_true rfl) 88 rfl dX6_drift_85 (fun r15 σ15 => ?_)
      refine r_istore [(8, .int _), (5, .int _), (0, k_rf E 0), (2, .int _), (3, .int _), (4, .int _), (6, .int _), (7, .int _)] rfl (by decide) 90 rfl dX6_drift_88 ?_
      refine r_iload 1 rfl 92 rfl dX6_drift_90 ?_
      refine r_callsi (c_X6_nextSeed E   _ _) rfl ml_X6_286 cw_X6_nextSeed sw_X6_nextSeed (by decide) (Nat.le_of_ble_eq_true rfl) 95 rfl dX6_drift_92 (fun r16 σ16 => ?_)
      refine r_istore [(5, .int _), (8, .int _), (0, k_rf E 0), (2, .int _), (3, .int _), (4, .int _), (6, .int _), (7, .int _)] rfl (by decide) 97 rfl dX6_drift_95 ?_
      refine r_aload_n 2 rfl rfl 98 rfl dX6_drift_97 ?_
      refine r_getr fl_X6_16 sh_0 rfl 101 rfl dX6_drift_98 ?_
      refine r_getr fl_X6_128 sh_14 rfl 104 rfl dX6_drift_101 ?_
      refine r_iload 1 rfl 106 rfl dX6_drift_104 ?_
      refine r_aload_n 2 rfl rfl 107 rfl dX6_drift_106 ?_
      refine r_getr fl_X6_16 sh_0 rfl 110 rfl dX6_drift_107 ?_
      refine r_iload 0 rfl 112 rfl dX6_drift_110 ?_
      refine r_callsi (c_X6_drawn E   _ _) rfl ml_X6_289 cw_X6_drawn sw_X6_drawn (by decide) (Nat.le_of_ble_eq_true rfl) 115 rfl dX6_drift_112 (fun r17 σ17 => ?_)
      refine r_iload 5 rfl 117 rfl dX6_drift_115 ?_
      refine r_nz (fun c18 => ?_)
      refine r_irem c18 118 rfl dX6_drift_117 ?_
      refine r_calli (c_X5_byOrder E 14 tw_14 _ _) rfl sh_14 rfl ml_X6_292 cw_X5_byOrder vw_X5_byOrder (by decide) (Nat.le_of_ble_eq_true rfl) 121 rfl dX6_drift_118 (fun r19 σ19 => ?_)
      refine r_iast sh_19 122 rfl dX6_drift_121 ?_
      refine r_iload_n 4 rfl rfl 123 rfl dX6_drift_122 ?_
      refine r_iconst 1 (by decide) 124 rfl dX6_drift_123 ?_
      refine r_icmp_ne 151 127 rfl (by decide) dX6_drift_124 (fun c20 => ?_) (fun c20 => ?_)
      · refine r_aload_n 2 rfl rfl 128 rfl dX6_drift_127 ?_
        refine r_getr fl_X6_44 sh_0 rfl 131 rfl dX6_drift_128 ?_
        refine r_aload_n 2 rfl rfl 132 rfl dX6_drift_131 ?_
        refine r_getr fl_X6_16 sh_0 rfl 135 rfl dX6_drift_132 ?_
        refine r_iconst 0 (by decide) 136 rfl dX6_drift_135 ?_
        refine r_callv (c_X0_court E 14 tw_14 _ _) rfl sh_46 rfl ml_X6_201 cw_X0_court vw_X0_court (by decide) (Nat.le_of_ble_eq_true rfl) 139 rfl dX6_drift_136 (fun _ σ21 => ?_)
        refine r_iload 6 rfl 141 rfl dX6_drift_139 ?_
        refine r_aload_n 2 rfl rfl 142 rfl dX6_drift_141 ?_
        refine r_getr fl_X6_44 sh_0 rfl 145 rfl dX6_drift_142 ?_
        refine r_calli (c_X0_allLikes E    _) rfl sh_46 rfl ml_X6_211 cw_X0_allLikes vw_X0_allLikes (by decide) (Nat.le_of_ble_eq_true rfl) 148 rfl dX6_drift_145 (fun r22 σ22 => ?_)
        refine r_iadd 149 rfl dX6_drift_148 ?_
        refine r_istore [(6, .int _), (5, .int _), (8, .int _), (0, k_rf E 0), (2, .int _), (3, .int _), (4, .int _), (7, .int _)] rfl (by decide) 151 rfl dX6_drift_149 ?_
        exact r_sub [3, 4, 5, 6, 1, 0, 7] rfl (gj_X6_drift_151 E   _ (fun x2 x3 x4 x5 x6 x7  σ => ih x2 x3 x4 x5 x6 x7  σ) _ _ _ _ _ _  _)
      · exact r_sub [2, 3, 4, 5, 0, 6, 7] rfl (gj_X6_drift_151 E   _ (fun x2 x3 x4 x5 x6 x7  σ => ih x2 x3 x4 x5 x6 x7  σ) _ _ _ _ _ _  _)
def f_X6_drift  (x1 : Int32) (x2 : Int32) (x3 : Int32) (σ : k_Mem) : Option (Int32 × k_Mem) :=
  if x2 < 1 then (
    some ((-1), σ)
  ) else (
    if 60 < x2 then (
      some ((-1), σ)
    ) else (
      if x3 < 0 then (
        some ((-1), σ)
      ) else (
        if x3 ≤ 1 then (
          k_bd (f_X5_size 6  σ) (fun r5 σ5 =>
            if 1 ≤ r5 then (
              k_bd (f_X5_become 14 6  σ5) (fun _ σ7 =>
                l_X6_drift_60   1000 x2 x3 r5 x1 0 0 σ7
              )
            ) else (
              some ((-2), σ5)
            )
          )
        ) else (
          some ((-1), σ)
        )
      )
    )
  )
set_option maxRecDepth 100000 in
theorem c_X6_drift (E : k_EV)   (x1 : Int32) (x2 : Int32) (x3 : Int32) (σ : k_Mem) : k_MC m_X6_drift E k_vi [k_rf E 0, .int x1, .int x2, .int x3] σ (f_X6_drift x1 x2 x3 σ) := by
  refine k_MC_of ⟨by decide, by decide⟩ (Nat.le_of_ble_eq_true rfl) ?_
  show k_GO _ _ _ 0 [(0, k_rf E 0), (1, .int x1), (2, .int x2), (3, .int x3)] [] σ _
  unfold f_X6_drift
  refine r_iload_n 2 rfl rfl 1 rfl dX6_drift_0 ?_
  refine r_iconst 1 (by decide) 2 rfl dX6_drift_1 ?_
  refine r_icmp_lt 20 5 rfl (by decide) dX6_drift_2 (fun c1 => ?_) (fun c1 => ?_)
  · refine r_iconst (-1) (by decide) 21 rfl dX6_drift_20 ?_
    exact r_iret rfl dX6_drift_21
  · refine r_iload_n 2 rfl rfl 6 rfl dX6_drift_5 ?_
    refine r_bipush 60 (by decide) 8 rfl dX6_drift_6 ?_
    refine r_icmp_gt 20 11 rfl (by decide) dX6_drift_8 (fun c2 => ?_) (fun c2 => ?_)
    · refine r_iconst (-1) (by decide) 21 rfl dX6_drift_20 ?_
      exact r_iret rfl dX6_drift_21
    · refine r_iload_n 3 rfl rfl 12 rfl dX6_drift_11 ?_
      refine r_if_lt 20 15 rfl (by decide) dX6_drift_12 (fun c3 => ?_) (fun c3 => ?_)
      · refine r_iconst (-1) (by decide) 21 rfl dX6_drift_20 ?_
        exact r_iret rfl dX6_drift_21
      · refine r_iload_n 3 rfl rfl 16 rfl dX6_drift_15 ?_
        refine r_iconst 1 (by decide) 17 rfl dX6_drift_16 ?_
        refine r_icmp_le 22 20 rfl (by decide) dX6_drift_17 (fun c4 => ?_) (fun c4 => ?_)
        · refine r_aload_n 0 rfl rfl 23 rfl dX6_drift_22 ?_
          refine r_getr fl_X6_10 sh_0 rfl 26 rfl dX6_drift_23 ?_
          refine r_calli (c_X5_size E 6 tw_6  _) rfl sh_6 rfl ml_X6_261 cw_X5_size vw_X5_size (by decide) (Nat.le_of_ble_eq_true rfl) 29 rfl dX6_drift_26 (fun r5 σ5 => ?_)
          refine r_istore [(4, .int _), (0, k_rf E 0), (1, .int _), (2, .int _), (3, .int _)] rfl (by decide) 31 rfl dX6_drift_29 ?_
          refine r_iload 0 rfl 33 rfl dX6_drift_31 ?_
          refine r_iconst 1 (by decide) 34 rfl dX6_drift_33 ?_
          refine r_icmp_ge 40 37 rfl (by decide) dX6_drift_34 (fun c6 => ?_) (fun c6 => ?_)
          · refine r_aload_n 1 rfl rfl 41 rfl dX6_drift_40 ?_
            refine r_getr fl_X6_16 sh_0 rfl 44 rfl dX6_drift_41 ?_
            refine r_aload_n 1 rfl rfl 45 rfl dX6_drift_44 ?_
            refine r_getr fl_X6_10 sh_0 rfl 48 rfl dX6_drift_45 ?_
            refine r_callv (c_X5_become E 14 6 tw_14 tw_6  _) rfl sh_14 rfl ml_X6_86 cw_X5_become vw_X5_become (by decide) (Nat.le_of_ble_eq_true rfl) 51 rfl dX6_drift_48 (fun _ σ7 => ?_)
            refine r_iload_n 2 rfl rfl 52 rfl dX6_drift_51 ?_
            refine r_istore [(5, .int _), (4, .int _), (0, k_rf E 0), (1, .int _), (2, .int _), (3, .int _)] rfl (by decide) 54 rfl dX6_drift_52 ?_
            refine r_iconst 0 (by decide) 55 rfl dX6_drift_54 ?_
            refine r_istore [(6, .int _), (5, .int _), (4, .int _), (0, k_rf E 0), (1, .int _), (2, .int _), (3, .int _)] rfl (by decide) 57 rfl dX6_drift_55 ?_
            refine r_iconst 0 (by decide) 58 rfl dX6_drift_57 ?_
            refine r_istore [(7, .int _), (6, .int _), (5, .int _), (4, .int _), (0, k_rf E 0), (1, .int _), (2, .int _), (3, .int _)] rfl (by decide) 60 rfl dX6_drift_58 ?_
            exact r_sub [4, 6, 7, 3, 2, 1, 0] rfl (gl_X6_drift_60 E     1000 _ _ _ _ _ _  _)
          · refine r_bipush (-2) (by decide) 39 rfl dX6_drift_37 ?_
            exact r_iret rfl dX6_drift_39
        · refine r_iconst (-1) (by decide) 21 rfl dX6_drift_20 ?_
          exact r_iret rfl dX6_drift_21
/-! HandMarket.hasImage(I)Z -/
def f_X6_hasImage  (x1 : Int32) (σ : k_Mem) : Option (Int32 × k_Mem) :=
  if ((k_shr (σ 0 4) x1) &&& 1) = 1 then (
    some (1, σ)
  ) else (
    some (0, σ)
  )
set_option maxRecDepth 100000 in
theorem c_X6_hasImage (E : k_EV)   (x1 : Int32) (σ : k_Mem) : k_MC m_X6_hasImage E k_vi [k_rf E 0, .int x1] σ (f_X6_hasImage x1 σ) := by
  refine k_MC_of ⟨by decide, by decide⟩ (Nat.le_of_ble_eq_true rfl) ?_
  show k_GO _ _ _ 0 [(0, k_rf E 0), (1, .int x1)] [] σ _
  unfold f_X6_hasImage
  refine r_aload_n 0 rfl rfl 1 rfl dX6_hasImage_0 ?_
  refine r_geti fl_X6_91 sh_0 rfl 4 rfl dX6_hasImage_1 ?_
  refine r_iload_n 1 rfl rfl 5 rfl dX6_hasImage_4 ?_
  refine r_ishr 6 rfl dX6_hasImage_5 ?_
  refine r_iconst 1 (by decide) 7 rfl dX6_hasImage_6 ?_
  refine r_iand 8 rfl dX6_hasImage_7 ?_
  refine r_iconst 1 (by decide) 9 rfl dX6_hasImage_8 ?_
  refine r_icmp_ne 16 12 rfl (by decide) dX6_hasImage_9 (fun c1 => ?_) (fun c1 => ?_)
  · refine r_iconst 1 (by decide) 13 rfl dX6_hasImage_12 ?_
    refine r_goto 17 (by decide) dX6_hasImage_13 ?_
    exact r_zret rfl (Or.inr rfl) dX6_hasImage_17
  · refine r_iconst 0 (by decide) 17 rfl dX6_hasImage_16 ?_
    exact r_zret rfl (Or.inl rfl) dX6_hasImage_17
/-! HandMarket.imageOf(I)LHandMarket$Town; -/
def f_X6_imageOf  (x1 : Int32) (σ : k_Mem) : Option (Nat × k_Mem) :=
  if x1 = 0 then (
    some (22, σ)
  ) else (
    some (30, σ)
  )
set_option maxRecDepth 100000 in
theorem c_X6_imageOf (E : k_EV)   (x1 : Int32) (σ : k_Mem) : k_MC m_X6_imageOf E (k_vr E) [k_rf E 0, .int x1] σ (f_X6_imageOf x1 σ) := by
  refine k_MC_of ⟨by decide, by decide⟩ (Nat.le_of_ble_eq_true rfl) ?_
  show k_GO _ _ _ 0 [(0, k_rf E 0), (1, .int x1)] [] σ _
  unfold f_X6_imageOf
  refine r_iload_n 1 rfl rfl 1 rfl dX6_imageOf_0 ?_
  refine r_if_ne 11 4 rfl (by decide) dX6_imageOf_1 (fun c1 => ?_) (fun c1 => ?_)
  · refine r_aload_n 0 rfl rfl 5 rfl dX6_imageOf_4 ?_
    refine r_getr fl_X6_19 sh_0 rfl 8 rfl dX6_imageOf_5 ?_
    refine r_goto 15 (by decide) dX6_imageOf_8 ?_
    exact r_aret rfl dX6_imageOf_15
  · refine r_aload_n 0 rfl rfl 12 rfl dX6_imageOf_11 ?_
    refine r_getr fl_X6_22 sh_0 rfl 15 rfl dX6_imageOf_12 ?_
    exact r_aret rfl dX6_imageOf_15
/-! HandMarket.keep(I)I -/
def j_X6_keep_24   (x1 : Int32) (xs0 : Int32) (σ : k_Mem) : Option (Int32 × k_Mem) :=
  k_bd (f_X6_imageOf  x1 σ) (fun r5 σ5 =>
    if k_isTb r5 then (
      k_bd (f_X5_become r5 6  σ5) (fun _ σ7 =>
        some (xs0, (k_mset σ7 0 4 ((σ7 0 4) ||| (k_shl 1 x1))))
      )
    ) else none
  )
set_option maxRecDepth 100000 in
theorem gj_X6_keep_24 (E : k_EV)     (x1 : Int32) (xs0 : Int32)  (σ : k_Mem) : k_GO m_X6_keep E k_vi 24 [(0, k_rf E 0), (1, .int x1)] [.int xs0] σ (j_X6_keep_24   x1 xs0 σ) := by
  unfold j_X6_keep_24
  refine r_istore_n [(2, .int _), (0, k_rf E 0), (1, .int _)] rfl rfl (by decide) 25 rfl dX6_keep_24 ?_
  refine r_aload_n 1 rfl rfl 26 rfl dX6_keep_25 ?_
  refine r_iload_n 2 rfl rfl 27 rfl dX6_keep_26 ?_
  refine r_callr (c_X6_imageOf E   _ _) rfl sh_0 rfl ml_X6_298 cw_X6_imageOf vw_X6_imageOf (by decide) (Nat.le_of_ble_eq_true rfl) 30 rfl dX6_keep_27 (fun r5 σ5 => ?_)
  refine r_grd (fun c6 => ?_)
  refine r_aload_n 1 rfl rfl 31 rfl dX6_keep_30 ?_
  refine r_getr fl_X6_10 sh_0 rfl 34 rfl dX6_keep_31 ?_
  refine r_callv (c_X5_become E r5 6 (k_isT_of c6) tw_6  _) rfl (k_isT_of c6).1 rfl ml_X6_86 cw_X5_become vw_X5_become (by decide) (Nat.le_of_ble_eq_true rfl) 37 rfl dX6_keep_34 (fun _ σ7 => ?_)
  refine r_aload_n 1 rfl rfl 38 rfl dX6_keep_37 ?_
  refine r_dup 39 rfl dX6_keep_38 rfl ?_
  refine r_geti fl_X6_91 sh_0 rfl 42 rfl dX6_keep_39 ?_
  refine r_iconst 1 (by decide) 43 rfl dX6_keep_42 ?_
  refine r_iload_n 2 rfl rfl 44 rfl dX6_keep_43 ?_
  refine r_ishl 45 rfl dX6_keep_44 ?_
  refine r_ior 46 rfl dX6_keep_45 ?_
  refine r_puti fp_X6_91 sh_0 rfl 49 rfl dX6_keep_46 ?_
  refine r_iload_n 0 rfl rfl 50 rfl dX6_keep_49 ?_
  exact r_iret rfl dX6_keep_50
def f_X6_keep  (x1 : Int32) (σ : k_Mem) : Option (Int32 × k_Mem) :=
  if x1 < 0 then (
    some ((-1), σ)
  ) else (
    if x1 ≤ 1 then (
      k_bd (f_X6_hasImage  x1 σ) (fun r3 σ3 =>
        if r3 = 0 then (
          j_X6_keep_24   x1 0 σ3
        ) else (
          j_X6_keep_24   x1 1 σ3
        )
      )
    ) else (
      some ((-1), σ)
    )
  )
set_option maxRecDepth 100000 in
theorem c_X6_keep (E : k_EV)   (x1 : Int32) (σ : k_Mem) : k_MC m_X6_keep E k_vi [k_rf E 0, .int x1] σ (f_X6_keep x1 σ) := by
  refine k_MC_of ⟨by decide, by decide⟩ (Nat.le_of_ble_eq_true rfl) ?_
  show k_GO _ _ _ 0 [(0, k_rf E 0), (1, .int x1)] [] σ _
  unfold f_X6_keep
  refine r_iload_n 1 rfl rfl 1 rfl dX6_keep_0 ?_
  refine r_if_lt 9 4 rfl (by decide) dX6_keep_1 (fun c1 => ?_) (fun c1 => ?_)
  · refine r_iconst (-1) (by decide) 10 rfl dX6_keep_9 ?_
    exact r_iret rfl dX6_keep_10
  · refine r_iload_n 1 rfl rfl 5 rfl dX6_keep_4 ?_
    refine r_iconst 1 (by decide) 6 rfl dX6_keep_5 ?_
    refine r_icmp_le 11 9 rfl (by decide) dX6_keep_6 (fun c2 => ?_) (fun c2 => ?_)
    · refine r_aload_n 0 rfl rfl 12 rfl dX6_keep_11 ?_
      refine r_iload_n 1 rfl rfl 13 rfl dX6_keep_12 ?_
      refine r_calli (c_X6_hasImage E   _ _) rfl sh_0 rfl ml_X6_295 cw_X6_hasImage vw_X6_hasImage (by decide) (Nat.le_of_ble_eq_true rfl) 16 rfl dX6_keep_13 (fun r3 σ3 => ?_)
      refine r_if_eq 23 19 rfl (by decide) dX6_keep_16 (fun c4 => ?_) (fun c4 => ?_)
      · refine r_iconst 0 (by decide) 24 rfl dX6_keep_23 ?_
        exact r_sub [0, 1] rfl (gj_X6_keep_24 E     _ _  _)
      · refine r_iconst 1 (by decide) 20 rfl dX6_keep_19 ?_
        refine r_goto 24 (by decide) dX6_keep_20 ?_
        exact r_sub [0, 1] rfl (gj_X6_keep_24 E     _ _  _)
    · refine r_iconst (-1) (by decide) 10 rfl dX6_keep_9 ?_
      exact r_iret rfl dX6_keep_10
/-! HandMarket.back(I)I -/
def f_X6_back  (x1 : Int32) (σ : k_Mem) : Option (Int32 × k_Mem) :=
  if x1 < 0 then (
    some ((-1), σ)
  ) else (
    if x1 ≤ 1 then (
      k_bd (f_X6_hasImage  x1 σ) (fun r3 σ3 =>
        if r3 = 0 then (
          some ((-2), σ3)
        ) else (
          k_bd (f_X6_imageOf  x1 σ3) (fun r5 σ5 =>
            if k_isTb r5 then (
              k_bd (f_X5_become 6 r5  σ5) (fun _ σ7 =>
                some ((σ7 6 10), σ7)
              )
            ) else none
          )
        )
      )
    ) else (
      some ((-1), σ)
    )
  )
set_option maxRecDepth 100000 in
theorem c_X6_back (E : k_EV)   (x1 : Int32) (σ : k_Mem) : k_MC m_X6_back E k_vi [k_rf E 0, .int x1] σ (f_X6_back x1 σ) := by
  refine k_MC_of ⟨by decide, by decide⟩ (Nat.le_of_ble_eq_true rfl) ?_
  show k_GO _ _ _ 0 [(0, k_rf E 0), (1, .int x1)] [] σ _
  unfold f_X6_back
  refine r_iload_n 1 rfl rfl 1 rfl dX6_back_0 ?_
  refine r_if_lt 9 4 rfl (by decide) dX6_back_1 (fun c1 => ?_) (fun c1 => ?_)
  · refine r_iconst (-1) (by decide) 10 rfl dX6_back_9 ?_
    exact r_iret rfl dX6_back_10
  · refine r_iload_n 1 rfl rfl 5 rfl dX6_back_4 ?_
    refine r_iconst 1 (by decide) 6 rfl dX6_back_5 ?_
    refine r_icmp_le 11 9 rfl (by decide) dX6_back_6 (fun c2 => ?_) (fun c2 => ?_)
    · refine r_aload_n 0 rfl rfl 12 rfl dX6_back_11 ?_
      refine r_iload_n 1 rfl rfl 13 rfl dX6_back_12 ?_
      refine r_calli (c_X6_hasImage E   _ _) rfl sh_0 rfl ml_X6_295 cw_X6_hasImage vw_X6_hasImage (by decide) (Nat.le_of_ble_eq_true rfl) 16 rfl dX6_back_13 (fun r3 σ3 => ?_)
      refine r_if_ne 22 19 rfl (by decide) dX6_back_16 (fun c4 => ?_) (fun c4 => ?_)
      · refine r_bipush (-2) (by decide) 21 rfl dX6_back_19 ?_
        exact r_iret rfl dX6_back_21
      · refine r_aload_n 0 rfl rfl 23 rfl dX6_back_22 ?_
        refine r_getr fl_X6_10 sh_0 rfl 26 rfl dX6_back_23 ?_
        refine r_aload_n 0 rfl rfl 27 rfl dX6_back_26 ?_
        refine r_iload_n 1 rfl rfl 28 rfl dX6_back_27 ?_
        refine r_callr (c_X6_imageOf E   _ _) rfl sh_0 rfl ml_X6_298 cw_X6_imageOf vw_X6_imageOf (by decide) (Nat.le_of_ble_eq_true rfl) 31 rfl dX6_back_28 (fun r5 σ5 => ?_)
        refine r_grd (fun c6 => ?_)
        refine r_callv (c_X5_become E 6 r5 tw_6 (k_isT_of c6)  _) rfl sh_6 rfl ml_X6_86 cw_X5_become vw_X5_become (by decide) (Nat.le_of_ble_eq_true rfl) 34 rfl dX6_back_31 (fun _ σ7 => ?_)
        refine r_aload_n 0 rfl rfl 35 rfl dX6_back_34 ?_
        refine r_getr fl_X6_10 sh_0 rfl 38 rfl dX6_back_35 ?_
        refine r_geti fl_X6_110 sh_6 rfl 41 rfl dX6_back_38 ?_
        exact r_iret rfl dX6_back_41
    · refine r_iconst (-1) (by decide) 10 rfl dX6_back_9 ?_
      exact r_iret rfl dX6_back_10
/-! HandMarket.isSheet(I)Z -/
def f_X6_isSheet  (x0 : Int32) (σ : k_Mem) : Option (Int32 × k_Mem) :=
  if x0 < 0 then (
    some (0, σ)
  ) else (
    if 4 ≤ x0 then (
      some (0, σ)
    ) else (
      some (1, σ)
    )
  )
set_option maxRecDepth 100000 in
theorem c_X6_isSheet (E : k_EV)   (x0 : Int32) (σ : k_Mem) : k_MC m_X6_isSheet E k_vi [.int x0] σ (f_X6_isSheet x0 σ) := by
  refine k_MC_of ⟨by decide, by decide⟩ (Nat.le_of_ble_eq_true rfl) ?_
  show k_GO _ _ _ 0 [(0, .int x0)] [] σ _
  unfold f_X6_isSheet
  refine r_iload_n 0 rfl rfl 1 rfl dX6_isSheet_0 ?_
  refine r_if_lt 13 4 rfl (by decide) dX6_isSheet_1 (fun c1 => ?_) (fun c1 => ?_)
  · refine r_iconst 0 (by decide) 14 rfl dX6_isSheet_13 ?_
    exact r_zret rfl (Or.inl rfl) dX6_isSheet_14
  · refine r_iload_n 0 rfl rfl 5 rfl dX6_isSheet_4 ?_
    refine r_iconst 4 (by decide) 6 rfl dX6_isSheet_5 ?_
    refine r_icmp_ge 13 9 rfl (by decide) dX6_isSheet_6 (fun c2 => ?_) (fun c2 => ?_)
    · refine r_iconst 0 (by decide) 14 rfl dX6_isSheet_13 ?_
      exact r_zret rfl (Or.inl rfl) dX6_isSheet_14
    · refine r_iconst 1 (by decide) 10 rfl dX6_isSheet_9 ?_
      refine r_goto 14 (by decide) dX6_isSheet_10 ?_
      exact r_zret rfl (Or.inr rfl) dX6_isSheet_14
/-! HandMarket.isLane(I)Z -/
def f_X6_isLane  (x0 : Int32) (σ : k_Mem) : Option (Int32 × k_Mem) :=
  if x0 < 0 then (
    some (0, σ)
  ) else (
    if 3 ≤ x0 then (
      some (0, σ)
    ) else (
      some (1, σ)
    )
  )
set_option maxRecDepth 100000 in
theorem c_X6_isLane (E : k_EV)   (x0 : Int32) (σ : k_Mem) : k_MC m_X6_isLane E k_vi [.int x0] σ (f_X6_isLane x0 σ) := by
  refine k_MC_of ⟨by decide, by decide⟩ (Nat.le_of_ble_eq_true rfl) ?_
  show k_GO _ _ _ 0 [(0, .int x0)] [] σ _
  unfold f_X6_isLane
  refine r_iload_n 0 rfl rfl 1 rfl dX6_isLane_0 ?_
  refine r_if_lt 13 4 rfl (by decide) dX6_isLane_1 (fun c1 => ?_) (fun c1 => ?_)
  · refine r_iconst 0 (by decide) 14 rfl dX6_isLane_13 ?_
    exact r_zret rfl (Or.inl rfl) dX6_isLane_14
  · refine r_iload_n 0 rfl rfl 5 rfl dX6_isLane_4 ?_
    refine r_iconst 3 (by decide) 6 rfl dX6_isLane_5 ?_
    refine r_icmp_ge 13 9 rfl (by decide) dX6_isLane_6 (fun c2 => ?_) (fun c2 => ?_)
    · refine r_iconst 0 (by decide) 14 rfl dX6_isLane_13 ?_
      exact r_zret rfl (Or.inl rfl) dX6_isLane_14
    · refine r_iconst 1 (by decide) 10 rfl dX6_isLane_9 ?_
      refine r_goto 14 (by decide) dX6_isLane_10 ?_
      exact r_zret rfl (Or.inr rfl) dX6_isLane_14
/-! HandMarket.sheet(III)I -/
def f_X6_sheet  (x1 : Int32) (x2 : Int32) (x3 : Int32) (σ : k_Mem) : Option (Int32 × k_Mem) :=
  k_bd (f_X6_isSheet  x1 σ) (fun r1 σ1 =>
    if r1 = 0 then (
      some ((-1), σ1)
    ) else (
      k_bd (f_X6_isLane  x2 σ1) (fun r3 σ3 =>
        if r3 = 0 then (
          some ((-1), σ3)
        ) else (
          if x3 ≤ 40 then (
            if 0 ≤ x3 then (
              if k_in x1 4 then (
                if k_isSb (59 + 2 * k_n x1) then (
                  k_bd (f_X2_renew (59 + 2 * k_n x1) x2 x3 σ3) (fun _ σ8 =>
                    some (1, σ8)
                  )
                ) else none
              ) else none
            ) else (
              some ((-14), σ3)
            )
          ) else (
            some ((-1), σ3)
          )
        )
      )
    )
  )
set_option maxRecDepth 100000 in
theorem c_X6_sheet (E : k_EV)   (x1 : Int32) (x2 : Int32) (x3 : Int32) (σ : k_Mem) : k_MC m_X6_sheet E k_vi [k_rf E 0, .int x1, .int x2, .int x3] σ (f_X6_sheet x1 x2 x3 σ) := by
  refine k_MC_of ⟨by decide, by decide⟩ (Nat.le_of_ble_eq_true rfl) ?_
  show k_GO _ _ _ 0 [(0, k_rf E 0), (1, .int x1), (2, .int x2), (3, .int x3)] [] σ _
  unfold f_X6_sheet
  refine r_iload_n 1 rfl rfl 1 rfl dX6_sheet_0 ?_
  refine r_callsi (c_X6_isSheet E   _ _) rfl ml_X6_302 cw_X6_isSheet sw_X6_isSheet (by decide) (Nat.le_of_ble_eq_true rfl) 4 rfl dX6_sheet_1 (fun r1 σ1 => ?_)
  refine r_if_eq 20 7 rfl (by decide) dX6_sheet_4 (fun c2 => ?_) (fun c2 => ?_)
  · refine r_iconst (-1) (by decide) 21 rfl dX6_sheet_20 ?_
    exact r_iret rfl dX6_sheet_21
  · refine r_iload_n 2 rfl rfl 8 rfl dX6_sheet_7 ?_
    refine r_callsi (c_X6_isLane E   _ _) rfl ml_X6_305 cw_X6_isLane sw_X6_isLane (by decide) (Nat.le_of_ble_eq_true rfl) 11 rfl dX6_sheet_8 (fun r3 σ3 => ?_)
    refine r_if_eq 20 14 rfl (by decide) dX6_sheet_11 (fun c4 => ?_) (fun c4 => ?_)
    · refine r_iconst (-1) (by decide) 21 rfl dX6_sheet_20 ?_
      exact r_iret rfl dX6_sheet_21
    · refine r_iload_n 3 rfl rfl 15 rfl dX6_sheet_14 ?_
      refine r_bipush 40 (by decide) 17 rfl dX6_sheet_15 ?_
      refine r_icmp_le 22 20 rfl (by decide) dX6_sheet_17 (fun c5 => ?_) (fun c5 => ?_)
      · refine r_iload_n 3 rfl rfl 23 rfl dX6_sheet_22 ?_
        refine r_if_ge 29 26 rfl (by decide) dX6_sheet_23 (fun c6 => ?_) (fun c6 => ?_)
        · refine r_aload_n 0 rfl rfl 30 rfl dX6_sheet_29 ?_
          refine r_getr fl_X6_61 sh_0 rfl 33 rfl dX6_sheet_30 ?_
          refine r_iload_n 1 rfl rfl 34 rfl dX6_sheet_33 ?_
          refine r_aald sh_5 35 rfl dX6_sheet_34 ?_
          refine r_grd (fun c7 => ?_)
          refine r_iload_n 2 rfl rfl 36 rfl dX6_sheet_35 ?_
          refine r_iload_n 3 rfl rfl 37 rfl dX6_sheet_36 ?_
          refine r_callv (c_X2_renew E (59 + 2 * k_n x1) (k_isS_of c7) _ _ _) rfl (k_isS_of c7).1 rfl ml_X6_308 cw_X2_renew vw_X2_renew (by decide) (Nat.le_of_ble_eq_true rfl) 40 rfl dX6_sheet_37 (fun _ σ8 => ?_)
          refine r_iconst 1 (by decide) 41 rfl dX6_sheet_40 ?_
          exact r_iret rfl dX6_sheet_41
        · refine r_bipush (-14) (by decide) 28 rfl dX6_sheet_26 ?_
          exact r_iret rfl dX6_sheet_28
      · refine r_iconst (-1) (by decide) 21 rfl dX6_sheet_20 ?_
        exact r_iret rfl dX6_sheet_21
/-! HandMarket.lay(III)I -/
def f_X6_lay  (x1 : Int32) (x2 : Int32) (x3 : Int32) (σ : k_Mem) : Option (Int32 × k_Mem) :=
  k_bd (f_X6_isSheet  x1 σ) (fun r1 σ1 =>
    if r1 = 0 then (
      some ((-1), σ1)
    ) else (
      if k_in x1 4 then (
        if k_isSb (59 + 2 * k_n x1) then (
          k_bd (f_X2_faultAt (59 + 2 * k_n x1) (σ1 (59 + 2 * k_n x1) 1) x2 σ1) (fun r4 σ4 =>
            if r4 = 0 then (
              k_bd (f_X2_put (59 + 2 * k_n x1) x2 x3 σ4) (fun _ σ6 =>
                some (1, σ6)
              )
            ) else (
              some (((-10) - r4), σ4)
            )
          )
        ) else none
      ) else none
    )
  )
set_option maxRecDepth 100000 in
theorem c_X6_lay (E : k_EV)   (x1 : Int32) (x2 : Int32) (x3 : Int32) (σ : k_Mem) : k_MC m_X6_lay E k_vi [k_rf E 0, .int x1, .int x2, .int x3] σ (f_X6_lay x1 x2 x3 σ) := by
  refine k_MC_of ⟨by decide, by decide⟩ (Nat.le_of_ble_eq_true rfl) ?_
  show k_GO _ _ _ 0 [(0, k_rf E 0), (1, .int x1), (2, .int x2), (3, .int x3)] [] σ _
  unfold f_X6_lay
  refine r_iload_n 1 rfl rfl 1 rfl dX6_lay_0 ?_
  refine r_callsi (c_X6_isSheet E   _ _) rfl ml_X6_302 cw_X6_isSheet sw_X6_isSheet (by decide) (Nat.le_of_ble_eq_true rfl) 4 rfl dX6_lay_1 (fun r1 σ1 => ?_)
  refine r_if_ne 9 7 rfl (by decide) dX6_lay_4 (fun c2 => ?_) (fun c2 => ?_)
  · refine r_iconst (-1) (by decide) 8 rfl dX6_lay_7 ?_
    exact r_iret rfl dX6_lay_8
  · refine r_aload_n 0 rfl rfl 10 rfl dX6_lay_9 ?_
    refine r_getr fl_X6_61 sh_0 rfl 13 rfl dX6_lay_10 ?_
    refine r_iload_n 1 rfl rfl 14 rfl dX6_lay_13 ?_
    refine r_aald sh_5 15 rfl dX6_lay_14 ?_
    refine r_grd (fun c3 => ?_)
    refine r_astore [(4, k_rf E (59 + 2 * k_n x1)), (0, k_rf E 0), (1, .int _), (2, .int _), (3, .int _)] rfl (by decide) 17 rfl dX6_lay_15 ?_
    refine r_aload 0 rfl 19 rfl dX6_lay_17 ?_
    refine r_aload 0 rfl 21 rfl dX6_lay_19 ?_
    refine r_geti fl_X6_311 (k_isS_of c3).1 rfl 24 rfl dX6_lay_21 ?_
    refine r_iload_n 3 rfl rfl 25 rfl dX6_lay_24 ?_
    refine r_calli (c_X2_faultAt E (59 + 2 * k_n x1) (k_isS_of c3) _ _ _) rfl (k_isS_of c3).1 rfl ml_X6_314 cw_X2_faultAt vw_X2_faultAt (by decide) (Nat.le_of_ble_eq_true rfl) 28 rfl dX6_lay_25 (fun r4 σ4 => ?_)
    refine r_istore [(5, .int _), (4, k_rf E (59 + 2 * k_n x1)), (0, k_rf E 0), (1, .int _), (2, .int _), (3, .int _)] rfl (by decide) 30 rfl dX6_lay_28 ?_
    refine r_iload 0 rfl 32 rfl dX6_lay_30 ?_
    refine r_if_eq 41 35 rfl (by decide) dX6_lay_32 (fun c5 => ?_) (fun c5 => ?_)
    · refine r_aload 1 rfl 43 rfl dX6_lay_41 ?_
      refine r_iload_n 4 rfl rfl 44 rfl dX6_lay_43 ?_
      refine r_iload_n 5 rfl rfl 45 rfl dX6_lay_44 ?_
      refine r_callv (c_X2_put E (59 + 2 * k_n x1) (k_isS_of c3) _ _ _) rfl (k_isS_of c3).1 rfl ml_X6_317 cw_X2_put vw_X2_put (by decide) (Nat.le_of_ble_eq_true rfl) 48 rfl dX6_lay_45 (fun _ σ6 => ?_)
      refine r_iconst 1 (by decide) 49 rfl dX6_lay_48 ?_
      exact r_iret rfl dX6_lay_49
    · refine r_bipush (-10) (by decide) 37 rfl dX6_lay_35 ?_
      refine r_iload 0 rfl 39 rfl dX6_lay_37 ?_
      refine r_isub 40 rfl dX6_lay_39 ?_
      exact r_iret rfl dX6_lay_40
/-! HandMarket.read(IIII)I -/
def j_X6_read_162   (x6 : Int32) (x7 : Int32) (σ : k_Mem) : Option (Int32 × k_Mem) :=
  k_bd (f_X5_become 6 14  σ) (fun _ σ10 =>
    some (x7, (k_mset σ10 0 11 x6))
  )
set_option maxRecDepth 100000 in
theorem gj_X6_read_162 (E : k_EV)     (x6 : Int32) (x7 : Int32)  (σ : k_Mem) : k_GO m_X6_read E k_vi 162 [(0, k_rf E 0), (6, .int x6), (7, .int x7)] [] σ (j_X6_read_162   x6 x7 σ) := by
  unfold j_X6_read_162
  refine r_aload_n 0 rfl rfl 163 rfl dX6_read_162 ?_
  refine r_getr fl_X6_10 sh_0 rfl 166 rfl dX6_read_163 ?_
  refine r_aload_n 0 rfl rfl 167 rfl dX6_read_166 ?_
  refine r_getr fl_X6_16 sh_0 rfl 170 rfl dX6_read_167 ?_
  refine r_callv (c_X5_become E 6 14 tw_6 tw_14  _) rfl sh_6 rfl ml_X6_86 cw_X5_become vw_X5_become (by decide) (Nat.le_of_ble_eq_true rfl) 173 rfl dX6_read_170 (fun _ σ10 => ?_)
  refine r_aload_n 0 rfl rfl 174 rfl dX6_read_173 ?_
  refine r_iload 1 rfl 176 rfl dX6_read_174 ?_
  refine r_puti fp_X6_325 sh_0 rfl 179 rfl dX6_read_176 ?_
  refine r_iload 2 rfl 181 rfl dX6_read_179 ?_
  exact r_iret rfl dX6_read_181
def l_X6_read_56   : Nat → Int32 → Int32 → Int32 → Nat → Int32 → Int32 → Int32 → k_Mem → Option (Int32 × k_Mem)
  | 0, _, _, _, _, _, _, _, _ => none
  | n + 1, x2, x3, x4, o5_, x6, x7, x8, σ =>
    if x4 ≤ x8 then (
      j_X6_read_162   x6 x7 σ
    ) else (
      k_bd (f_X2_faultAtTwo o5_ x2 (x3 + (2 * x8)) σ) (fun r11 σ11 =>
        if r11 = 0 then (
          if k_in (x3 + (2 * x8)) 40 then (
            if k_in ((x3 + (2 * x8)) + 1) 40 then (
              k_bd (f_X5_isHand 6 (σ11 (o5_ + 1) (k_n (x3 + (2 * x8)))) σ11) (fun r13 σ13 =>
                if r13 = 0 then (
                  some (((-20) - x8), σ13)
                ) else (
                  k_bd (f_X5_isHand 6 (σ11 (o5_ + 1) (k_n ((x3 + (2 * x8)) + 1))) σ13) (fun r15 σ15 =>
                    if r15 = 0 then (
                      some (((-20) - x8), σ15)
                    ) else (
                      if k_in (σ11 (o5_ + 1) (k_n (x3 + (2 * x8)))) 8 then (
                        l_X6_read_56   n x2 x3 x4 o5_ r11 (x7 + 1) (x8 + 1) (k_mset σ15 19 (k_n (σ11 (o5_ + 1) (k_n (x3 + (2 * x8))))) (σ11 (o5_ + 1) (k_n ((x3 + (2 * x8)) + 1))))
                      ) else none
                    )
                  )
                )
              )
            ) else none
          ) else none
        ) else (
          j_X6_read_162   r11 x7 σ11
        )
      )
    )
set_option maxRecDepth 100000 in
theorem gl_X6_read_56 (E : k_EV)     : ∀ (n : Nat) (x2 : Int32) (x3 : Int32) (x4 : Int32) (o5_ : Nat) (x6 : Int32) (x7 : Int32) (x8 : Int32) (ho5_ : k_isS o5_) (σ : k_Mem), k_GO m_X6_read E k_vi 56 [(0, k_rf E 0), (2, .int x2), (3, .int x3), (4, .int x4), (5, k_rf E o5_), (6, .int x6), (7, .int x7), (8, .int x8)] [] σ (l_X6_read_56   n x2 x3 x4 o5_ x6 x7 x8 σ) := by
  intro n
  induction n with
  | zero => intro x2 x3 x4 o5_ x6 x7 x8 ho5_ σ; exact r_none
  | succ n ih =>
    intro x2 x3 x4 o5_ x6 x7 x8 ho5_ σ
    rw [l_X6_read_56]
    refine r_iload 7 rfl 58 rfl dX6_read_56 ?_
    refine r_iload 3 rfl 60 rfl dX6_read_58 ?_
    refine r_icmp_ge 162 63 rfl (by decide) dX6_read_60 (fun c9 => ?_) (fun c9 => ?_)
    · exact r_sub [0, 5, 6] rfl (gj_X6_read_162 E     _ _  _)
    · refine r_iload_n 2 rfl rfl 64 rfl dX6_read_63 ?_
      refine r_iconst 2 (by decide) 65 rfl dX6_read_64 ?_
      refine r_iload 7 rfl 67 rfl dX6_read_65 ?_
      refine r_imul 68 rfl dX6_read_67 ?_
      refine r_iadd 69 rfl dX6_read_68 ?_
      refine r_istore [(9, .int _), (0, k_rf E 0), (2, .int _), (3, .int _), (4, .int _), (5, k_rf E o5_), (6, .int _), (7, .int _), (8, .int _)] rfl (by decide) 71 rfl dX6_read_69 ?_
      refine r_aload 5 rfl 73 rfl dX6_read_71 ?_
      refine r_iload_n 2 rfl rfl 74 rfl dX6_read_73 ?_
      refine r_iload 0 rfl 76 rfl dX6_read_74 ?_
      refine r_calli (c_X2_faultAtTwo E o5_ ho5_ _ _ _) rfl ho5_.1 rfl ml_X6_319 cw_X2_faultAtTwo vw_X2_faultAtTwo (by decide) (Nat.le_of_ble_eq_true rfl) 79 rfl dX6_read_76 (fun r11 σ11 => ?_)
      refine r_istore [(6, .int _), (9, .int _), (0, k_rf E 0), (2, .int _), (3, .int _), (4, .int _), (5, k_rf E o5_), (7, .int _), (8, .int _)] rfl (by decide) 81 rfl dX6_read_79 ?_
      refine r_iload 0 rfl 83 rfl dX6_read_81 ?_
      refine r_if_eq 89 86 rfl (by decide) dX6_read_83 (fun c12 => ?_) (fun c12 => ?_)
      · refine r_aload 6 rfl 91 rfl dX6_read_89 ?_
        refine r_getr fl_X6_322 ho5_.1 rfl 94 rfl dX6_read_91 ?_
        refine r_iload 1 rfl 96 rfl dX6_read_94 ?_
        refine r_iald ho5_.2 97 rfl dX6_read_96 ?_
        refine r_istore [(10, .int _), (6, .int _), (9, .int _), (0, k_rf E 0), (2, .int _), (3, .int _), (4, .int _), (5, k_rf E o5_), (7, .int _), (8, .int _)] rfl (by decide) 99 rfl dX6_read_97 ?_
        refine r_aload 7 rfl 101 rfl dX6_read_99 ?_
        refine r_getr fl_X6_322 ho5_.1 rfl 104 rfl dX6_read_101 ?_
        refine r_iload 2 rfl 106 rfl dX6_read_104 ?_
        refine r_iconst 1 (by decide) 107 rfl dX6_read_106 ?_
        refine r_iadd 108 rfl dX6_read_107 ?_
        refine r_iald ho5_.2 109 rfl dX6_read_108 ?_
        refine r_istore [(11, .int _), (10, .int _), (6, .int _), (9, .int _), (0, k_rf E 0), (2, .int _), (3, .int _), (4, .int _), (5, k_rf E o5_), (7, .int _), (8, .int _)] rfl (by decide) 111 rfl dX6_read_109 ?_
        refine r_aload_n 4 rfl rfl 112 rfl dX6_read_111 ?_
        refine r_getr fl_X6_10 sh_0 rfl 115 rfl dX6_read_112 ?_
        refine r_iload 1 rfl 117 rfl dX6_read_115 ?_
        refine r_calli (c_X5_isHand E 6 tw_6 _ _) rfl sh_6 rfl ml_X6_113 cw_X5_isHand vw_X5_isHand (by decide) (Nat.le_of_ble_eq_true rfl) 120 rfl dX6_read_117 (fun r13 σ13 => ?_)
        refine r_if_eq 135 123 rfl (by decide) dX6_read_120 (fun c14 => ?_) (fun c14 => ?_)
        · refine r_bipush (-20) (by decide) 137 rfl dX6_read_135 ?_
          refine r_iload 10 rfl 139 rfl dX6_read_137 ?_
          refine r_isub 140 rfl dX6_read_139 ?_
          exact r_iret rfl dX6_read_140
        · refine r_aload_n 4 rfl rfl 124 rfl dX6_read_123 ?_
          refine r_getr fl_X6_10 sh_0 rfl 127 rfl dX6_read_124 ?_
          refine r_iload 0 rfl 129 rfl dX6_read_127 ?_
          refine r_calli (c_X5_isHand E 6 tw_6 _ _) rfl sh_6 rfl ml_X6_113 cw_X5_isHand vw_X5_isHand (by decide) (Nat.le_of_ble_eq_true rfl) 132 rfl dX6_read_129 (fun r15 σ15 => ?_)
          refine r_if_ne 141 135 rfl (by decide) dX6_read_132 (fun c16 => ?_) (fun c16 => ?_)
          · refine r_bipush (-20) (by decide) 137 rfl dX6_read_135 ?_
            refine r_iload 10 rfl 139 rfl dX6_read_137 ?_
            refine r_isub 140 rfl dX6_read_139 ?_
            exact r_iret rfl dX6_read_140
          · refine r_aload_n 4 rfl rfl 142 rfl dX6_read_141 ?_
            refine r_getr fl_X6_16 sh_0 rfl 145 rfl dX6_read_142 ?_
            refine r_getr fl_X6_128 sh_14 rfl 148 rfl dX6_read_145 ?_
            refine r_iload 1 rfl 150 rfl dX6_read_148 ?_
            refine r_iload 0 rfl 152 rfl dX6_read_150 ?_
            refine r_iast sh_19 153 rfl dX6_read_152 ?_
            refine r_iinc 1 (by decide) 9 rfl [(7, .int _), (11, .int _), (10, .int _), (6, .int _), (9, .int _), (0, k_rf E 0), (2, .int _), (3, .int _), (4, .int _), (5, k_rf E o5_), (8, .int _)] rfl (by decide) 156 rfl dX6_read_153 ?_
            refine r_iinc 1 (by decide) 10 rfl [(8, .int _), (7, .int _), (11, .int _), (10, .int _), (6, .int _), (9, .int _), (0, k_rf E 0), (2, .int _), (3, .int _), (4, .int _), (5, k_rf E o5_)] rfl (by decide) 159 rfl dX6_read_156 ?_
            refine r_goto 56 (by decide) dX6_read_159 ?_
            exact r_sub [6, 7, 8, 9, 10, 4, 1, 0] rfl (ih _ _ _ o5_ _ _ _ ho5_ _)
      · refine r_goto 162 (by decide) dX6_read_86 ?_
        exact r_sub [2, 0, 7] rfl (gj_X6_read_162 E     _ _  _)
def f_X6_read  (x1 : Int32) (x2 : Int32) (x3 : Int32) (x4 : Int32) (σ : k_Mem) : Option (Int32 × k_Mem) :=
  k_bd (f_X6_isSheet  x1 σ) (fun r1 σ1 =>
    if r1 = 0 then (
      some ((-1), σ1)
    ) else (
      k_bd (f_X6_isLane  x2 σ1) (fun r3 σ3 =>
        if r3 = 0 then (
          some ((-1), σ3)
        ) else (
          if x4 < 0 then (
            some ((-1), σ3)
          ) else (
            if x4 ≤ 20 then (
              if k_in x1 4 then (
                if k_isSb (59 + 2 * k_n x1) then (
                  k_bd (f_X5_become 14 6  σ3) (fun _ σ8 =>
                    l_X6_read_56   1000 x2 x3 x4 (59 + 2 * k_n x1) 0 0 0 σ8
                  )
                ) else none
              ) else none
            ) else (
              some ((-1), σ3)
            )
          )
        )
      )
    )
  )
set_option maxRecDepth 100000 in
theorem c_X6_read (E : k_EV)   (x1 : Int32) (x2 : Int32) (x3 : Int32) (x4 : Int32) (σ : k_Mem) : k_MC m_X6_read E k_vi [k_rf E 0, .int x1, .int x2, .int x3, .int x4] σ (f_X6_read x1 x2 x3 x4 σ) := by
  refine k_MC_of ⟨by decide, by decide⟩ (Nat.le_of_ble_eq_true rfl) ?_
  show k_GO _ _ _ 0 [(0, k_rf E 0), (1, .int x1), (2, .int x2), (3, .int x3), (4, .int x4)] [] σ _
  unfold f_X6_read
  refine r_iload_n 1 rfl rfl 1 rfl dX6_read_0 ?_
  refine r_callsi (c_X6_isSheet E   _ _) rfl ml_X6_302 cw_X6_isSheet sw_X6_isSheet (by decide) (Nat.le_of_ble_eq_true rfl) 4 rfl dX6_read_1 (fun r1 σ1 => ?_)
  refine r_if_eq 26 7 rfl (by decide) dX6_read_4 (fun c2 => ?_) (fun c2 => ?_)
  · refine r_iconst (-1) (by decide) 27 rfl dX6_read_26 ?_
    exact r_iret rfl dX6_read_27
  · refine r_iload_n 2 rfl rfl 8 rfl dX6_read_7 ?_
    refine r_callsi (c_X6_isLane E   _ _) rfl ml_X6_305 cw_X6_isLane sw_X6_isLane (by decide) (Nat.le_of_ble_eq_true rfl) 11 rfl dX6_read_8 (fun r3 σ3 => ?_)
    refine r_if_eq 26 14 rfl (by decide) dX6_read_11 (fun c4 => ?_) (fun c4 => ?_)
    · refine r_iconst (-1) (by decide) 27 rfl dX6_read_26 ?_
      exact r_iret rfl dX6_read_27
    · refine r_iload 4 rfl 16 rfl dX6_read_14 ?_
      refine r_if_lt 26 19 rfl (by decide) dX6_read_16 (fun c5 => ?_) (fun c5 => ?_)
      · refine r_iconst (-1) (by decide) 27 rfl dX6_read_26 ?_
        exact r_iret rfl dX6_read_27
      · refine r_iload 4 rfl 21 rfl dX6_read_19 ?_
        refine r_bipush 20 (by decide) 23 rfl dX6_read_21 ?_
        refine r_icmp_le 28 26 rfl (by decide) dX6_read_23 (fun c6 => ?_) (fun c6 => ?_)
        · refine r_aload_n 0 rfl rfl 29 rfl dX6_read_28 ?_
          refine r_getr fl_X6_61 sh_0 rfl 32 rfl dX6_read_29 ?_
          refine r_iload_n 1 rfl rfl 33 rfl dX6_read_32 ?_
          refine r_aald sh_5 34 rfl dX6_read_33 ?_
          refine r_grd (fun c7 => ?_)
          refine r_astore [(5, k_rf E (59 + 2 * k_n x1)), (0, k_rf E 0), (1, .int _), (2, .int _), (3, .int _), (4, .int _)] rfl (by decide) 36 rfl dX6_read_34 ?_
          refine r_aload_n 1 rfl rfl 37 rfl dX6_read_36 ?_
          refine r_getr fl_X6_16 sh_0 rfl 40 rfl dX6_read_37 ?_
          refine r_aload_n 1 rfl rfl 41 rfl dX6_read_40 ?_
          refine r_getr fl_X6_10 sh_0 rfl 44 rfl dX6_read_41 ?_
          refine r_callv (c_X5_become E 14 6 tw_14 tw_6  _) rfl sh_14 rfl ml_X6_86 cw_X5_become vw_X5_become (by decide) (Nat.le_of_ble_eq_true rfl) 47 rfl dX6_read_44 (fun _ σ8 => ?_)
          refine r_iconst 0 (by decide) 48 rfl dX6_read_47 ?_
          refine r_istore [(6, .int _), (5, k_rf E (59 + 2 * k_n x1)), (0, k_rf E 0), (1, .int _), (2, .int _), (3, .int _), (4, .int _)] rfl (by decide) 50 rfl dX6_read_48 ?_
          refine r_iconst 0 (by decide) 51 rfl dX6_read_50 ?_
          refine r_istore [(7, .int _), (6, .int _), (5, k_rf E (59 + 2 * k_n x1)), (0, k_rf E 0), (1, .int _), (2, .int _), (3, .int _), (4, .int _)] rfl (by decide) 53 rfl dX6_read_51 ?_
          refine r_iconst 0 (by decide) 54 rfl dX6_read_53 ?_
          refine r_istore [(8, .int _), (7, .int _), (6, .int _), (5, k_rf E (59 + 2 * k_n x1)), (0, k_rf E 0), (1, .int _), (2, .int _), (3, .int _), (4, .int _)] rfl (by decide) 56 rfl dX6_read_54 ?_
          exact r_sub [4, 6, 7, 8, 3, 2, 1, 0] rfl (gl_X6_read_56 E     1000 _ _ _ (59 + 2 * k_n x1) _ _ _ (k_isS_of c7) _)
        · refine r_iconst (-1) (by decide) 27 rfl dX6_read_26 ?_
          exact r_iret rfl dX6_read_27
/-! HandMarket.torn()I -/
def f_X6_torn   (σ : k_Mem) : Option (Int32 × k_Mem) :=
  some ((σ 0 11), σ)
set_option maxRecDepth 100000 in
theorem c_X6_torn (E : k_EV)    (σ : k_Mem) : k_MC m_X6_torn E k_vi [k_rf E 0] σ (f_X6_torn  σ) := by
  refine k_MC_of ⟨by decide, by decide⟩ (Nat.le_of_ble_eq_true rfl) ?_
  show k_GO _ _ _ 0 [(0, k_rf E 0)] [] σ _
  unfold f_X6_torn
  refine r_aload_n 0 rfl rfl 1 rfl dX6_torn_0 ?_
  refine r_geti fl_X6_325 sh_0 rfl 4 rfl dX6_torn_1 ?_
  exact r_iret rfl dX6_torn_4
/-! HandMarket.count(I)I -/
def f_X6_count  (x1 : Int32) (σ : k_Mem) : Option (Int32 × k_Mem) :=
  if x1 = 0 then (
    some ((σ 55 3), σ)
  ) else (
  if x1 = 1 then (
    k_bd (f_J6_bitCount_0f7a4  (σ 0 4) σ) (fun r3 σ3 =>
      some (r3, σ3)
    )
  ) else (
  if x1 = 2 then (
    some ((σ 1 1), σ)
  ) else (
  if x1 = 3 then (
    if k_in 0 4 then (
      if k_isSb (59 + 2 * k_n 0) then (
        k_bd (f_X2_isNothing (59 + 2 * k_n 0)  σ) (fun r7 σ7 =>
          if r7 = 0 then (
            if k_in 0 4 then (
              if k_isSb (59 + 2 * k_n 0) then (
                some ((σ7 (59 + 2 * k_n 0) 2), σ7)
              ) else none
            ) else none
          ) else (
            some ((-4), σ7)
          )
        )
      ) else none
    ) else none
  ) else (
  if x1 = 4 then (
    k_bd (f_X5_couples 6  σ) (fun r11 σ11 =>
      some (r11, σ11)
    )
  ) else (
  if x1 = 5 then (
    k_bd (f_X5_foldings 6  σ) (fun r13 σ13 =>
      some (r13, σ13)
    )
  ) else (
    some ((-1), σ)
  ))))))
set_option maxRecDepth 100000 in
theorem c_X6_count (E : k_EV)   (x1 : Int32) (σ : k_Mem) : k_MC m_X6_count E k_vi [k_rf E 0, .int x1] σ (f_X6_count x1 σ) := by
  refine k_MC_of ⟨by decide, by decide⟩ (Nat.le_of_ble_eq_true rfl) ?_
  show k_GO _ _ _ 0 [(0, k_rf E 0), (1, .int x1)] [] σ _
  unfold f_X6_count
  refine r_iload_n 1 rfl rfl 1 rfl dX6_count_0 ?_
  refine r_split (fun c1 => ?_) (fun c1 => ?_)
  · refine r_tin 0 c1 39 40 (by decide) (by decide) (by decide) (by decide) dX6_count_1 ?_
    refine r_aload_n 0 rfl rfl 41 rfl dX6_count_40 ?_
    refine r_getr fl_X6_51 sh_0 rfl 44 rfl dX6_count_41 ?_
    refine r_geti fl_X6_90 sh_55 rfl 47 rfl dX6_count_44 ?_
    exact r_iret rfl dX6_count_47
  refine r_split (fun c2 => ?_) (fun c2 => ?_)
  · refine r_tin 1 c2 47 48 (by decide) (by decide) (by decide) (by decide) dX6_count_1 ?_
    refine r_aload_n 0 rfl rfl 49 rfl dX6_count_48 ?_
    refine r_geti fl_X6_91 sh_0 rfl 52 rfl dX6_count_49 ?_
    refine r_callsi (c_J6_bitCount_0f7a4 E   _ _) rfl ml_X6_277 cw_J6_bitCount_0f7a4 sw_J6_bitCount_0f7a4 (by decide) (Nat.le_of_ble_eq_true rfl) 55 rfl dX6_count_52 (fun r3 σ3 => ?_)
    exact r_iret rfl dX6_count_55
  refine r_split (fun c4 => ?_) (fun c4 => ?_)
  · refine r_tin 2 c4 55 56 (by decide) (by decide) (by decide) (by decide) dX6_count_1 ?_
    refine r_aload_n 0 rfl rfl 57 rfl dX6_count_56 ?_
    refine r_getr fl_X6_28 sh_0 rfl 60 rfl dX6_count_57 ?_
    refine r_geti fl_X6_70 sh_1 rfl 63 rfl dX6_count_60 ?_
    exact r_iret rfl dX6_count_63
  refine r_split (fun c5 => ?_) (fun c5 => ?_)
  · refine r_tin 3 c5 63 64 (by decide) (by decide) (by decide) (by decide) dX6_count_1 ?_
    refine r_aload_n 0 rfl rfl 65 rfl dX6_count_64 ?_
    refine r_getr fl_X6_61 sh_0 rfl 68 rfl dX6_count_65 ?_
    refine r_iconst 0 (by decide) 69 rfl dX6_count_68 ?_
    refine r_aald sh_5 70 rfl dX6_count_69 ?_
    refine r_grd (fun c6 => ?_)
    refine r_calli (c_X2_isNothing E (59 + 2 * k_n 0) (k_isS_of c6)  _) rfl (k_isS_of c6).1 rfl ml_X6_328 cw_X2_isNothing vw_X2_isNothing (by decide) (Nat.le_of_ble_eq_true rfl) 73 rfl dX6_count_70 (fun r7 σ7 => ?_)
    refine r_if_eq 81 76 rfl (by decide) dX6_count_73 (fun c8 => ?_) (fun c8 => ?_)
    · refine r_aload_n 0 rfl rfl 82 rfl dX6_count_81 ?_
      refine r_getr fl_X6_61 sh_0 rfl 85 rfl dX6_count_82 ?_
      refine r_iconst 0 (by decide) 86 rfl dX6_count_85 ?_
      refine r_aald sh_5 87 rfl dX6_count_86 ?_
      refine r_grd (fun c9 => ?_)
      refine r_geti fl_X6_331 (k_isS_of c9).1 rfl 90 rfl dX6_count_87 ?_
      exact r_iret rfl dX6_count_90
    · refine r_bipush (-4) (by decide) 78 rfl dX6_count_76 ?_
      refine r_goto 90 (by decide) dX6_count_78 ?_
      exact r_iret rfl dX6_count_90
  refine r_split (fun c10 => ?_) (fun c10 => ?_)
  · refine r_tin 4 c10 90 91 (by decide) (by decide) (by decide) (by decide) dX6_count_1 ?_
    refine r_aload_n 0 rfl rfl 92 rfl dX6_count_91 ?_
    refine r_getr fl_X6_10 sh_0 rfl 95 rfl dX6_count_92 ?_
    refine r_calli (c_X5_couples E 6 tw_6  _) rfl sh_6 rfl ml_X6_195 cw_X5_couples vw_X5_couples (by decide) (Nat.le_of_ble_eq_true rfl) 98 rfl dX6_count_95 (fun r11 σ11 => ?_)
    exact r_iret rfl dX6_count_98
  refine r_split (fun c12 => ?_) (fun c12 => ?_)
  · refine r_tin 5 c12 98 99 (by decide) (by decide) (by decide) (by decide) dX6_count_1 ?_
    refine r_aload_n 0 rfl rfl 100 rfl dX6_count_99 ?_
    refine r_getr fl_X6_10 sh_0 rfl 103 rfl dX6_count_100 ?_
    refine r_calli (c_X5_foldings E 6 tw_6  _) rfl sh_6 rfl ml_X6_332 cw_X5_foldings vw_X5_foldings (by decide) (Nat.le_of_ble_eq_true rfl) 106 rfl dX6_count_103 (fun r13 σ13 => ?_)
    exact r_iret rfl dX6_count_106
  refine r_tout 107 (by have hc1 := lv_neT c1 (k := 0) (a := 0) (by decide); have hc2 := lv_neT c2 (k := 1) (a := 1) (by decide); have hc4 := lv_neT c4 (k := 2) (a := 2) (by decide); have hc5 := lv_neT c5 (k := 3) (a := 3) (by decide); have hc10 := lv_neT c10 (k := 4) (a := 4) (by decide); have hc12 := lv_neT c12 (k := 5) (a := 5) (by decide); omega) (by decide) dX6_count_1 ?_
  refine r_iconst (-1) (by decide) 108 rfl dX6_count_107 ?_
  exact r_iret rfl dX6_count_108
