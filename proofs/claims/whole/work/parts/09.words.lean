theorem sh_0 : k_SH 0 = .inr (6, [some 6, some 14, some 22, some 30, none, some 1, some 3, some 46, some 55, some 4, some 5, none]) := rfl
theorem sh_1 : k_SH 1 = .inr (4, [some 2, none, none, none, none, none]) := rfl
theorem sh_3 : k_SH 3 = .inr (1, [some 1, some 38, none, none, none, none]) := rfl
theorem sh_6 : k_SH 6 = .inr (5, [some 7, some 8, some 9, some 10, some 11, some 12, some 13, none, none, none, none]) := rfl
theorem sh_14 : k_SH 14 = .inr (5, [some 15, some 16, some 17, some 18, some 19, some 20, some 21, none, none, none, none]) := rfl
theorem sh_22 : k_SH 22 = .inr (5, [some 23, some 24, some 25, some 26, some 27, some 28, some 29, none, none, none, none]) := rfl
theorem sh_30 : k_SH 30 = .inr (5, [some 31, some 32, some 33, some 34, some 35, some 36, some 37, none, none, none, none]) := rfl
theorem sh_38 : k_SH 38 = .inr (5, [some 39, some 40, some 41, some 42, some 43, some 44, some 45, none, none, none, none]) := rfl
theorem sh_46 : k_SH 46 = .inr (0, [some 47, some 48, some 49, some 50, some 51, some 52, some 53, some 54, none]) := rfl
theorem sh_55 : k_SH 55 = .inr (3, [some 56, some 57, some 58, none]) := rfl
theorem sh_59 : k_SH 59 = .inr (2, [some 60, none, none]) := rfl
theorem sh_61 : k_SH 61 = .inr (2, [some 62, none, none]) := rfl
theorem sh_63 : k_SH 63 = .inr (2, [some 64, none, none]) := rfl
theorem sh_65 : k_SH 65 = .inr (2, [some 66, none, none]) := rfl
theorem sh_67 : k_SH 67 = .inr (7, [some 68, none, none, some 69, none, none, none, none, none, some 70, none, none, none, none, none, none, none, none, some 71, some 72, some 73, some 74, some 75, some 76, some 77, none, some 78, none, some 79, some 80, some 81, some 82, none]) := rfl
theorem sh_2 : k_SH 2 = .inl (.byte, 160, none) := rfl
theorem sh_4 : k_SH 4 = .inl (.int, 10, none) := rfl
theorem sh_7 : k_SH 7 = .inl (.int, 8, none) := rfl
theorem sh_8 : k_SH 8 = .inl (.int, 8, none) := rfl
theorem sh_9 : k_SH 9 = .inl (.int, 8, none) := rfl
theorem sh_10 : k_SH 10 = .inl (.int, 8, none) := rfl
theorem sh_11 : k_SH 11 = .inl (.int, 8, none) := rfl
theorem sh_12 : k_SH 12 = .inl (.int, 8, none) := rfl
theorem sh_13 : k_SH 13 = .inl (.int, 8, none) := rfl
theorem sh_15 : k_SH 15 = .inl (.int, 8, none) := rfl
theorem sh_16 : k_SH 16 = .inl (.int, 8, none) := rfl
theorem sh_17 : k_SH 17 = .inl (.int, 8, none) := rfl
theorem sh_18 : k_SH 18 = .inl (.int, 8, none) := rfl
theorem sh_19 : k_SH 19 = .inl (.int, 8, none) := rfl
theorem sh_20 : k_SH 20 = .inl (.int, 8, none) := rfl
theorem sh_21 : k_SH 21 = .inl (.int, 8, none) := rfl
theorem sh_23 : k_SH 23 = .inl (.int, 8, none) := rfl
theorem sh_24 : k_SH 24 = .inl (.int, 8, none) := rfl
theorem sh_25 : k_SH 25 = .inl (.int, 8, none) := rfl
theorem sh_26 : k_SH 26 = .inl (.int, 8, none) := rfl
theorem sh_27 : k_SH 27 = .inl (.int, 8, none) := rfl
theorem sh_28 : k_SH 28 = .inl (.int, 8, none) := rfl
theorem sh_29 : k_SH 29 = .inl (.int, 8, none) := rfl
theorem sh_31 : k_SH 31 = .inl (.int, 8, none) := rfl
theorem sh_32 : k_SH 32 = .inl (.int, 8, none) := rfl
theorem sh_33 : k_SH 33 = .inl (.int, 8, none) := rfl
theorem sh_34 : k_SH 34 = .inl (.int, 8, none) := rfl
theorem sh_35 : k_SH 35 = .inl (.int, 8, none) := rfl
theorem sh_36 : k_SH 36 = .inl (.int, 8, none) := rfl
theorem sh_37 : k_SH 37 = .inl (.int, 8, none) := rfl
theorem sh_39 : k_SH 39 = .inl (.int, 8, none) := rfl
theorem sh_40 : k_SH 40 = .inl (.int, 8, none) := rfl
theorem sh_41 : k_SH 41 = .inl (.int, 8, none) := rfl
theorem sh_42 : k_SH 42 = .inl (.int, 8, none) := rfl
theorem sh_43 : k_SH 43 = .inl (.int, 8, none) := rfl
theorem sh_44 : k_SH 44 = .inl (.int, 8, none) := rfl
theorem sh_45 : k_SH 45 = .inl (.int, 8, none) := rfl
theorem sh_47 : k_SH 47 = .inl (.int, 8, none) := rfl
theorem sh_48 : k_SH 48 = .inl (.int, 8, none) := rfl
theorem sh_49 : k_SH 49 = .inl (.int, 8, none) := rfl
theorem sh_50 : k_SH 50 = .inl (.int, 64, none) := rfl
theorem sh_51 : k_SH 51 = .inl (.int, 64, none) := rfl
theorem sh_52 : k_SH 52 = .inl (.int, 8, none) := rfl
theorem sh_53 : k_SH 53 = .inl (.int, 8, none) := rfl
theorem sh_54 : k_SH 54 = .inl (.int, 8, none) := rfl
theorem sh_56 : k_SH 56 = .inl (.int, 6, none) := rfl
theorem sh_57 : k_SH 57 = .inl (.int, 6, none) := rfl
theorem sh_58 : k_SH 58 = .inl (.int, 6, none) := rfl
theorem sh_60 : k_SH 60 = .inl (.int, 40, none) := rfl
theorem sh_62 : k_SH 62 = .inl (.int, 40, none) := rfl
theorem sh_64 : k_SH 64 = .inl (.int, 40, none) := rfl
theorem sh_66 : k_SH 66 = .inl (.int, 40, none) := rfl
theorem sh_68 : k_SH 68 = .inl (.int, 250, none) := rfl
theorem sh_69 : k_SH 69 = .inl (.int, 50, none) := rfl
theorem sh_70 : k_SH 70 = .inl (.int, 160, none) := rfl
theorem sh_71 : k_SH 71 = .inl (.int, 11, none) := rfl
theorem sh_72 : k_SH 72 = .inl (.int, 45, none) := rfl
theorem sh_73 : k_SH 73 = .inl (.int, 64, none) := rfl
theorem sh_74 : k_SH 74 = .inl (.int, 8, none) := rfl
theorem sh_75 : k_SH 75 = .inl (.int, 8, none) := rfl
theorem sh_76 : k_SH 76 = .inl (.int, 8, none) := rfl
theorem sh_77 : k_SH 77 = .inl (.int, 18, none) := rfl
theorem sh_78 : k_SH 78 = .inl (.int, 24, none) := rfl
theorem sh_79 : k_SH 79 = .inl (.boolean, 2, none) := rfl
theorem sh_80 : k_SH 80 = .inl (.int, 4, none) := rfl
theorem sh_81 : k_SH 81 = .inl (.int, 4, none) := rfl
theorem sh_82 : k_SH 82 = .inl (.int, 160, none) := rfl
theorem sh_5 : k_SH 5 = .inl (.object "HandMarket$Sheet", 4, some (fun i => 59 + 2 * i)) := rfl
def k_isT (b : Nat) : Prop := k_SH b = .inr (5, [some (b + 1), some (b + 2), some (b + 3), some (b + 4), some (b + 5), some (b + 6), some (b + 7), none, none, none, none]) ∧ k_SH (b + 1) = .inl (.int, 8, none) ∧ k_SH (b + 2) = .inl (.int, 8, none) ∧ k_SH (b + 3) = .inl (.int, 8, none) ∧ k_SH (b + 4) = .inl (.int, 8, none) ∧ k_SH (b + 5) = .inl (.int, 8, none) ∧ k_SH (b + 6) = .inl (.int, 8, none) ∧ k_SH (b + 7) = .inl (.int, 8, none)
def k_isS (b : Nat) : Prop := k_SH b = .inr (2, [some (b + 1), none, none]) ∧ k_SH (b + 1) = .inl (.int, 40, none)
theorem tw_6 : k_isT 6 := ⟨rfl, rfl, rfl, rfl, rfl, rfl, rfl, rfl⟩
theorem tw_14 : k_isT 14 := ⟨rfl, rfl, rfl, rfl, rfl, rfl, rfl, rfl⟩
theorem tw_22 : k_isT 22 := ⟨rfl, rfl, rfl, rfl, rfl, rfl, rfl, rfl⟩
theorem tw_30 : k_isT 30 := ⟨rfl, rfl, rfl, rfl, rfl, rfl, rfl, rfl⟩
theorem tw_38 : k_isT 38 := ⟨rfl, rfl, rfl, rfl, rfl, rfl, rfl, rfl⟩
theorem tw_59 : k_isS 59 := ⟨rfl, rfl⟩
theorem tw_61 : k_isS 61 := ⟨rfl, rfl⟩
theorem tw_63 : k_isS 63 := ⟨rfl, rfl⟩
theorem tw_65 : k_isS 65 := ⟨rfl, rfl⟩
def k_isTb (b : Nat) : Bool := b == 6 || b == 14 || b == 22 || b == 30 || b == 38
def k_isSb (b : Nat) : Bool := b == 59 || b == 61 || b == 63 || b == 65
theorem k_isT_of {b : Nat} (h : k_isTb b = true) : k_isT b := by
  simp only [k_isTb, Bool.or_eq_true, beq_iff_eq] at h
  rcases h with (((h | h) | h) | h) | h <;> subst h
  · exact tw_6
  · exact tw_14
  · exact tw_22
  · exact tw_30
  · exact tw_38
theorem k_isS_of {b : Nat} (h : k_isSb b = true) : k_isS b := by
  simp only [k_isSb, Bool.or_eq_true, beq_iff_eq] at h
  rcases h with ((h | h) | h) | h <;> subst h
  · exact tw_59
  · exact tw_61
  · exact tw_63
  · exact tw_65
theorem k_in0 : ∀ w ∈ u_ws RX0 TX0 9, w ∈ k_tbl := by decide +kernel
theorem k_in1 : ∀ w ∈ u_ws RX1 TX1 6, w ∈ k_tbl := by decide +kernel
theorem k_in2 : ∀ w ∈ u_ws RX2 TX2 3, w ∈ k_tbl := by decide +kernel
theorem k_in3 : ∀ w ∈ u_ws RX3 TX3 4, w ∈ k_tbl := by decide +kernel
theorem k_in4 : ∀ w ∈ u_ws RX4 TX4 6, w ∈ k_tbl := by decide +kernel
theorem k_in5 : ∀ w ∈ u_ws RX5 TX5 11, w ∈ k_tbl := by decide +kernel
theorem k_in6 : ∀ w ∈ u_ws RX6 TX6 12, w ∈ k_tbl := by decide +kernel
theorem k_in7 : ∀ w ∈ u_ws RX7 TX7 33, w ∈ k_tbl := by decide +kernel
abbrev m_J6_bitCount_0f7a4 : k_MI := (yJ6_bitCount_0f7a4, cJ6_bitCount_0f7a4, 1, (some .int), 0)
abbrev m_J7_fill_53178 : k_MI := (yJ7_fill_53178, cJ7_fill_53178, 4, none, 0)
abbrev m_X4_put : k_MI := (yX4_put, cX4_put, 2, (some .boolean), 0)
abbrev m_X6_feed : k_MI := (yX6_feed, cX6_feed, 2, (some .int), 1)
abbrev m_X7_in : k_MI := (yX7_in, cX7_in, 6, (some .boolean), 0)
abbrev m_X7_feed : k_MI := (yX7_feed, cX7_feed, 2, (some .int), 1)
abbrev m_X6_end : k_MI := (yX6_end, cX6_end, 3, (some .int), 0)
abbrev m_X7_end : k_MI := (yX7_end, cX7_end, 3, (some .int), 1)
abbrev m_X5_clear : k_MI := (yX5_clear, cX5_clear, 2, none, 0)
abbrev m_X4_rewind : k_MI := (yX4_rewind, cX4_rewind, 1, none, 0)
abbrev m_X4_runEnd : k_MI := (yX4_runEnd, cX4_runEnd, 5, (some .int), 0)
abbrev m_X4_takeNumber : k_MI := (yX4_takeNumber, cX4_takeNumber, 3, none, 0)
abbrev m_X4_advance : k_MI := (yX4_advance, cX4_advance, 1, none, 1)
abbrev m_X1_refuse : k_MI := (yX1_refuse, cX1_refuse, 2, (some .boolean), 0)
abbrev m_X1_stands : k_MI := (yX1_stands, cX1_stands, 2, (some .boolean), 1)
abbrev m_X4_spells : k_MI := (yX4_spells, cX4_spells, 3, (some .boolean), 4)
abbrev m_X1_kindNamed : k_MI := (yX1_kindNamed, cX1_kindNamed, 1, (some .int), 5)
abbrev m_X1_follows : k_MI := (yX1_follows, cX1_follows, 2, (some .boolean), 2)
abbrev m_X5_isFull : k_MI := (yX5_isFull, cX5_isFull, 2, (some .boolean), 0)
abbrev m_X1_number : k_MI := (yX1_number, cX1_number, 3, (some .int), 2)
abbrev m_X5_add : k_MI := (yX5_add, cX5_add, 7, none, 1)
abbrev m_X1_handLine : k_MI := (yX1_handLine, cX1_handLine, 7, (some .boolean), 5)
abbrev m_X1_penLine : k_MI := (yX1_penLine, cX1_penLine, 3, (some .boolean), 3)
abbrev m_X5_isRun : k_MI := (yX5_isRun, cX5_isRun, 2, (some .boolean), 0)
abbrev m_X5_withBit : k_MI := (yX5_withBit, cX5_withBit, 3, (some .int), 0)
abbrev m_X5_setRun : k_MI := (yX5_setRun, cX5_setRun, 3, none, 1)
abbrev m_X1_runLine : k_MI := (yX1_runLine, cX1_runLine, 2, (some .boolean), 3)
abbrev m_X5_areFolded : k_MI := (yX5_areFolded, cX5_areFolded, 3, (some .boolean), 0)
abbrev m_X5_setFolded : k_MI := (yX5_setFolded, cX5_setFolded, 4, none, 1)
abbrev m_X1_foldLine : k_MI := (yX1_foldLine, cX1_foldLine, 3, (some .boolean), 3)
abbrev m_X5_isWed : k_MI := (yX5_isWed, cX5_isWed, 2, (some .boolean), 0)
abbrev m_X5_join : k_MI := (yX5_join, cX5_join, 3, none, 0)
abbrev m_X1_wedLine : k_MI := (yX1_wedLine, cX1_wedLine, 3, (some .boolean), 3)
abbrev m_X1_line : k_MI := (yX1_line, cX1_line, 2, (some .boolean), 6)
abbrev m_X5_wedBits : k_MI := (yX5_wedBits, cX5_wedBits, 3, (some .int), 1)
abbrev m_X1_namedBits : k_MI := (yX1_namedBits, cX1_namedBits, 3, (some .int), 2)
abbrev m_X5_handBits : k_MI := (yX5_handBits, cX5_handBits, 1, (some .int), 0)
abbrev m_X1_parse : k_MI := (yX1_parse, cX1_parse, 2, none, 7)
abbrev m_X5_become : k_MI := (yX5_become, cX5_become, 2, none, 1)
abbrev m_X6_text : k_MI := (yX6_text, cX6_text, 1, (some .int), 8)
abbrev m_X7_byteAt : k_MI := (yX7_byteAt, cX7_byteAt, 2, (some .int), 0)
abbrev m_X7_fails : k_MI := (yX7_fails, cX7_fails, 2, none, 0)
abbrev m_X7_step : k_MI := (yX7_step, cX7_step, 2, none, 1)
abbrev m_X7_nameHere : k_MI := (yX7_nameHere, cX7_nameHere, 4, (some .int), 1)
abbrev m_X7_other : k_MI := (yX7_other, cX7_other, 5, (some .int), 2)
abbrev m_X7_readHand : k_MI := (yX7_readHand, cX7_readHand, 4, none, 3)
abbrev m_X7_handHere : k_MI := (yX7_handHere, cX7_handHere, 5, (some .int), 3)
abbrev m_X7_readMore : k_MI := (yX7_readMore, cX7_readMore, 4, none, 4)
abbrev m_X7_readLine : k_MI := (yX7_readLine, cX7_readLine, 2, none, 5)
abbrev m_X7_handsOf : k_MI := (yX7_handsOf, cX7_handsOf, 2, (some .int), 0)
abbrev m_X7_text : k_MI := (yX7_text, cX7_text, 3, (some .int), 6)
abbrev m_X6_fault : k_MI := (yX6_fault, cX6_fault, 1, (some .int), 0)
abbrev m_X7_fault : k_MI := (yX7_fault, cX7_fault, 1, (some .int), 0)
abbrev m_X6_rule : k_MI := (yX6_rule, cX6_rule, 2, (some .int), 2)
abbrev m_X7_wedTo : k_MI := (yX7_wedTo, cX7_wedTo, 3, (some .int), 0)
abbrev m_X7_wedOnes : k_MI := (yX7_wedOnes, cX7_wedOnes, 3, (some .int), 1)
abbrev m_X7_rule : k_MI := (yX7_rule, cX7_rule, 2, (some .int), 2)
abbrev m_X5_isHand : k_MI := (yX5_isHand, cX5_isHand, 2, (some .boolean), 0)
abbrev m_X6_orNone : k_MI := (yX6_orNone, cX6_orNone, 1, (some .int), 0)
abbrev m_X6_hand : k_MI := (yX6_hand, cX6_hand, 3, (some .int), 1)
abbrev m_X7_isHand : k_MI := (yX7_isHand, cX7_isHand, 2, (some .boolean), 1)
abbrev m_X7_penOf : k_MI := (yX7_penOf, cX7_penOf, 2, (some .int), 0)
abbrev m_X7_areFolded : k_MI := (yX7_areFolded, cX7_areFolded, 5, (some .boolean), 0)
abbrev m_X7_foldedWith : k_MI := (yX7_foldedWith, cX7_foldedWith, 4, (some .int), 1)
abbrev m_X7_hand : k_MI := (yX7_hand, cX7_hand, 3, (some .int), 2)
abbrev m_X6_isTrait : k_MI := (yX6_isTrait, cX6_isTrait, 1, (some .boolean), 0)
abbrev m_X5_sameSide : k_MI := (yX5_sameSide, cX5_sameSide, 2, (some .boolean), 0)
abbrev m_X5_runsWith : k_MI := (yX5_runsWith, cX5_runsWith, 2, (some .int), 1)
abbrev m_X5_shows : k_MI := (yX5_shows, cX5_shows, 6, (some .int), 2)
abbrev m_X6_page : k_MI := (yX6_page, cX6_page, 3, (some .int), 3)
abbrev m_X7_isRun : k_MI := (yX7_isRun, cX7_isRun, 2, (some .boolean), 0)
abbrev m_X7_runsWith : k_MI := (yX7_runsWith, cX7_runsWith, 2, (some .int), 2)
abbrev m_X7_shows : k_MI := (yX7_shows, cX7_shows, 6, (some .int), 3)
abbrev m_X7_page : k_MI := (yX7_page, cX7_page, 3, (some .int), 4)
abbrev m_X0_likingIn : k_MI := (yX0_likingIn, cX0_likingIn, 6, (some .int), 1)
abbrev m_X0_weighOne : k_MI := (yX0_weighOne, cX0_weighOne, 5, none, 2)
abbrev m_X0_weigh : k_MI := (yX0_weigh, cX0_weigh, 4, none, 3)
abbrev m_X0_liking : k_MI := (yX0_liking, cX0_liking, 3, (some .int), 0)
abbrev m_X6_likes : k_MI := (yX6_likes, cX6_likes, 3, (some .int), 4)
abbrev m_X7_far : k_MI := (yX7_far, cX7_far, 2, (some .int), 0)
abbrev m_X7_likesOf : k_MI := (yX7_likesOf, cX7_likesOf, 6, (some .int), 4)
abbrev m_X7_likes : k_MI := (yX7_likes, cX7_likes, 3, (some .int), 5)
abbrev m_X0_wishFor : k_MI := (yX0_wishFor, cX0_wishFor, 3, (some .int), 0)
abbrev m_X0_countAbove : k_MI := (yX0_countAbove, cX0_countAbove, 5, (some .int), 1)
abbrev m_X0_choiceOf : k_MI := (yX0_choiceOf, cX0_choiceOf, 4, (some .int), 2)
abbrev m_X6_rather : k_MI := (yX6_rather, cX6_rather, 3, (some .int), 4)
abbrev m_X7_laysTable : k_MI := (yX7_laysTable, cX7_laysTable, 5, none, 5)
abbrev m_X7_isRather : k_MI := (yX7_isRather, cX7_isRather, 6, (some .boolean), 0)
abbrev m_X7_rather : k_MI := (yX7_rather, cX7_rather, 6, (some .int), 6)
abbrev m_X6_replace : k_MI := (yX6_replace, cX6_replace, 5, (some .int), 0)
abbrev m_X6_isStrokes : k_MI := (yX6_isStrokes, cX6_isStrokes, 1, (some .boolean), 0)
abbrev m_X6_alter : k_MI := (yX6_alter, cX6_alter, 4, (some .int), 1)
abbrev m_X7_puts : k_MI := (yX7_puts, cX7_puts, 6, (some .int), 0)
abbrev m_X7_pens : k_MI := (yX7_pens, cX7_pens, 3, (some .int), 2)
abbrev m_X7_alter : k_MI := (yX7_alter, cX7_alter, 4, (some .int), 3)
abbrev m_X6_run : k_MI := (yX6_run, cX6_run, 4, (some .int), 2)
abbrev m_X7_run : k_MI := (yX7_run, cX7_run, 4, (some .int), 2)
abbrev m_X5_isLeft : k_MI := (yX5_isLeft, cX5_isLeft, 2, (some .boolean), 0)
abbrev m_X5_isRight : k_MI := (yX5_isRight, cX5_isRight, 2, (some .boolean), 0)
abbrev m_X6_fold : k_MI := (yX6_fold, cX6_fold, 5, (some .int), 2)
abbrev m_X7_areTwo : k_MI := (yX7_areTwo, cX7_areTwo, 3, (some .boolean), 2)
abbrev m_X7_fold : k_MI := (yX7_fold, cX7_fold, 5, (some .int), 3)
abbrev m_X5_couples : k_MI := (yX5_couples, cX5_couples, 1, (some .int), 2)
abbrev m_X6_wed : k_MI := (yX6_wed, cX6_wed, 3, (some .int), 3)
abbrev m_X7_bitsOf : k_MI := (yX7_bitsOf, cX7_bitsOf, 3, (some .int), 0)
abbrev m_X7_wed : k_MI := (yX7_wed, cX7_wed, 3, (some .int), 3)
abbrev m_X5_divorce : k_MI := (yX5_divorce, cX5_divorce, 3, none, 0)
abbrev m_X6_part : k_MI := (yX6_part, cX6_part, 3, (some .int), 1)
abbrev m_X7_part : k_MI := (yX7_part, cX7_part, 3, (some .int), 2)
abbrev m_X0_dearest : k_MI := (yX0_dearest, cX0_dearest, 7, (some .int), 0)
abbrev m_X0_answer : k_MI := (yX0_answer, cX0_answer, 4, none, 1)
abbrev m_X0_firstAsks : k_MI := (yX0_firstAsks, cX0_firstAsks, 4, (some .boolean), 2)
abbrev m_X0_ask : k_MI := (yX0_ask, cX0_ask, 4, none, 3)
abbrev m_X0_court : k_MI := (yX0_court, cX0_court, 5, none, 4)
abbrev m_X6_asked : k_MI := (yX6_asked, cX6_asked, 3, (some .int), 5)
abbrev m_X7_nextAsked : k_MI := (yX7_nextAsked, cX7_nextAsked, 4, (some .int), 1)
abbrev m_X7_asking : k_MI := (yX7_asking, cX7_asking, 4, none, 2)
abbrev m_X7_askingNow : k_MI := (yX7_askingNow, cX7_askingNow, 2, none, 6)
abbrev m_X7_asked : k_MI := (yX7_asked, cX7_asked, 3, (some .int), 7)
abbrev m_X0_matedBits : k_MI := (yX0_matedBits, cX0_matedBits, 3, (some .int), 0)
abbrev m_X0_pairs : k_MI := (yX0_pairs, cX0_pairs, 1, (some .int), 1)
abbrev m_X0_allLikes : k_MI := (yX0_allLikes, cX0_allLikes, 3, (some .int), 1)
abbrev m_X6_sum : k_MI := (yX6_sum, cX6_sum, 2, (some .int), 5)
abbrev m_X7_pairMany : k_MI := (yX7_pairMany, cX7_pairMany, 3, (some .int), 0)
abbrev m_X7_likesInAll : k_MI := (yX7_likesInAll, cX7_likesInAll, 3, (some .int), 0)
abbrev m_X7_sum : k_MI := (yX7_sum, cX7_sum, 2, (some .int), 7)
abbrev m_X0_quarrelOver : k_MI := (yX0_quarrelOver, cX0_quarrelOver, 3, (some .boolean), 1)
abbrev m_X0_firstQuarrel : k_MI := (yX0_firstQuarrel, cX0_firstQuarrel, 3, (some .int), 2)
abbrev m_X0_toNextPairs : k_MI := (yX0_toNextPairs, cX0_toNextPairs, 4, (some .boolean), 1)
abbrev m_X0_countHoldingWith : k_MI := (yX0_countHoldingWith, cX0_countHoldingWith, 7, (some .int), 3)
abbrev m_X0_countHolding : k_MI := (yX0_countHolding, cX0_countHolding, 1, (some .int), 4)
abbrev m_X6_hold : k_MI := (yX6_hold, cX6_hold, 3, (some .int), 5)
abbrev m_X7_laysPairs : k_MI := (yX7_laysPairs, cX7_laysPairs, 6, (some .boolean), 0)
abbrev m_X7_doQuarrel : k_MI := (yX7_doQuarrel, cX7_doQuarrel, 3, (some .boolean), 1)
abbrev m_X7_quarrels : k_MI := (yX7_quarrels, cX7_quarrels, 3, (some .int), 2)
abbrev m_X7_hold : k_MI := (yX7_hold, cX7_hold, 5, (some .int), 7)
abbrev m_X0_findMost : k_MI := (yX0_findMost, cX0_findMost, 5, (some .int), 2)
abbrev m_X6_most : k_MI := (yX6_most, cX6_most, 4, (some .int), 4)
abbrev m_X7_most : k_MI := (yX7_most, cX7_most, 7, (some .int), 6)
abbrev m_X0_setMates : k_MI := (yX0_setMates, cX0_setMates, 2, none, 1)
abbrev m_X0_quarrels : k_MI := (yX0_quarrels, cX0_quarrels, 4, (some .int), 2)
abbrev m_X6_quarrel : k_MI := (yX6_quarrel, cX6_quarrel, 3, (some .int), 4)
abbrev m_X7_quarrel : k_MI := (yX7_quarrel, cX7_quarrel, 3, (some .int), 6)
abbrev m_X6_alone : k_MI := (yX6_alone, cX6_alone, 1, (some .int), 5)
abbrev m_X7_alone : k_MI := (yX7_alone, cX7_alone, 3, (some .int), 7)
abbrev m_X5_comeNearer : k_MI := (yX5_comeNearer, cX5_comeNearer, 6, none, 0)
abbrev m_X5_passYear : k_MI := (yX5_passYear, cX5_passYear, 2, none, 1)
abbrev m_X6_years : k_MI := (yX6_years, cX6_years, 3, (some .int), 2)
abbrev m_X7_nears : k_MI := (yX7_nears, cX7_nears, 10, none, 1)
abbrev m_X7_yearGoes : k_MI := (yX7_yearGoes, cX7_yearGoes, 2, none, 2)
abbrev m_X7_years : k_MI := (yX7_years, cX7_years, 3, (some .int), 3)
abbrev m_X5_unlike : k_MI := (yX5_unlike, cX5_unlike, 3, (some .int), 1)
abbrev m_X5_couplesAlike : k_MI := (yX5_couplesAlike, cX5_couplesAlike, 2, (some .boolean), 2)
abbrev m_X6_alike : k_MI := (yX6_alike, cX6_alike, 2, (some .int), 3)
abbrev m_X7_copies : k_MI := (yX7_copies, cX7_copies, 4, none, 0)
abbrev m_X7_unlike : k_MI := (yX7_unlike, cX7_unlike, 3, (some .int), 1)
abbrev m_X7_alike : k_MI := (yX7_alike, cX7_alike, 5, (some .int), 3)
abbrev m_X6_near : k_MI := (yX6_near, cX6_near, 7, (some .int), 2)
abbrev m_X7_near : k_MI := (yX7_near, cX7_near, 6, (some .int), 2)
abbrev m_X6_forge : k_MI := (yX6_forge, cX6_forge, 9, (some .int), 5)
abbrev m_X7_forge : k_MI := (yX7_forge, cX7_forge, 9, (some .int), 7)
abbrev m_X5_swapPens : k_MI := (yX5_swapPens, cX5_swapPens, 4, none, 0)
abbrev m_X6_likesIfSwapped : k_MI := (yX6_likesIfSwapped, cX6_likesIfSwapped, 3, (some .int), 5)
abbrev m_X6_swap : k_MI := (yX6_swap, cX6_swap, 7, (some .int), 6)
abbrev m_X7_swap : k_MI := (yX7_swap, cX7_swap, 9, (some .int), 7)
abbrev m_X6_power : k_MI := (yX6_power, cX6_power, 5, (some .long), 0)
abbrev m_X5_size : k_MI := (yX5_size, cX5_size, 1, (some .int), 0)
abbrev m_X6_stolenSum : k_MI := (yX6_stolenSum, cX6_stolenSum, 10, (some .long), 4)
abbrev m_X6_commonDivisor : k_MI := (yX6_commonDivisor, cX6_commonDivisor, 11, (some .long), 0)
abbrev m_X6_lowestTerms : k_MI := (yX6_lowestTerms, cX6_lowestTerms, 7, (some .long), 1)
abbrev m_X6_mean : k_MI := (yX6_mean, cX6_mean, 3, (some .long), 5)
abbrev m_X7_lowest : k_MI := (yX7_lowest, cX7_lowest, 11, (some .long), 0)
abbrev m_X7_byThieves : k_MI := (yX7_byThieves, cX7_byThieves, 13, (some .long), 6)
abbrev m_X7_mean : k_MI := (yX7_mean, cX7_mean, 3, (some .long), 7)
abbrev m_X6_luck : k_MI := (yX6_luck, cX6_luck, 4, (some .long), 5)
abbrev m_X7_luck : k_MI := (yX7_luck, cX7_luck, 4, (some .long), 7)
abbrev m_X3_add : k_MI := (yX3_add, cX3_add, 4, (some .boolean), 0)
abbrev m_X6_see : k_MI := (yX6_see, cX6_see, 4, (some .int), 1)
abbrev m_X7_see : k_MI := (yX7_see, cX7_see, 4, (some .int), 2)
abbrev m_X6_forget : k_MI := (yX6_forget, cX6_forget, 3, (some .int), 0)
abbrev m_X7_forget : k_MI := (yX7_forget, cX7_forget, 3, (some .int), 1)
abbrev m_X3_agreeWith : k_MI := (yX3_agreeWith, cX3_agreeWith, 4, (some .boolean), 3)
abbrev m_X6_fittingPens : k_MI := (yX6_fittingPens, cX6_fittingPens, 4, (some .int), 4)
abbrev m_X6_fits : k_MI := (yX6_fits, cX6_fits, 2, (some .int), 5)
abbrev m_X7_pensFor : k_MI := (yX7_pensFor, cX7_pensFor, 7, (some .int), 4)
abbrev m_X7_fits : k_MI := (yX7_fits, cX7_fits, 2, (some .int), 5)
abbrev m_X6_leftAtWorst : k_MI := (yX6_leftAtWorst, cX6_leftAtWorst, 7, (some .int), 3)
abbrev m_X6_look : k_MI := (yX6_look, cX6_look, 8, (some .int), 5)
abbrev m_X7_look : k_MI := (yX7_look, cX7_look, 11, (some .int), 5)
abbrev m_X6_nextSeed : k_MI := (yX6_nextSeed, cX6_nextSeed, 1, (some .int), 0)
abbrev m_X6_drawn : k_MI := (yX6_drawn, cX6_drawn, 1, (some .int), 0)
abbrev m_X5_byOrder : k_MI := (yX5_byOrder, cX5_byOrder, 2, (some .int), 0)
abbrev m_X6_drift : k_MI := (yX6_drift, cX6_drift, 9, (some .int), 5)
abbrev m_X7_drawsHand : k_MI := (yX7_drawsHand, cX7_drawsHand, 2, (some .int), 0)
abbrev m_X7_drift : k_MI := (yX7_drift, cX7_drift, 7, (some .int), 7)
abbrev m_X6_hasImage : k_MI := (yX6_hasImage, cX6_hasImage, 2, (some .boolean), 0)
abbrev m_X6_imageOf : k_MI := (yX6_imageOf, cX6_imageOf, 2, (some (.object "HandMarket$Town")), 0)
abbrev m_X6_keep : k_MI := (yX6_keep, cX6_keep, 3, (some .int), 2)
abbrev m_X7_keep : k_MI := (yX7_keep, cX7_keep, 3, (some .int), 1)
abbrev m_X6_back : k_MI := (yX6_back, cX6_back, 2, (some .int), 2)
abbrev m_X7_back : k_MI := (yX7_back, cX7_back, 2, (some .int), 1)
abbrev m_X6_isSheet : k_MI := (yX6_isSheet, cX6_isSheet, 1, (some .boolean), 0)
abbrev m_X6_isLane : k_MI := (yX6_isLane, cX6_isLane, 1, (some .boolean), 0)
abbrev m_X2_renew : k_MI := (yX2_renew, cX2_renew, 3, none, 1)
abbrev m_X6_sheet : k_MI := (yX6_sheet, cX6_sheet, 4, (some .int), 2)
abbrev m_X7_sheet : k_MI := (yX7_sheet, cX7_sheet, 5, (some .int), 1)
abbrev m_X2_isNothing : k_MI := (yX2_isNothing, cX2_isNothing, 1, (some .boolean), 0)
abbrev m_X2_faultAt : k_MI := (yX2_faultAt, cX2_faultAt, 3, (some .int), 1)
abbrev m_X2_put : k_MI := (yX2_put, cX2_put, 3, none, 0)
abbrev m_X6_lay : k_MI := (yX6_lay, cX6_lay, 6, (some .int), 2)
abbrev m_X7_lay : k_MI := (yX7_lay, cX7_lay, 4, (some .int), 1)
abbrev m_X2_faultAtTwo : k_MI := (yX2_faultAtTwo, cX2_faultAtTwo, 4, (some .int), 2)
abbrev m_X6_read : k_MI := (yX6_read, cX6_read, 12, (some .int), 3)
abbrev m_X7_read : k_MI := (yX7_read, cX7_read, 9, (some .int), 3)
abbrev m_X6_torn : k_MI := (yX6_torn, cX6_torn, 1, (some .int), 0)
abbrev m_X7_torn : k_MI := (yX7_torn, cX7_torn, 1, (some .int), 0)
abbrev m_X5_foldings : k_MI := (yX5_foldings, cX5_foldings, 3, (some .int), 1)
abbrev m_X6_count : k_MI := (yX6_count, cX6_count, 2, (some .int), 3)
abbrev m_X7_count : k_MI := (yX7_count, cX7_count, 4, (some .int), 2)
abbrev m_L_law : k_MI := (yL_law, cL_law, 4, (some .boolean), 12)
set_option maxRecDepth 100000 in
theorem cw_J6_bitCount_0f7a4 : k_CW m_J6_bitCount_0f7a4 1 := ⟨k_mem 664 rfl rfl, k_mem 85 (by decide +kernel) (by decide +kernel), by decide +kernel, by decide +kernel, by decide +kernel⟩
theorem sw_J6_bitCount_0f7a4 : Cond.static yJ6_bitCount_0f7a4 ∈ k_tbl := k_mem 663 (by decide +kernel) (by decide +kernel)
set_option maxRecDepth 100000 in
theorem cw_J7_fill_53178 : k_CW m_J7_fill_53178 2 := ⟨k_mem 586 rfl rfl, k_mem 83 (by decide +kernel) (by decide +kernel), by decide +kernel, by decide +kernel, by decide +kernel⟩
theorem sw_J7_fill_53178 : Cond.static yJ7_fill_53178 ∈ k_tbl := k_mem 585 (by decide +kernel) (by decide +kernel)
set_option maxRecDepth 100000 in
theorem cw_X4_put : k_CW m_X4_put 1 := ⟨k_mem 342 rfl rfl, k_mem 72 (by decide +kernel) (by decide +kernel), by decide +kernel, by decide +kernel, by decide +kernel⟩
theorem vw_X4_put : k_VW m_X4_put := ⟨k_mem 340 (by decide +kernel) (by decide +kernel), k_mem 341 (by decide +kernel) (by decide +kernel)⟩
set_option maxRecDepth 100000 in
theorem cw_X6_feed : k_CW m_X6_feed 1 := ⟨k_mem 338 rfl rfl, k_mem 70 (by decide +kernel) (by decide +kernel), by decide +kernel, by decide +kernel, by decide +kernel⟩
theorem vw_X6_feed : k_VW m_X6_feed := ⟨k_mem 336 (by decide +kernel) (by decide +kernel), k_mem 337 (by decide +kernel) (by decide +kernel)⟩
set_option maxRecDepth 100000 in
theorem cw_X7_in : k_CW m_X7_in 3 := ⟨k_mem 1083 rfl rfl, k_mem 77 (by decide +kernel) (by decide +kernel), by decide +kernel, by decide +kernel, by decide +kernel⟩
theorem sw_X7_in : Cond.static yX7_in ∈ k_tbl := k_mem 1082 (by decide +kernel) (by decide +kernel)
set_option maxRecDepth 100000 in
theorem cw_X7_feed : k_CW m_X7_feed 1 := ⟨k_mem 1079 rfl rfl, k_mem 77 (by decide +kernel) (by decide +kernel), by decide +kernel, by decide +kernel, by decide +kernel⟩
theorem vw_X7_feed : k_VW m_X7_feed := ⟨k_mem 1077 (by decide +kernel) (by decide +kernel), k_mem 1078 (by decide +kernel) (by decide +kernel)⟩
set_option maxRecDepth 100000 in
theorem cw_X6_end : k_CW m_X6_end 1 := ⟨k_mem 346 rfl rfl, k_mem 70 (by decide +kernel) (by decide +kernel), by decide +kernel, by decide +kernel, by decide +kernel⟩
theorem vw_X6_end : k_VW m_X6_end := ⟨k_mem 344 (by decide +kernel) (by decide +kernel), k_mem 345 (by decide +kernel) (by decide +kernel)⟩
set_option maxRecDepth 100000 in
theorem cw_X7_end : k_CW m_X7_end 1 := ⟨k_mem 1087 rfl rfl, k_mem 77 (by decide +kernel) (by decide +kernel), by decide +kernel, by decide +kernel, by decide +kernel⟩
theorem vw_X7_end : k_VW m_X7_end := ⟨k_mem 1085 (by decide +kernel) (by decide +kernel), k_mem 1086 (by decide +kernel) (by decide +kernel)⟩
set_option maxRecDepth 100000 in
theorem cw_X5_clear : k_CW m_X5_clear 0 := ⟨k_mem 103 rfl rfl, k_mem 71 (by decide +kernel) (by decide +kernel), by decide +kernel, by decide +kernel, by decide +kernel⟩
theorem vw_X5_clear : k_VW m_X5_clear := ⟨k_mem 101 (by decide +kernel) (by decide +kernel), k_mem 102 (by decide +kernel) (by decide +kernel)⟩
set_option maxRecDepth 100000 in
theorem cw_X4_rewind : k_CW m_X4_rewind 0 := ⟨k_mem 359 rfl rfl, k_mem 72 (by decide +kernel) (by decide +kernel), by decide +kernel, by decide +kernel, by decide +kernel⟩
theorem vw_X4_rewind : k_VW m_X4_rewind := ⟨k_mem 357 (by decide +kernel) (by decide +kernel), k_mem 358 (by decide +kernel) (by decide +kernel)⟩
set_option maxRecDepth 100000 in
theorem cw_X4_runEnd : k_CW m_X4_runEnd 3 := ⟨k_mem 367 rfl rfl, k_mem 72 (by decide +kernel) (by decide +kernel), by decide +kernel, by decide +kernel, by decide +kernel⟩
theorem vw_X4_runEnd : k_VW m_X4_runEnd := ⟨k_mem 366 (by decide +kernel) (by decide +kernel), k_mem 0 (by decide +kernel) (by decide +kernel)⟩
set_option maxRecDepth 100000 in
theorem cw_X4_takeNumber : k_CW m_X4_takeNumber 0 := ⟨k_mem 371 rfl rfl, k_mem 72 (by decide +kernel) (by decide +kernel), by decide +kernel, by decide +kernel, by decide +kernel⟩
theorem vw_X4_takeNumber : k_VW m_X4_takeNumber := ⟨k_mem 370 (by decide +kernel) (by decide +kernel), k_mem 1 (by decide +kernel) (by decide +kernel)⟩
set_option maxRecDepth 100000 in
theorem cw_X4_advance : k_CW m_X4_advance 0 := ⟨k_mem 363 rfl rfl, k_mem 72 (by decide +kernel) (by decide +kernel), by decide +kernel, by decide +kernel, by decide +kernel⟩
theorem vw_X4_advance : k_VW m_X4_advance := ⟨k_mem 361 (by decide +kernel) (by decide +kernel), k_mem 362 (by decide +kernel) (by decide +kernel)⟩
set_option maxRecDepth 100000 in
theorem cw_X1_refuse : k_CW m_X1_refuse 1 := ⟨k_mem 383 rfl rfl, k_mem 73 (by decide +kernel) (by decide +kernel), by decide +kernel, by decide +kernel, by decide +kernel⟩
theorem vw_X1_refuse : k_VW m_X1_refuse := ⟨k_mem 382 (by decide +kernel) (by decide +kernel), k_mem 4 (by decide +kernel) (by decide +kernel)⟩
set_option maxRecDepth 100000 in
theorem cw_X1_stands : k_CW m_X1_stands 1 := ⟨k_mem 379 rfl rfl, k_mem 73 (by decide +kernel) (by decide +kernel), by decide +kernel, by decide +kernel, by decide +kernel⟩
theorem vw_X1_stands : k_VW m_X1_stands := ⟨k_mem 378 (by decide +kernel) (by decide +kernel), k_mem 3 (by decide +kernel) (by decide +kernel)⟩
set_option maxRecDepth 100000 in
theorem cw_X4_spells : k_CW m_X4_spells 1 := ⟨k_mem 392 rfl rfl, k_mem 72 (by decide +kernel) (by decide +kernel), by decide +kernel, by decide +kernel, by decide +kernel⟩
theorem vw_X4_spells : k_VW m_X4_spells := ⟨k_mem 390 (by decide +kernel) (by decide +kernel), k_mem 391 (by decide +kernel) (by decide +kernel)⟩
set_option maxRecDepth 100000 in
theorem cw_X1_kindNamed : k_CW m_X1_kindNamed 0 := ⟨k_mem 387 rfl rfl, k_mem 73 (by decide +kernel) (by decide +kernel), by decide +kernel, by decide +kernel, by decide +kernel⟩
theorem vw_X1_kindNamed : k_VW m_X1_kindNamed := ⟨k_mem 386 (by decide +kernel) (by decide +kernel), k_mem 5 (by decide +kernel) (by decide +kernel)⟩
set_option maxRecDepth 100000 in
theorem cw_X1_follows : k_CW m_X1_follows 1 := ⟨k_mem 451 rfl rfl, k_mem 73 (by decide +kernel) (by decide +kernel), by decide +kernel, by decide +kernel, by decide +kernel⟩
theorem vw_X1_follows : k_VW m_X1_follows := ⟨k_mem 450 (by decide +kernel) (by decide +kernel), k_mem 7 (by decide +kernel) (by decide +kernel)⟩
set_option maxRecDepth 100000 in
theorem cw_X5_isFull : k_CW m_X5_isFull 1 := ⟨k_mem 457 rfl rfl, k_mem 71 (by decide +kernel) (by decide +kernel), by decide +kernel, by decide +kernel, by decide +kernel⟩
theorem vw_X5_isFull : k_VW m_X5_isFull := ⟨k_mem 455 (by decide +kernel) (by decide +kernel), k_mem 456 (by decide +kernel) (by decide +kernel)⟩
set_option maxRecDepth 100000 in
theorem cw_X1_number : k_CW m_X1_number 2 := ⟨k_mem 461 rfl rfl, k_mem 73 (by decide +kernel) (by decide +kernel), by decide +kernel, by decide +kernel, by decide +kernel⟩
theorem vw_X1_number : k_VW m_X1_number := ⟨k_mem 460 (by decide +kernel) (by decide +kernel), k_mem 8 (by decide +kernel) (by decide +kernel)⟩
set_option maxRecDepth 100000 in
theorem cw_X5_add : k_CW m_X5_add 5 := ⟨k_mem 465 rfl rfl, k_mem 71 (by decide +kernel) (by decide +kernel), by decide +kernel, by decide +kernel, by decide +kernel⟩
theorem vw_X5_add : k_VW m_X5_add := ⟨k_mem 463 (by decide +kernel) (by decide +kernel), k_mem 464 (by decide +kernel) (by decide +kernel)⟩
set_option maxRecDepth 100000 in
theorem cw_X1_handLine : k_CW m_X1_handLine 1 := ⟨k_mem 447 rfl rfl, k_mem 73 (by decide +kernel) (by decide +kernel), by decide +kernel, by decide +kernel, by decide +kernel⟩
theorem vw_X1_handLine : k_VW m_X1_handLine := ⟨k_mem 446 (by decide +kernel) (by decide +kernel), k_mem 6 (by decide +kernel) (by decide +kernel)⟩
set_option maxRecDepth 100000 in
theorem cw_X1_penLine : k_CW m_X1_penLine 0 := ⟨k_mem 471 rfl rfl, k_mem 73 (by decide +kernel) (by decide +kernel), by decide +kernel, by decide +kernel, by decide +kernel⟩
theorem vw_X1_penLine : k_VW m_X1_penLine := ⟨k_mem 470 (by decide +kernel) (by decide +kernel), k_mem 9 (by decide +kernel) (by decide +kernel)⟩
set_option maxRecDepth 100000 in
theorem cw_X5_isRun : k_CW m_X5_isRun 1 := ⟨k_mem 480 rfl rfl, k_mem 71 (by decide +kernel) (by decide +kernel), by decide +kernel, by decide +kernel, by decide +kernel⟩
theorem vw_X5_isRun : k_VW m_X5_isRun := ⟨k_mem 478 (by decide +kernel) (by decide +kernel), k_mem 479 (by decide +kernel) (by decide +kernel)⟩
set_option maxRecDepth 100000 in
theorem cw_X5_withBit : k_CW m_X5_withBit 3 := ⟨k_mem 487 rfl rfl, k_mem 71 (by decide +kernel) (by decide +kernel), by decide +kernel, by decide +kernel, by decide +kernel⟩
theorem sw_X5_withBit : Cond.static yX5_withBit ∈ k_tbl := k_mem 486 (by decide +kernel) (by decide +kernel)
set_option maxRecDepth 100000 in
theorem cw_X5_setRun : k_CW m_X5_setRun 2 := ⟨k_mem 484 rfl rfl, k_mem 71 (by decide +kernel) (by decide +kernel), by decide +kernel, by decide +kernel, by decide +kernel⟩
theorem vw_X5_setRun : k_VW m_X5_setRun := ⟨k_mem 482 (by decide +kernel) (by decide +kernel), k_mem 483 (by decide +kernel) (by decide +kernel)⟩
set_option maxRecDepth 100000 in
theorem cw_X1_runLine : k_CW m_X1_runLine 0 := ⟨k_mem 476 rfl rfl, k_mem 73 (by decide +kernel) (by decide +kernel), by decide +kernel, by decide +kernel, by decide +kernel⟩
theorem vw_X1_runLine : k_VW m_X1_runLine := ⟨k_mem 475 (by decide +kernel) (by decide +kernel), k_mem 10 (by decide +kernel) (by decide +kernel)⟩
set_option maxRecDepth 100000 in
theorem cw_X5_areFolded : k_CW m_X5_areFolded 2 := ⟨k_mem 496 rfl rfl, k_mem 71 (by decide +kernel) (by decide +kernel), by decide +kernel, by decide +kernel, by decide +kernel⟩
theorem vw_X5_areFolded : k_VW m_X5_areFolded := ⟨k_mem 494 (by decide +kernel) (by decide +kernel), k_mem 495 (by decide +kernel) (by decide +kernel)⟩
set_option maxRecDepth 100000 in
theorem cw_X5_setFolded : k_CW m_X5_setFolded 3 := ⟨k_mem 500 rfl rfl, k_mem 71 (by decide +kernel) (by decide +kernel), by decide +kernel, by decide +kernel, by decide +kernel⟩
theorem vw_X5_setFolded : k_VW m_X5_setFolded := ⟨k_mem 498 (by decide +kernel) (by decide +kernel), k_mem 499 (by decide +kernel) (by decide +kernel)⟩
set_option maxRecDepth 100000 in
theorem cw_X1_foldLine : k_CW m_X1_foldLine 0 := ⟨k_mem 492 rfl rfl, k_mem 73 (by decide +kernel) (by decide +kernel), by decide +kernel, by decide +kernel, by decide +kernel⟩
theorem vw_X1_foldLine : k_VW m_X1_foldLine := ⟨k_mem 491 (by decide +kernel) (by decide +kernel), k_mem 11 (by decide +kernel) (by decide +kernel)⟩
set_option maxRecDepth 100000 in
theorem cw_X5_isWed : k_CW m_X5_isWed 1 := ⟨k_mem 509 rfl rfl, k_mem 71 (by decide +kernel) (by decide +kernel), by decide +kernel, by decide +kernel, by decide +kernel⟩
theorem vw_X5_isWed : k_VW m_X5_isWed := ⟨k_mem 507 (by decide +kernel) (by decide +kernel), k_mem 508 (by decide +kernel) (by decide +kernel)⟩
set_option maxRecDepth 100000 in
theorem cw_X5_join : k_CW m_X5_join 2 := ⟨k_mem 513 rfl rfl, k_mem 71 (by decide +kernel) (by decide +kernel), by decide +kernel, by decide +kernel, by decide +kernel⟩
theorem vw_X5_join : k_VW m_X5_join := ⟨k_mem 511 (by decide +kernel) (by decide +kernel), k_mem 512 (by decide +kernel) (by decide +kernel)⟩
set_option maxRecDepth 100000 in
theorem cw_X1_wedLine : k_CW m_X1_wedLine 0 := ⟨k_mem 505 rfl rfl, k_mem 73 (by decide +kernel) (by decide +kernel), by decide +kernel, by decide +kernel, by decide +kernel⟩
theorem vw_X1_wedLine : k_VW m_X1_wedLine := ⟨k_mem 504 (by decide +kernel) (by decide +kernel), k_mem 12 (by decide +kernel) (by decide +kernel)⟩
set_option maxRecDepth 100000 in
theorem cw_X1_line : k_CW m_X1_line 0 := ⟨k_mem 375 rfl rfl, k_mem 73 (by decide +kernel) (by decide +kernel), by decide +kernel, by decide +kernel, by decide +kernel⟩
theorem vw_X1_line : k_VW m_X1_line := ⟨k_mem 374 (by decide +kernel) (by decide +kernel), k_mem 2 (by decide +kernel) (by decide +kernel)⟩
set_option maxRecDepth 100000 in
theorem cw_X5_wedBits : k_CW m_X5_wedBits 0 := ⟨k_mem 521 rfl rfl, k_mem 71 (by decide +kernel) (by decide +kernel), by decide +kernel, by decide +kernel, by decide +kernel⟩
theorem vw_X5_wedBits : k_VW m_X5_wedBits := ⟨k_mem 519 (by decide +kernel) (by decide +kernel), k_mem 520 (by decide +kernel) (by decide +kernel)⟩
set_option maxRecDepth 100000 in
theorem cw_X1_namedBits : k_CW m_X1_namedBits 0 := ⟨k_mem 517 rfl rfl, k_mem 73 (by decide +kernel) (by decide +kernel), by decide +kernel, by decide +kernel, by decide +kernel⟩
theorem vw_X1_namedBits : k_VW m_X1_namedBits := ⟨k_mem 516 (by decide +kernel) (by decide +kernel), k_mem 13 (by decide +kernel) (by decide +kernel)⟩
set_option maxRecDepth 100000 in
theorem cw_X5_handBits : k_CW m_X5_handBits 0 := ⟨k_mem 526 rfl rfl, k_mem 71 (by decide +kernel) (by decide +kernel), by decide +kernel, by decide +kernel, by decide +kernel⟩
theorem vw_X5_handBits : k_VW m_X5_handBits := ⟨k_mem 524 (by decide +kernel) (by decide +kernel), k_mem 525 (by decide +kernel) (by decide +kernel)⟩
set_option maxRecDepth 100000 in
theorem cw_X1_parse : k_CW m_X1_parse 0 := ⟨k_mem 354 rfl rfl, k_mem 73 (by decide +kernel) (by decide +kernel), by decide +kernel, by decide +kernel, by decide +kernel⟩
theorem vw_X1_parse : k_VW m_X1_parse := ⟨k_mem 352 (by decide +kernel) (by decide +kernel), k_mem 353 (by decide +kernel) (by decide +kernel)⟩
set_option maxRecDepth 100000 in
theorem cw_X5_become : k_CW m_X5_become 1 := ⟨k_mem 530 rfl rfl, k_mem 71 (by decide +kernel) (by decide +kernel), by decide +kernel, by decide +kernel, by decide +kernel⟩
theorem vw_X5_become : k_VW m_X5_become := ⟨k_mem 528 (by decide +kernel) (by decide +kernel), k_mem 529 (by decide +kernel) (by decide +kernel)⟩
set_option maxRecDepth 100000 in
theorem cw_X6_text : k_CW m_X6_text 0 := ⟨k_mem 350 rfl rfl, k_mem 70 (by decide +kernel) (by decide +kernel), by decide +kernel, by decide +kernel, by decide +kernel⟩
theorem vw_X6_text : k_VW m_X6_text := ⟨k_mem 348 (by decide +kernel) (by decide +kernel), k_mem 349 (by decide +kernel) (by decide +kernel)⟩
set_option maxRecDepth 100000 in
theorem cw_X7_byteAt : k_CW m_X7_byteAt 1 := ⟨k_mem 1099 rfl rfl, k_mem 77 (by decide +kernel) (by decide +kernel), by decide +kernel, by decide +kernel, by decide +kernel⟩
theorem vw_X7_byteAt : k_VW m_X7_byteAt := ⟨k_mem 1098 (by decide +kernel) (by decide +kernel), k_mem 31 (by decide +kernel) (by decide +kernel)⟩
set_option maxRecDepth 100000 in
theorem cw_X7_fails : k_CW m_X7_fails 1 := ⟨k_mem 1107 rfl rfl, k_mem 77 (by decide +kernel) (by decide +kernel), by decide +kernel, by decide +kernel, by decide +kernel⟩
theorem vw_X7_fails : k_VW m_X7_fails := ⟨k_mem 1106 (by decide +kernel) (by decide +kernel), k_mem 32 (by decide +kernel) (by decide +kernel)⟩
set_option maxRecDepth 100000 in
theorem cw_X7_step : k_CW m_X7_step 0 := ⟨k_mem 1095 rfl rfl, k_mem 77 (by decide +kernel) (by decide +kernel), by decide +kernel, by decide +kernel, by decide +kernel⟩
theorem vw_X7_step : k_VW m_X7_step := ⟨k_mem 1094 (by decide +kernel) (by decide +kernel), k_mem 30 (by decide +kernel) (by decide +kernel)⟩
set_option maxRecDepth 100000 in
theorem cw_X7_nameHere : k_CW m_X7_nameHere 0 := ⟨k_mem 1115 rfl rfl, k_mem 77 (by decide +kernel) (by decide +kernel), by decide +kernel, by decide +kernel, by decide +kernel⟩
theorem vw_X7_nameHere : k_VW m_X7_nameHere := ⟨k_mem 1114 (by decide +kernel) (by decide +kernel), k_mem 34 (by decide +kernel) (by decide +kernel)⟩
set_option maxRecDepth 100000 in
theorem cw_X7_other : k_CW m_X7_other 3 := ⟨k_mem 1128 rfl rfl, k_mem 77 (by decide +kernel) (by decide +kernel), by decide +kernel, by decide +kernel, by decide +kernel⟩
theorem vw_X7_other : k_VW m_X7_other := ⟨k_mem 1127 (by decide +kernel) (by decide +kernel), k_mem 37 (by decide +kernel) (by decide +kernel)⟩
set_option maxRecDepth 100000 in
theorem cw_X7_readHand : k_CW m_X7_readHand 1 := ⟨k_mem 1124 rfl rfl, k_mem 77 (by decide +kernel) (by decide +kernel), by decide +kernel, by decide +kernel, by decide +kernel⟩
theorem vw_X7_readHand : k_VW m_X7_readHand := ⟨k_mem 1123 (by decide +kernel) (by decide +kernel), k_mem 36 (by decide +kernel) (by decide +kernel)⟩
set_option maxRecDepth 100000 in
theorem cw_X7_handHere : k_CW m_X7_handHere 3 := ⟨k_mem 1132 rfl rfl, k_mem 77 (by decide +kernel) (by decide +kernel), by decide +kernel, by decide +kernel, by decide +kernel⟩
theorem vw_X7_handHere : k_VW m_X7_handHere := ⟨k_mem 1131 (by decide +kernel) (by decide +kernel), k_mem 38 (by decide +kernel) (by decide +kernel)⟩
set_option maxRecDepth 100000 in
theorem cw_X7_readMore : k_CW m_X7_readMore 1 := ⟨k_mem 1120 rfl rfl, k_mem 77 (by decide +kernel) (by decide +kernel), by decide +kernel, by decide +kernel, by decide +kernel⟩
theorem vw_X7_readMore : k_VW m_X7_readMore := ⟨k_mem 1119 (by decide +kernel) (by decide +kernel), k_mem 35 (by decide +kernel) (by decide +kernel)⟩
set_option maxRecDepth 100000 in
theorem cw_X7_readLine : k_CW m_X7_readLine 0 := ⟨k_mem 1111 rfl rfl, k_mem 77 (by decide +kernel) (by decide +kernel), by decide +kernel, by decide +kernel, by decide +kernel⟩
theorem vw_X7_readLine : k_VW m_X7_readLine := ⟨k_mem 1110 (by decide +kernel) (by decide +kernel), k_mem 33 (by decide +kernel) (by decide +kernel)⟩
set_option maxRecDepth 100000 in
theorem cw_X7_handsOf : k_CW m_X7_handsOf 2 := ⟨k_mem 1135 rfl rfl, k_mem 77 (by decide +kernel) (by decide +kernel), by decide +kernel, by decide +kernel, by decide +kernel⟩
theorem sw_X7_handsOf : Cond.static yX7_handsOf ∈ k_tbl := k_mem 1134 (by decide +kernel) (by decide +kernel)
set_option maxRecDepth 100000 in
theorem cw_X7_text : k_CW m_X7_text 0 := ⟨k_mem 1091 rfl rfl, k_mem 77 (by decide +kernel) (by decide +kernel), by decide +kernel, by decide +kernel, by decide +kernel⟩
theorem vw_X7_text : k_VW m_X7_text := ⟨k_mem 1089 (by decide +kernel) (by decide +kernel), k_mem 1090 (by decide +kernel) (by decide +kernel)⟩
set_option maxRecDepth 100000 in
theorem cw_X6_fault : k_CW m_X6_fault 0 := ⟨k_mem 537 rfl rfl, k_mem 70 (by decide +kernel) (by decide +kernel), by decide +kernel, by decide +kernel, by decide +kernel⟩
theorem vw_X6_fault : k_VW m_X6_fault := ⟨k_mem 535 (by decide +kernel) (by decide +kernel), k_mem 536 (by decide +kernel) (by decide +kernel)⟩
set_option maxRecDepth 100000 in
theorem cw_X7_fault : k_CW m_X7_fault 0 := ⟨k_mem 1139 rfl rfl, k_mem 77 (by decide +kernel) (by decide +kernel), by decide +kernel, by decide +kernel, by decide +kernel⟩
theorem vw_X7_fault : k_VW m_X7_fault := ⟨k_mem 1137 (by decide +kernel) (by decide +kernel), k_mem 1138 (by decide +kernel) (by decide +kernel)⟩
set_option maxRecDepth 100000 in
theorem cw_X6_rule : k_CW m_X6_rule 1 := ⟨k_mem 541 rfl rfl, k_mem 70 (by decide +kernel) (by decide +kernel), by decide +kernel, by decide +kernel, by decide +kernel⟩
theorem vw_X6_rule : k_VW m_X6_rule := ⟨k_mem 539 (by decide +kernel) (by decide +kernel), k_mem 540 (by decide +kernel) (by decide +kernel)⟩
set_option maxRecDepth 100000 in
theorem cw_X7_wedTo : k_CW m_X7_wedTo 1 := ⟨k_mem 1151 rfl rfl, k_mem 77 (by decide +kernel) (by decide +kernel), by decide +kernel, by decide +kernel, by decide +kernel⟩
theorem vw_X7_wedTo : k_VW m_X7_wedTo := ⟨k_mem 1150 (by decide +kernel) (by decide +kernel), k_mem 40 (by decide +kernel) (by decide +kernel)⟩
set_option maxRecDepth 100000 in
theorem cw_X7_wedOnes : k_CW m_X7_wedOnes 0 := ⟨k_mem 1147 rfl rfl, k_mem 77 (by decide +kernel) (by decide +kernel), by decide +kernel, by decide +kernel, by decide +kernel⟩
theorem vw_X7_wedOnes : k_VW m_X7_wedOnes := ⟨k_mem 1146 (by decide +kernel) (by decide +kernel), k_mem 39 (by decide +kernel) (by decide +kernel)⟩
set_option maxRecDepth 100000 in
theorem cw_X7_rule : k_CW m_X7_rule 1 := ⟨k_mem 1143 rfl rfl, k_mem 77 (by decide +kernel) (by decide +kernel), by decide +kernel, by decide +kernel, by decide +kernel⟩
theorem vw_X7_rule : k_VW m_X7_rule := ⟨k_mem 1141 (by decide +kernel) (by decide +kernel), k_mem 1142 (by decide +kernel) (by decide +kernel)⟩
set_option maxRecDepth 100000 in
theorem cw_X5_isHand : k_CW m_X5_isHand 1 := ⟨k_mem 550 rfl rfl, k_mem 71 (by decide +kernel) (by decide +kernel), by decide +kernel, by decide +kernel, by decide +kernel⟩
theorem vw_X5_isHand : k_VW m_X5_isHand := ⟨k_mem 548 (by decide +kernel) (by decide +kernel), k_mem 549 (by decide +kernel) (by decide +kernel)⟩
set_option maxRecDepth 100000 in
theorem cw_X6_orNone : k_CW m_X6_orNone 1 := ⟨k_mem 553 rfl rfl, k_mem 70 (by decide +kernel) (by decide +kernel), by decide +kernel, by decide +kernel, by decide +kernel⟩
theorem sw_X6_orNone : Cond.static yX6_orNone ∈ k_tbl := k_mem 552 (by decide +kernel) (by decide +kernel)
set_option maxRecDepth 100000 in
theorem cw_X6_hand : k_CW m_X6_hand 2 := ⟨k_mem 546 rfl rfl, k_mem 70 (by decide +kernel) (by decide +kernel), by decide +kernel, by decide +kernel, by decide +kernel⟩
theorem vw_X6_hand : k_VW m_X6_hand := ⟨k_mem 544 (by decide +kernel) (by decide +kernel), k_mem 545 (by decide +kernel) (by decide +kernel)⟩
set_option maxRecDepth 100000 in
theorem cw_X7_isHand : k_CW m_X7_isHand 1 := ⟨k_mem 1159 rfl rfl, k_mem 77 (by decide +kernel) (by decide +kernel), by decide +kernel, by decide +kernel, by decide +kernel⟩
theorem vw_X7_isHand : k_VW m_X7_isHand := ⟨k_mem 1158 (by decide +kernel) (by decide +kernel), k_mem 41 (by decide +kernel) (by decide +kernel)⟩
set_option maxRecDepth 100000 in
theorem cw_X7_penOf : k_CW m_X7_penOf 1 := ⟨k_mem 1164 rfl rfl, k_mem 77 (by decide +kernel) (by decide +kernel), by decide +kernel, by decide +kernel, by decide +kernel⟩
theorem vw_X7_penOf : k_VW m_X7_penOf := ⟨k_mem 1163 (by decide +kernel) (by decide +kernel), k_mem 42 (by decide +kernel) (by decide +kernel)⟩
set_option maxRecDepth 100000 in
theorem cw_X7_areFolded : k_CW m_X7_areFolded 2 := ⟨k_mem 1172 rfl rfl, k_mem 77 (by decide +kernel) (by decide +kernel), by decide +kernel, by decide +kernel, by decide +kernel⟩
theorem vw_X7_areFolded : k_VW m_X7_areFolded := ⟨k_mem 1171 (by decide +kernel) (by decide +kernel), k_mem 44 (by decide +kernel) (by decide +kernel)⟩
set_option maxRecDepth 100000 in
theorem cw_X7_foldedWith : k_CW m_X7_foldedWith 1 := ⟨k_mem 1168 rfl rfl, k_mem 77 (by decide +kernel) (by decide +kernel), by decide +kernel, by decide +kernel, by decide +kernel⟩
theorem vw_X7_foldedWith : k_VW m_X7_foldedWith := ⟨k_mem 1167 (by decide +kernel) (by decide +kernel), k_mem 43 (by decide +kernel) (by decide +kernel)⟩
set_option maxRecDepth 100000 in
theorem cw_X7_hand : k_CW m_X7_hand 2 := ⟨k_mem 1155 rfl rfl, k_mem 77 (by decide +kernel) (by decide +kernel), by decide +kernel, by decide +kernel, by decide +kernel⟩
theorem vw_X7_hand : k_VW m_X7_hand := ⟨k_mem 1153 (by decide +kernel) (by decide +kernel), k_mem 1154 (by decide +kernel) (by decide +kernel)⟩
set_option maxRecDepth 100000 in
theorem cw_X6_isTrait : k_CW m_X6_isTrait 1 := ⟨k_mem 560 rfl rfl, k_mem 70 (by decide +kernel) (by decide +kernel), by decide +kernel, by decide +kernel, by decide +kernel⟩
theorem sw_X6_isTrait : Cond.static yX6_isTrait ∈ k_tbl := k_mem 559 (by decide +kernel) (by decide +kernel)
set_option maxRecDepth 100000 in
theorem cw_X5_sameSide : k_CW m_X5_sameSide 2 := ⟨k_mem 572 rfl rfl, k_mem 71 (by decide +kernel) (by decide +kernel), by decide +kernel, by decide +kernel, by decide +kernel⟩
theorem sw_X5_sameSide : Cond.static yX5_sameSide ∈ k_tbl := k_mem 571 (by decide +kernel) (by decide +kernel)
set_option maxRecDepth 100000 in
theorem cw_X5_runsWith : k_CW m_X5_runsWith 1 := ⟨k_mem 568 rfl rfl, k_mem 71 (by decide +kernel) (by decide +kernel), by decide +kernel, by decide +kernel, by decide +kernel⟩
theorem vw_X5_runsWith : k_VW m_X5_runsWith := ⟨k_mem 567 (by decide +kernel) (by decide +kernel), k_mem 14 (by decide +kernel) (by decide +kernel)⟩
set_option maxRecDepth 100000 in
theorem cw_X5_shows : k_CW m_X5_shows 2 := ⟨k_mem 564 rfl rfl, k_mem 71 (by decide +kernel) (by decide +kernel), by decide +kernel, by decide +kernel, by decide +kernel⟩
theorem vw_X5_shows : k_VW m_X5_shows := ⟨k_mem 562 (by decide +kernel) (by decide +kernel), k_mem 563 (by decide +kernel) (by decide +kernel)⟩
set_option maxRecDepth 100000 in
theorem cw_X6_page : k_CW m_X6_page 2 := ⟨k_mem 557 rfl rfl, k_mem 70 (by decide +kernel) (by decide +kernel), by decide +kernel, by decide +kernel, by decide +kernel⟩
theorem vw_X6_page : k_VW m_X6_page := ⟨k_mem 555 (by decide +kernel) (by decide +kernel), k_mem 556 (by decide +kernel) (by decide +kernel)⟩
set_option maxRecDepth 100000 in
theorem cw_X7_isRun : k_CW m_X7_isRun 1 := ⟨k_mem 1189 rfl rfl, k_mem 77 (by decide +kernel) (by decide +kernel), by decide +kernel, by decide +kernel, by decide +kernel⟩
theorem vw_X7_isRun : k_VW m_X7_isRun := ⟨k_mem 1188 (by decide +kernel) (by decide +kernel), k_mem 47 (by decide +kernel) (by decide +kernel)⟩
set_option maxRecDepth 100000 in
theorem cw_X7_runsWith : k_CW m_X7_runsWith 1 := ⟨k_mem 1185 rfl rfl, k_mem 77 (by decide +kernel) (by decide +kernel), by decide +kernel, by decide +kernel, by decide +kernel⟩
theorem vw_X7_runsWith : k_VW m_X7_runsWith := ⟨k_mem 1184 (by decide +kernel) (by decide +kernel), k_mem 46 (by decide +kernel) (by decide +kernel)⟩
set_option maxRecDepth 100000 in
theorem cw_X7_shows : k_CW m_X7_shows 2 := ⟨k_mem 1181 rfl rfl, k_mem 77 (by decide +kernel) (by decide +kernel), by decide +kernel, by decide +kernel, by decide +kernel⟩
theorem vw_X7_shows : k_VW m_X7_shows := ⟨k_mem 1180 (by decide +kernel) (by decide +kernel), k_mem 45 (by decide +kernel) (by decide +kernel)⟩
set_option maxRecDepth 100000 in
theorem cw_X7_page : k_CW m_X7_page 2 := ⟨k_mem 1176 rfl rfl, k_mem 77 (by decide +kernel) (by decide +kernel), by decide +kernel, by decide +kernel, by decide +kernel⟩
theorem vw_X7_page : k_VW m_X7_page := ⟨k_mem 1174 (by decide +kernel) (by decide +kernel), k_mem 1175 (by decide +kernel) (by decide +kernel)⟩
set_option maxRecDepth 100000 in
theorem cw_X0_likingIn : k_CW m_X0_likingIn 3 := ⟨k_mem 596 rfl rfl, k_mem 74 (by decide +kernel) (by decide +kernel), by decide +kernel, by decide +kernel, by decide +kernel⟩
theorem vw_X0_likingIn : k_VW m_X0_likingIn := ⟨k_mem 595 (by decide +kernel) (by decide +kernel), k_mem 16 (by decide +kernel) (by decide +kernel)⟩
set_option maxRecDepth 100000 in
theorem cw_X0_weighOne : k_CW m_X0_weighOne 3 := ⟨k_mem 592 rfl rfl, k_mem 74 (by decide +kernel) (by decide +kernel), by decide +kernel, by decide +kernel, by decide +kernel⟩
theorem vw_X0_weighOne : k_VW m_X0_weighOne := ⟨k_mem 591 (by decide +kernel) (by decide +kernel), k_mem 15 (by decide +kernel) (by decide +kernel)⟩
set_option maxRecDepth 100000 in
theorem cw_X0_weigh : k_CW m_X0_weigh 1 := ⟨k_mem 582 rfl rfl, k_mem 74 (by decide +kernel) (by decide +kernel), by decide +kernel, by decide +kernel, by decide +kernel⟩
theorem vw_X0_weigh : k_VW m_X0_weigh := ⟨k_mem 580 (by decide +kernel) (by decide +kernel), k_mem 581 (by decide +kernel) (by decide +kernel)⟩
set_option maxRecDepth 100000 in
theorem cw_X0_liking : k_CW m_X0_liking 2 := ⟨k_mem 604 rfl rfl, k_mem 74 (by decide +kernel) (by decide +kernel), by decide +kernel, by decide +kernel, by decide +kernel⟩
theorem vw_X0_liking : k_VW m_X0_liking := ⟨k_mem 602 (by decide +kernel) (by decide +kernel), k_mem 603 (by decide +kernel) (by decide +kernel)⟩
set_option maxRecDepth 100000 in
theorem cw_X6_likes : k_CW m_X6_likes 2 := ⟨k_mem 577 rfl rfl, k_mem 70 (by decide +kernel) (by decide +kernel), by decide +kernel, by decide +kernel, by decide +kernel⟩
theorem vw_X6_likes : k_VW m_X6_likes := ⟨k_mem 575 (by decide +kernel) (by decide +kernel), k_mem 576 (by decide +kernel) (by decide +kernel)⟩
set_option maxRecDepth 100000 in
theorem cw_X7_far : k_CW m_X7_far 2 := ⟨k_mem 1200 rfl rfl, k_mem 77 (by decide +kernel) (by decide +kernel), by decide +kernel, by decide +kernel, by decide +kernel⟩
theorem sw_X7_far : Cond.static yX7_far ∈ k_tbl := k_mem 1199 (by decide +kernel) (by decide +kernel)
set_option maxRecDepth 100000 in
theorem cw_X7_likesOf : k_CW m_X7_likesOf 2 := ⟨k_mem 1197 rfl rfl, k_mem 77 (by decide +kernel) (by decide +kernel), by decide +kernel, by decide +kernel, by decide +kernel⟩
theorem vw_X7_likesOf : k_VW m_X7_likesOf := ⟨k_mem 1196 (by decide +kernel) (by decide +kernel), k_mem 48 (by decide +kernel) (by decide +kernel)⟩
set_option maxRecDepth 100000 in
theorem cw_X7_likes : k_CW m_X7_likes 2 := ⟨k_mem 1193 rfl rfl, k_mem 77 (by decide +kernel) (by decide +kernel), by decide +kernel, by decide +kernel, by decide +kernel⟩
theorem vw_X7_likes : k_VW m_X7_likes := ⟨k_mem 1191 (by decide +kernel) (by decide +kernel), k_mem 1192 (by decide +kernel) (by decide +kernel)⟩
set_option maxRecDepth 100000 in
theorem cw_X0_wishFor : k_CW m_X0_wishFor 2 := ⟨k_mem 616 rfl rfl, k_mem 74 (by decide +kernel) (by decide +kernel), by decide +kernel, by decide +kernel, by decide +kernel⟩
theorem vw_X0_wishFor : k_VW m_X0_wishFor := ⟨k_mem 615 (by decide +kernel) (by decide +kernel), k_mem 17 (by decide +kernel) (by decide +kernel)⟩
set_option maxRecDepth 100000 in
theorem cw_X0_countAbove : k_CW m_X0_countAbove 2 := ⟨k_mem 620 rfl rfl, k_mem 74 (by decide +kernel) (by decide +kernel), by decide +kernel, by decide +kernel, by decide +kernel⟩
theorem vw_X0_countAbove : k_VW m_X0_countAbove := ⟨k_mem 619 (by decide +kernel) (by decide +kernel), k_mem 18 (by decide +kernel) (by decide +kernel)⟩
set_option maxRecDepth 100000 in
theorem cw_X0_choiceOf : k_CW m_X0_choiceOf 2 := ⟨k_mem 612 rfl rfl, k_mem 74 (by decide +kernel) (by decide +kernel), by decide +kernel, by decide +kernel, by decide +kernel⟩
theorem vw_X0_choiceOf : k_VW m_X0_choiceOf := ⟨k_mem 610 (by decide +kernel) (by decide +kernel), k_mem 611 (by decide +kernel) (by decide +kernel)⟩
set_option maxRecDepth 100000 in
theorem cw_X6_rather : k_CW m_X6_rather 2 := ⟨k_mem 608 rfl rfl, k_mem 70 (by decide +kernel) (by decide +kernel), by decide +kernel, by decide +kernel, by decide +kernel⟩
theorem vw_X6_rather : k_VW m_X6_rather := ⟨k_mem 606 (by decide +kernel) (by decide +kernel), k_mem 607 (by decide +kernel) (by decide +kernel)⟩
set_option maxRecDepth 100000 in
theorem cw_X7_laysTable : k_CW m_X7_laysTable 1 := ⟨k_mem 1208 rfl rfl, k_mem 77 (by decide +kernel) (by decide +kernel), by decide +kernel, by decide +kernel, by decide +kernel⟩
theorem vw_X7_laysTable : k_VW m_X7_laysTable := ⟨k_mem 1207 (by decide +kernel) (by decide +kernel), k_mem 49 (by decide +kernel) (by decide +kernel)⟩
set_option maxRecDepth 100000 in
theorem cw_X7_isRather : k_CW m_X7_isRather 3 := ⟨k_mem 1212 rfl rfl, k_mem 77 (by decide +kernel) (by decide +kernel), by decide +kernel, by decide +kernel, by decide +kernel⟩
theorem vw_X7_isRather : k_VW m_X7_isRather := ⟨k_mem 1211 (by decide +kernel) (by decide +kernel), k_mem 50 (by decide +kernel) (by decide +kernel)⟩
set_option maxRecDepth 100000 in
theorem cw_X7_rather : k_CW m_X7_rather 2 := ⟨k_mem 1204 rfl rfl, k_mem 77 (by decide +kernel) (by decide +kernel), by decide +kernel, by decide +kernel, by decide +kernel⟩
theorem vw_X7_rather : k_VW m_X7_rather := ⟨k_mem 1202 (by decide +kernel) (by decide +kernel), k_mem 1203 (by decide +kernel) (by decide +kernel)⟩
set_option maxRecDepth 100000 in
theorem cw_X6_replace : k_CW m_X6_replace 4 := ⟨k_mem 627 rfl rfl, k_mem 70 (by decide +kernel) (by decide +kernel), by decide +kernel, by decide +kernel, by decide +kernel⟩
theorem sw_X6_replace : Cond.static yX6_replace ∈ k_tbl := k_mem 626 (by decide +kernel) (by decide +kernel)
set_option maxRecDepth 100000 in
theorem cw_X6_isStrokes : k_CW m_X6_isStrokes 1 := ⟨k_mem 630 rfl rfl, k_mem 70 (by decide +kernel) (by decide +kernel), by decide +kernel, by decide +kernel, by decide +kernel⟩
theorem sw_X6_isStrokes : Cond.static yX6_isStrokes ∈ k_tbl := k_mem 629 (by decide +kernel) (by decide +kernel)
set_option maxRecDepth 100000 in
theorem cw_X6_alter : k_CW m_X6_alter 3 := ⟨k_mem 624 rfl rfl, k_mem 70 (by decide +kernel) (by decide +kernel), by decide +kernel, by decide +kernel, by decide +kernel⟩
theorem vw_X6_alter : k_VW m_X6_alter := ⟨k_mem 622 (by decide +kernel) (by decide +kernel), k_mem 623 (by decide +kernel) (by decide +kernel)⟩
set_option maxRecDepth 100000 in
theorem cw_X7_puts : k_CW m_X7_puts 4 := ⟨k_mem 1224 rfl rfl, k_mem 77 (by decide +kernel) (by decide +kernel), by decide +kernel, by decide +kernel, by decide +kernel⟩
theorem vw_X7_puts : k_VW m_X7_puts := ⟨k_mem 1223 (by decide +kernel) (by decide +kernel), k_mem 52 (by decide +kernel) (by decide +kernel)⟩
set_option maxRecDepth 100000 in
theorem cw_X7_pens : k_CW m_X7_pens 2 := ⟨k_mem 1220 rfl rfl, k_mem 77 (by decide +kernel) (by decide +kernel), by decide +kernel, by decide +kernel, by decide +kernel⟩
theorem vw_X7_pens : k_VW m_X7_pens := ⟨k_mem 1219 (by decide +kernel) (by decide +kernel), k_mem 51 (by decide +kernel) (by decide +kernel)⟩
set_option maxRecDepth 100000 in
theorem cw_X7_alter : k_CW m_X7_alter 3 := ⟨k_mem 1216 rfl rfl, k_mem 77 (by decide +kernel) (by decide +kernel), by decide +kernel, by decide +kernel, by decide +kernel⟩
theorem vw_X7_alter : k_VW m_X7_alter := ⟨k_mem 1214 (by decide +kernel) (by decide +kernel), k_mem 1215 (by decide +kernel) (by decide +kernel)⟩
set_option maxRecDepth 100000 in
theorem cw_X6_run : k_CW m_X6_run 2 := ⟨k_mem 634 rfl rfl, k_mem 70 (by decide +kernel) (by decide +kernel), by decide +kernel, by decide +kernel, by decide +kernel⟩
theorem vw_X6_run : k_VW m_X6_run := ⟨k_mem 632 (by decide +kernel) (by decide +kernel), k_mem 633 (by decide +kernel) (by decide +kernel)⟩
set_option maxRecDepth 100000 in
theorem cw_X7_run : k_CW m_X7_run 2 := ⟨k_mem 1230 rfl rfl, k_mem 77 (by decide +kernel) (by decide +kernel), by decide +kernel, by decide +kernel, by decide +kernel⟩
theorem vw_X7_run : k_VW m_X7_run := ⟨k_mem 1228 (by decide +kernel) (by decide +kernel), k_mem 1229 (by decide +kernel) (by decide +kernel)⟩
set_option maxRecDepth 100000 in
theorem cw_X5_isLeft : k_CW m_X5_isLeft 1 := ⟨k_mem 644 rfl rfl, k_mem 71 (by decide +kernel) (by decide +kernel), by decide +kernel, by decide +kernel, by decide +kernel⟩
theorem vw_X5_isLeft : k_VW m_X5_isLeft := ⟨k_mem 642 (by decide +kernel) (by decide +kernel), k_mem 643 (by decide +kernel) (by decide +kernel)⟩
set_option maxRecDepth 100000 in
theorem cw_X5_isRight : k_CW m_X5_isRight 1 := ⟨k_mem 648 rfl rfl, k_mem 71 (by decide +kernel) (by decide +kernel), by decide +kernel, by decide +kernel, by decide +kernel⟩
theorem vw_X5_isRight : k_VW m_X5_isRight := ⟨k_mem 646 (by decide +kernel) (by decide +kernel), k_mem 647 (by decide +kernel) (by decide +kernel)⟩
set_option maxRecDepth 100000 in
theorem cw_X6_fold : k_CW m_X6_fold 3 := ⟨k_mem 640 rfl rfl, k_mem 70 (by decide +kernel) (by decide +kernel), by decide +kernel, by decide +kernel, by decide +kernel⟩
theorem vw_X6_fold : k_VW m_X6_fold := ⟨k_mem 638 (by decide +kernel) (by decide +kernel), k_mem 639 (by decide +kernel) (by decide +kernel)⟩
set_option maxRecDepth 100000 in
theorem cw_X7_areTwo : k_CW m_X7_areTwo 2 := ⟨k_mem 1238 rfl rfl, k_mem 77 (by decide +kernel) (by decide +kernel), by decide +kernel, by decide +kernel, by decide +kernel⟩
theorem vw_X7_areTwo : k_VW m_X7_areTwo := ⟨k_mem 1237 (by decide +kernel) (by decide +kernel), k_mem 53 (by decide +kernel) (by decide +kernel)⟩
set_option maxRecDepth 100000 in
theorem cw_X7_fold : k_CW m_X7_fold 3 := ⟨k_mem 1234 rfl rfl, k_mem 77 (by decide +kernel) (by decide +kernel), by decide +kernel, by decide +kernel, by decide +kernel⟩
theorem vw_X7_fold : k_VW m_X7_fold := ⟨k_mem 1232 (by decide +kernel) (by decide +kernel), k_mem 1233 (by decide +kernel) (by decide +kernel)⟩
set_option maxRecDepth 100000 in
theorem cw_X5_couples : k_CW m_X5_couples 0 := ⟨k_mem 660 rfl rfl, k_mem 71 (by decide +kernel) (by decide +kernel), by decide +kernel, by decide +kernel, by decide +kernel⟩
theorem vw_X5_couples : k_VW m_X5_couples := ⟨k_mem 658 (by decide +kernel) (by decide +kernel), k_mem 659 (by decide +kernel) (by decide +kernel)⟩
set_option maxRecDepth 100000 in
theorem cw_X6_wed : k_CW m_X6_wed 2 := ⟨k_mem 654 rfl rfl, k_mem 70 (by decide +kernel) (by decide +kernel), by decide +kernel, by decide +kernel, by decide +kernel⟩
theorem vw_X6_wed : k_VW m_X6_wed := ⟨k_mem 652 (by decide +kernel) (by decide +kernel), k_mem 653 (by decide +kernel) (by decide +kernel)⟩
set_option maxRecDepth 100000 in
theorem cw_X7_bitsOf : k_CW m_X7_bitsOf 1 := ⟨k_mem 1245 rfl rfl, k_mem 77 (by decide +kernel) (by decide +kernel), by decide +kernel, by decide +kernel, by decide +kernel⟩
theorem sw_X7_bitsOf : Cond.static yX7_bitsOf ∈ k_tbl := k_mem 1244 (by decide +kernel) (by decide +kernel)
set_option maxRecDepth 100000 in
theorem cw_X7_wed : k_CW m_X7_wed 2 := ⟨k_mem 1242 rfl rfl, k_mem 77 (by decide +kernel) (by decide +kernel), by decide +kernel, by decide +kernel, by decide +kernel⟩
theorem vw_X7_wed : k_VW m_X7_wed := ⟨k_mem 1240 (by decide +kernel) (by decide +kernel), k_mem 1241 (by decide +kernel) (by decide +kernel)⟩
set_option maxRecDepth 100000 in
theorem cw_X5_divorce : k_CW m_X5_divorce 2 := ⟨k_mem 675 rfl rfl, k_mem 71 (by decide +kernel) (by decide +kernel), by decide +kernel, by decide +kernel, by decide +kernel⟩
theorem vw_X5_divorce : k_VW m_X5_divorce := ⟨k_mem 673 (by decide +kernel) (by decide +kernel), k_mem 674 (by decide +kernel) (by decide +kernel)⟩
set_option maxRecDepth 100000 in
theorem cw_X6_part : k_CW m_X6_part 1 := ⟨k_mem 671 rfl rfl, k_mem 70 (by decide +kernel) (by decide +kernel), by decide +kernel, by decide +kernel, by decide +kernel⟩
theorem vw_X6_part : k_VW m_X6_part := ⟨k_mem 669 (by decide +kernel) (by decide +kernel), k_mem 670 (by decide +kernel) (by decide +kernel)⟩
set_option maxRecDepth 100000 in
theorem cw_X7_part : k_CW m_X7_part 1 := ⟨k_mem 1249 rfl rfl, k_mem 77 (by decide +kernel) (by decide +kernel), by decide +kernel, by decide +kernel, by decide +kernel⟩
theorem vw_X7_part : k_VW m_X7_part := ⟨k_mem 1247 (by decide +kernel) (by decide +kernel), k_mem 1248 (by decide +kernel) (by decide +kernel)⟩
set_option maxRecDepth 100000 in
theorem cw_X0_dearest : k_CW m_X0_dearest 2 := ⟨k_mem 696 rfl rfl, k_mem 74 (by decide +kernel) (by decide +kernel), by decide +kernel, by decide +kernel, by decide +kernel⟩
theorem vw_X0_dearest : k_VW m_X0_dearest := ⟨k_mem 695 (by decide +kernel) (by decide +kernel), k_mem 20 (by decide +kernel) (by decide +kernel)⟩
set_option maxRecDepth 100000 in
theorem cw_X0_answer : k_CW m_X0_answer 2 := ⟨k_mem 700 rfl rfl, k_mem 74 (by decide +kernel) (by decide +kernel), by decide +kernel, by decide +kernel, by decide +kernel⟩
theorem vw_X0_answer : k_VW m_X0_answer := ⟨k_mem 699 (by decide +kernel) (by decide +kernel), k_mem 21 (by decide +kernel) (by decide +kernel)⟩
set_option maxRecDepth 100000 in
theorem cw_X0_firstAsks : k_CW m_X0_firstAsks 1 := ⟨k_mem 692 rfl rfl, k_mem 74 (by decide +kernel) (by decide +kernel), by decide +kernel, by decide +kernel, by decide +kernel⟩
theorem vw_X0_firstAsks : k_VW m_X0_firstAsks := ⟨k_mem 691 (by decide +kernel) (by decide +kernel), k_mem 19 (by decide +kernel) (by decide +kernel)⟩
set_option maxRecDepth 100000 in
theorem cw_X0_ask : k_CW m_X0_ask 2 := ⟨k_mem 688 rfl rfl, k_mem 74 (by decide +kernel) (by decide +kernel), by decide +kernel, by decide +kernel, by decide +kernel⟩
theorem vw_X0_ask : k_VW m_X0_ask := ⟨k_mem 686 (by decide +kernel) (by decide +kernel), k_mem 687 (by decide +kernel) (by decide +kernel)⟩
set_option maxRecDepth 100000 in
theorem cw_X0_court : k_CW m_X0_court 2 := ⟨k_mem 683 rfl rfl, k_mem 74 (by decide +kernel) (by decide +kernel), by decide +kernel, by decide +kernel, by decide +kernel⟩
theorem vw_X0_court : k_VW m_X0_court := ⟨k_mem 681 (by decide +kernel) (by decide +kernel), k_mem 682 (by decide +kernel) (by decide +kernel)⟩
set_option maxRecDepth 100000 in
theorem cw_X6_asked : k_CW m_X6_asked 2 := ⟨k_mem 679 rfl rfl, k_mem 70 (by decide +kernel) (by decide +kernel), by decide +kernel, by decide +kernel, by decide +kernel⟩
theorem vw_X6_asked : k_VW m_X6_asked := ⟨k_mem 677 (by decide +kernel) (by decide +kernel), k_mem 678 (by decide +kernel) (by decide +kernel)⟩
set_option maxRecDepth 100000 in
theorem cw_X7_nextAsked : k_CW m_X7_nextAsked 1 := ⟨k_mem 1265 rfl rfl, k_mem 77 (by decide +kernel) (by decide +kernel), by decide +kernel, by decide +kernel, by decide +kernel⟩
theorem vw_X7_nextAsked : k_VW m_X7_nextAsked := ⟨k_mem 1264 (by decide +kernel) (by decide +kernel), k_mem 56 (by decide +kernel) (by decide +kernel)⟩
set_option maxRecDepth 100000 in
theorem cw_X7_asking : k_CW m_X7_asking 1 := ⟨k_mem 1261 rfl rfl, k_mem 77 (by decide +kernel) (by decide +kernel), by decide +kernel, by decide +kernel, by decide +kernel⟩
theorem vw_X7_asking : k_VW m_X7_asking := ⟨k_mem 1260 (by decide +kernel) (by decide +kernel), k_mem 55 (by decide +kernel) (by decide +kernel)⟩
set_option maxRecDepth 100000 in
theorem cw_X7_askingNow : k_CW m_X7_askingNow 1 := ⟨k_mem 1257 rfl rfl, k_mem 77 (by decide +kernel) (by decide +kernel), by decide +kernel, by decide +kernel, by decide +kernel⟩
theorem vw_X7_askingNow : k_VW m_X7_askingNow := ⟨k_mem 1256 (by decide +kernel) (by decide +kernel), k_mem 54 (by decide +kernel) (by decide +kernel)⟩
set_option maxRecDepth 100000 in
theorem cw_X7_asked : k_CW m_X7_asked 2 := ⟨k_mem 1253 rfl rfl, k_mem 77 (by decide +kernel) (by decide +kernel), by decide +kernel, by decide +kernel, by decide +kernel⟩
theorem vw_X7_asked : k_VW m_X7_asked := ⟨k_mem 1251 (by decide +kernel) (by decide +kernel), k_mem 1252 (by decide +kernel) (by decide +kernel)⟩
set_option maxRecDepth 100000 in
theorem cw_X0_matedBits : k_CW m_X0_matedBits 0 := ⟨k_mem 712 rfl rfl, k_mem 74 (by decide +kernel) (by decide +kernel), by decide +kernel, by decide +kernel, by decide +kernel⟩
theorem vw_X0_matedBits : k_VW m_X0_matedBits := ⟨k_mem 710 (by decide +kernel) (by decide +kernel), k_mem 711 (by decide +kernel) (by decide +kernel)⟩
set_option maxRecDepth 100000 in
theorem cw_X0_pairs : k_CW m_X0_pairs 0 := ⟨k_mem 708 rfl rfl, k_mem 74 (by decide +kernel) (by decide +kernel), by decide +kernel, by decide +kernel, by decide +kernel⟩
theorem vw_X0_pairs : k_VW m_X0_pairs := ⟨k_mem 706 (by decide +kernel) (by decide +kernel), k_mem 707 (by decide +kernel) (by decide +kernel)⟩
set_option maxRecDepth 100000 in
theorem cw_X0_allLikes : k_CW m_X0_allLikes 0 := ⟨k_mem 717 rfl rfl, k_mem 74 (by decide +kernel) (by decide +kernel), by decide +kernel, by decide +kernel, by decide +kernel⟩
theorem vw_X0_allLikes : k_VW m_X0_allLikes := ⟨k_mem 715 (by decide +kernel) (by decide +kernel), k_mem 716 (by decide +kernel) (by decide +kernel)⟩
set_option maxRecDepth 100000 in
theorem cw_X6_sum : k_CW m_X6_sum 1 := ⟨k_mem 704 rfl rfl, k_mem 70 (by decide +kernel) (by decide +kernel), by decide +kernel, by decide +kernel, by decide +kernel⟩
theorem vw_X6_sum : k_VW m_X6_sum := ⟨k_mem 702 (by decide +kernel) (by decide +kernel), k_mem 703 (by decide +kernel) (by decide +kernel)⟩
set_option maxRecDepth 100000 in
theorem cw_X7_pairMany : k_CW m_X7_pairMany 0 := ⟨k_mem 1273 rfl rfl, k_mem 77 (by decide +kernel) (by decide +kernel), by decide +kernel, by decide +kernel, by decide +kernel⟩
theorem vw_X7_pairMany : k_VW m_X7_pairMany := ⟨k_mem 1272 (by decide +kernel) (by decide +kernel), k_mem 57 (by decide +kernel) (by decide +kernel)⟩
set_option maxRecDepth 100000 in
theorem cw_X7_likesInAll : k_CW m_X7_likesInAll 0 := ⟨k_mem 1277 rfl rfl, k_mem 77 (by decide +kernel) (by decide +kernel), by decide +kernel, by decide +kernel, by decide +kernel⟩
theorem vw_X7_likesInAll : k_VW m_X7_likesInAll := ⟨k_mem 1276 (by decide +kernel) (by decide +kernel), k_mem 58 (by decide +kernel) (by decide +kernel)⟩
set_option maxRecDepth 100000 in
theorem cw_X7_sum : k_CW m_X7_sum 1 := ⟨k_mem 1269 rfl rfl, k_mem 77 (by decide +kernel) (by decide +kernel), by decide +kernel, by decide +kernel, by decide +kernel⟩
theorem vw_X7_sum : k_VW m_X7_sum := ⟨k_mem 1267 (by decide +kernel) (by decide +kernel), k_mem 1268 (by decide +kernel) (by decide +kernel)⟩
set_option maxRecDepth 100000 in
theorem cw_X0_quarrelOver : k_CW m_X0_quarrelOver 2 := ⟨k_mem 738 rfl rfl, k_mem 74 (by decide +kernel) (by decide +kernel), by decide +kernel, by decide +kernel, by decide +kernel⟩
theorem vw_X0_quarrelOver : k_VW m_X0_quarrelOver := ⟨k_mem 737 (by decide +kernel) (by decide +kernel), k_mem 22 (by decide +kernel) (by decide +kernel)⟩
set_option maxRecDepth 100000 in
theorem cw_X0_firstQuarrel : k_CW m_X0_firstQuarrel 0 := ⟨k_mem 734 rfl rfl, k_mem 74 (by decide +kernel) (by decide +kernel), by decide +kernel, by decide +kernel, by decide +kernel⟩
theorem vw_X0_firstQuarrel : k_VW m_X0_firstQuarrel := ⟨k_mem 732 (by decide +kernel) (by decide +kernel), k_mem 733 (by decide +kernel) (by decide +kernel)⟩
set_option maxRecDepth 100000 in
theorem cw_X0_toNextPairs : k_CW m_X0_toNextPairs 0 := ⟨k_mem 742 rfl rfl, k_mem 74 (by decide +kernel) (by decide +kernel), by decide +kernel, by decide +kernel, by decide +kernel⟩
theorem vw_X0_toNextPairs : k_VW m_X0_toNextPairs := ⟨k_mem 741 (by decide +kernel) (by decide +kernel), k_mem 23 (by decide +kernel) (by decide +kernel)⟩
set_option maxRecDepth 100000 in
theorem cw_X0_countHoldingWith : k_CW m_X0_countHoldingWith 2 := ⟨k_mem 730 rfl rfl, k_mem 74 (by decide +kernel) (by decide +kernel), by decide +kernel, by decide +kernel, by decide +kernel⟩
theorem vw_X0_countHoldingWith : k_VW m_X0_countHoldingWith := ⟨k_mem 728 (by decide +kernel) (by decide +kernel), k_mem 729 (by decide +kernel) (by decide +kernel)⟩
set_option maxRecDepth 100000 in
theorem cw_X0_countHolding : k_CW m_X0_countHolding 0 := ⟨k_mem 726 rfl rfl, k_mem 74 (by decide +kernel) (by decide +kernel), by decide +kernel, by decide +kernel, by decide +kernel⟩
theorem vw_X0_countHolding : k_VW m_X0_countHolding := ⟨k_mem 724 (by decide +kernel) (by decide +kernel), k_mem 725 (by decide +kernel) (by decide +kernel)⟩
set_option maxRecDepth 100000 in
theorem cw_X6_hold : k_CW m_X6_hold 1 := ⟨k_mem 722 rfl rfl, k_mem 70 (by decide +kernel) (by decide +kernel), by decide +kernel, by decide +kernel, by decide +kernel⟩
theorem vw_X6_hold : k_VW m_X6_hold := ⟨k_mem 720 (by decide +kernel) (by decide +kernel), k_mem 721 (by decide +kernel) (by decide +kernel)⟩
set_option maxRecDepth 100000 in
theorem cw_X7_laysPairs : k_CW m_X7_laysPairs 1 := ⟨k_mem 1285 rfl rfl, k_mem 77 (by decide +kernel) (by decide +kernel), by decide +kernel, by decide +kernel, by decide +kernel⟩
theorem vw_X7_laysPairs : k_VW m_X7_laysPairs := ⟨k_mem 1284 (by decide +kernel) (by decide +kernel), k_mem 59 (by decide +kernel) (by decide +kernel)⟩
set_option maxRecDepth 100000 in
theorem cw_X7_doQuarrel : k_CW m_X7_doQuarrel 2 := ⟨k_mem 1293 rfl rfl, k_mem 77 (by decide +kernel) (by decide +kernel), by decide +kernel, by decide +kernel, by decide +kernel⟩
theorem vw_X7_doQuarrel : k_VW m_X7_doQuarrel := ⟨k_mem 1292 (by decide +kernel) (by decide +kernel), k_mem 61 (by decide +kernel) (by decide +kernel)⟩
set_option maxRecDepth 100000 in
theorem cw_X7_quarrels : k_CW m_X7_quarrels 0 := ⟨k_mem 1289 rfl rfl, k_mem 77 (by decide +kernel) (by decide +kernel), by decide +kernel, by decide +kernel, by decide +kernel⟩
theorem vw_X7_quarrels : k_VW m_X7_quarrels := ⟨k_mem 1288 (by decide +kernel) (by decide +kernel), k_mem 60 (by decide +kernel) (by decide +kernel)⟩
set_option maxRecDepth 100000 in
theorem cw_X7_hold : k_CW m_X7_hold 1 := ⟨k_mem 1281 rfl rfl, k_mem 77 (by decide +kernel) (by decide +kernel), by decide +kernel, by decide +kernel, by decide +kernel⟩
theorem vw_X7_hold : k_VW m_X7_hold := ⟨k_mem 1279 (by decide +kernel) (by decide +kernel), k_mem 1280 (by decide +kernel) (by decide +kernel)⟩
set_option maxRecDepth 100000 in
theorem cw_X0_findMost : k_CW m_X0_findMost 0 := ⟨k_mem 751 rfl rfl, k_mem 74 (by decide +kernel) (by decide +kernel), by decide +kernel, by decide +kernel, by decide +kernel⟩
theorem vw_X0_findMost : k_VW m_X0_findMost := ⟨k_mem 749 (by decide +kernel) (by decide +kernel), k_mem 750 (by decide +kernel) (by decide +kernel)⟩
set_option maxRecDepth 100000 in
theorem cw_X6_most : k_CW m_X6_most 1 := ⟨k_mem 747 rfl rfl, k_mem 70 (by decide +kernel) (by decide +kernel), by decide +kernel, by decide +kernel, by decide +kernel⟩
theorem vw_X6_most : k_VW m_X6_most := ⟨k_mem 745 (by decide +kernel) (by decide +kernel), k_mem 746 (by decide +kernel) (by decide +kernel)⟩
set_option maxRecDepth 100000 in
theorem cw_X7_most : k_CW m_X7_most 1 := ⟨k_mem 1297 rfl rfl, k_mem 77 (by decide +kernel) (by decide +kernel), by decide +kernel, by decide +kernel, by decide +kernel⟩
theorem vw_X7_most : k_VW m_X7_most := ⟨k_mem 1295 (by decide +kernel) (by decide +kernel), k_mem 1296 (by decide +kernel) (by decide +kernel)⟩
set_option maxRecDepth 100000 in
theorem cw_X0_setMates : k_CW m_X0_setMates 1 := ⟨k_mem 761 rfl rfl, k_mem 74 (by decide +kernel) (by decide +kernel), by decide +kernel, by decide +kernel, by decide +kernel⟩
theorem vw_X0_setMates : k_VW m_X0_setMates := ⟨k_mem 759 (by decide +kernel) (by decide +kernel), k_mem 760 (by decide +kernel) (by decide +kernel)⟩
set_option maxRecDepth 100000 in
theorem cw_X0_quarrels : k_CW m_X0_quarrels 0 := ⟨k_mem 769 rfl rfl, k_mem 74 (by decide +kernel) (by decide +kernel), by decide +kernel, by decide +kernel, by decide +kernel⟩
theorem vw_X0_quarrels : k_VW m_X0_quarrels := ⟨k_mem 767 (by decide +kernel) (by decide +kernel), k_mem 768 (by decide +kernel) (by decide +kernel)⟩
set_option maxRecDepth 100000 in
theorem cw_X6_quarrel : k_CW m_X6_quarrel 1 := ⟨k_mem 757 rfl rfl, k_mem 70 (by decide +kernel) (by decide +kernel), by decide +kernel, by decide +kernel, by decide +kernel⟩
theorem vw_X6_quarrel : k_VW m_X6_quarrel := ⟨k_mem 755 (by decide +kernel) (by decide +kernel), k_mem 756 (by decide +kernel) (by decide +kernel)⟩
set_option maxRecDepth 100000 in
theorem cw_X7_quarrel : k_CW m_X7_quarrel 1 := ⟨k_mem 1302 rfl rfl, k_mem 77 (by decide +kernel) (by decide +kernel), by decide +kernel, by decide +kernel, by decide +kernel⟩
theorem vw_X7_quarrel : k_VW m_X7_quarrel := ⟨k_mem 1300 (by decide +kernel) (by decide +kernel), k_mem 1301 (by decide +kernel) (by decide +kernel)⟩
set_option maxRecDepth 100000 in
theorem cw_X6_alone : k_CW m_X6_alone 0 := ⟨k_mem 773 rfl rfl, k_mem 70 (by decide +kernel) (by decide +kernel), by decide +kernel, by decide +kernel, by decide +kernel⟩
theorem vw_X6_alone : k_VW m_X6_alone := ⟨k_mem 771 (by decide +kernel) (by decide +kernel), k_mem 772 (by decide +kernel) (by decide +kernel)⟩
set_option maxRecDepth 100000 in
theorem cw_X7_alone : k_CW m_X7_alone 0 := ⟨k_mem 1306 rfl rfl, k_mem 77 (by decide +kernel) (by decide +kernel), by decide +kernel, by decide +kernel, by decide +kernel⟩
theorem vw_X7_alone : k_VW m_X7_alone := ⟨k_mem 1304 (by decide +kernel) (by decide +kernel), k_mem 1305 (by decide +kernel) (by decide +kernel)⟩
set_option maxRecDepth 100000 in
theorem cw_X5_comeNearer : k_CW m_X5_comeNearer 3 := ⟨k_mem 785 rfl rfl, k_mem 71 (by decide +kernel) (by decide +kernel), by decide +kernel, by decide +kernel, by decide +kernel⟩
theorem sw_X5_comeNearer : Cond.static yX5_comeNearer ∈ k_tbl := k_mem 784 (by decide +kernel) (by decide +kernel)
set_option maxRecDepth 100000 in
theorem cw_X5_passYear : k_CW m_X5_passYear 0 := ⟨k_mem 782 rfl rfl, k_mem 71 (by decide +kernel) (by decide +kernel), by decide +kernel, by decide +kernel, by decide +kernel⟩
theorem vw_X5_passYear : k_VW m_X5_passYear := ⟨k_mem 780 (by decide +kernel) (by decide +kernel), k_mem 781 (by decide +kernel) (by decide +kernel)⟩
set_option maxRecDepth 100000 in
theorem cw_X6_years : k_CW m_X6_years 1 := ⟨k_mem 778 rfl rfl, k_mem 70 (by decide +kernel) (by decide +kernel), by decide +kernel, by decide +kernel, by decide +kernel⟩
theorem vw_X6_years : k_VW m_X6_years := ⟨k_mem 776 (by decide +kernel) (by decide +kernel), k_mem 777 (by decide +kernel) (by decide +kernel)⟩
set_option maxRecDepth 100000 in
theorem cw_X7_nears : k_CW m_X7_nears 3 := ⟨k_mem 1319 rfl rfl, k_mem 77 (by decide +kernel) (by decide +kernel), by decide +kernel, by decide +kernel, by decide +kernel⟩
theorem vw_X7_nears : k_VW m_X7_nears := ⟨k_mem 1318 (by decide +kernel) (by decide +kernel), k_mem 63 (by decide +kernel) (by decide +kernel)⟩
set_option maxRecDepth 100000 in
theorem cw_X7_yearGoes : k_CW m_X7_yearGoes 0 := ⟨k_mem 1315 rfl rfl, k_mem 77 (by decide +kernel) (by decide +kernel), by decide +kernel, by decide +kernel, by decide +kernel⟩
theorem vw_X7_yearGoes : k_VW m_X7_yearGoes := ⟨k_mem 1314 (by decide +kernel) (by decide +kernel), k_mem 62 (by decide +kernel) (by decide +kernel)⟩
set_option maxRecDepth 100000 in
theorem cw_X7_years : k_CW m_X7_years 1 := ⟨k_mem 1310 rfl rfl, k_mem 77 (by decide +kernel) (by decide +kernel), by decide +kernel, by decide +kernel, by decide +kernel⟩
theorem vw_X7_years : k_VW m_X7_years := ⟨k_mem 1308 (by decide +kernel) (by decide +kernel), k_mem 1309 (by decide +kernel) (by decide +kernel)⟩
set_option maxRecDepth 100000 in
theorem cw_X5_unlike : k_CW m_X5_unlike 2 := ⟨k_mem 797 rfl rfl, k_mem 71 (by decide +kernel) (by decide +kernel), by decide +kernel, by decide +kernel, by decide +kernel⟩
theorem vw_X5_unlike : k_VW m_X5_unlike := ⟨k_mem 795 (by decide +kernel) (by decide +kernel), k_mem 796 (by decide +kernel) (by decide +kernel)⟩
set_option maxRecDepth 100000 in
theorem cw_X5_couplesAlike : k_CW m_X5_couplesAlike 0 := ⟨k_mem 793 rfl rfl, k_mem 71 (by decide +kernel) (by decide +kernel), by decide +kernel, by decide +kernel, by decide +kernel⟩
theorem vw_X5_couplesAlike : k_VW m_X5_couplesAlike := ⟨k_mem 791 (by decide +kernel) (by decide +kernel), k_mem 792 (by decide +kernel) (by decide +kernel)⟩
set_option maxRecDepth 100000 in
theorem cw_X6_alike : k_CW m_X6_alike 0 := ⟨k_mem 789 rfl rfl, k_mem 70 (by decide +kernel) (by decide +kernel), by decide +kernel, by decide +kernel, by decide +kernel⟩
theorem vw_X6_alike : k_VW m_X6_alike := ⟨k_mem 787 (by decide +kernel) (by decide +kernel), k_mem 788 (by decide +kernel) (by decide +kernel)⟩
set_option maxRecDepth 100000 in
theorem cw_X7_copies : k_CW m_X7_copies 2 := ⟨k_mem 1327 rfl rfl, k_mem 77 (by decide +kernel) (by decide +kernel), by decide +kernel, by decide +kernel, by decide +kernel⟩
theorem vw_X7_copies : k_VW m_X7_copies := ⟨k_mem 1326 (by decide +kernel) (by decide +kernel), k_mem 64 (by decide +kernel) (by decide +kernel)⟩
set_option maxRecDepth 100000 in
theorem cw_X7_unlike : k_CW m_X7_unlike 2 := ⟨k_mem 1331 rfl rfl, k_mem 77 (by decide +kernel) (by decide +kernel), by decide +kernel, by decide +kernel, by decide +kernel⟩
theorem vw_X7_unlike : k_VW m_X7_unlike := ⟨k_mem 1330 (by decide +kernel) (by decide +kernel), k_mem 65 (by decide +kernel) (by decide +kernel)⟩
set_option maxRecDepth 100000 in
theorem cw_X7_alike : k_CW m_X7_alike 0 := ⟨k_mem 1323 rfl rfl, k_mem 77 (by decide +kernel) (by decide +kernel), by decide +kernel, by decide +kernel, by decide +kernel⟩
theorem vw_X7_alike : k_VW m_X7_alike := ⟨k_mem 1321 (by decide +kernel) (by decide +kernel), k_mem 1322 (by decide +kernel) (by decide +kernel)⟩
set_option maxRecDepth 100000 in
theorem cw_X6_near : k_CW m_X6_near 1 := ⟨k_mem 802 rfl rfl, k_mem 70 (by decide +kernel) (by decide +kernel), by decide +kernel, by decide +kernel, by decide +kernel⟩
theorem vw_X6_near : k_VW m_X6_near := ⟨k_mem 800 (by decide +kernel) (by decide +kernel), k_mem 801 (by decide +kernel) (by decide +kernel)⟩
set_option maxRecDepth 100000 in
theorem cw_X7_near : k_CW m_X7_near 1 := ⟨k_mem 1335 rfl rfl, k_mem 77 (by decide +kernel) (by decide +kernel), by decide +kernel, by decide +kernel, by decide +kernel⟩
theorem vw_X7_near : k_VW m_X7_near := ⟨k_mem 1333 (by decide +kernel) (by decide +kernel), k_mem 1334 (by decide +kernel) (by decide +kernel)⟩
set_option maxRecDepth 100000 in
theorem cw_X6_forge : k_CW m_X6_forge 2 := ⟨k_mem 807 rfl rfl, k_mem 70 (by decide +kernel) (by decide +kernel), by decide +kernel, by decide +kernel, by decide +kernel⟩
theorem vw_X6_forge : k_VW m_X6_forge := ⟨k_mem 805 (by decide +kernel) (by decide +kernel), k_mem 806 (by decide +kernel) (by decide +kernel)⟩
set_option maxRecDepth 100000 in
theorem cw_X7_forge : k_CW m_X7_forge 2 := ⟨k_mem 1340 rfl rfl, k_mem 77 (by decide +kernel) (by decide +kernel), by decide +kernel, by decide +kernel, by decide +kernel⟩
theorem vw_X7_forge : k_VW m_X7_forge := ⟨k_mem 1338 (by decide +kernel) (by decide +kernel), k_mem 1339 (by decide +kernel) (by decide +kernel)⟩
set_option maxRecDepth 100000 in
theorem cw_X5_swapPens : k_CW m_X5_swapPens 2 := ⟨k_mem 819 rfl rfl, k_mem 71 (by decide +kernel) (by decide +kernel), by decide +kernel, by decide +kernel, by decide +kernel⟩
theorem vw_X5_swapPens : k_VW m_X5_swapPens := ⟨k_mem 817 (by decide +kernel) (by decide +kernel), k_mem 818 (by decide +kernel) (by decide +kernel)⟩
set_option maxRecDepth 100000 in
theorem cw_X6_likesIfSwapped : k_CW m_X6_likesIfSwapped 2 := ⟨k_mem 815 rfl rfl, k_mem 70 (by decide +kernel) (by decide +kernel), by decide +kernel, by decide +kernel, by decide +kernel⟩
theorem vw_X6_likesIfSwapped : k_VW m_X6_likesIfSwapped := ⟨k_mem 814 (by decide +kernel) (by decide +kernel), k_mem 24 (by decide +kernel) (by decide +kernel)⟩
set_option maxRecDepth 100000 in
theorem cw_X6_swap : k_CW m_X6_swap 1 := ⟨k_mem 811 rfl rfl, k_mem 70 (by decide +kernel) (by decide +kernel), by decide +kernel, by decide +kernel, by decide +kernel⟩
theorem vw_X6_swap : k_VW m_X6_swap := ⟨k_mem 809 (by decide +kernel) (by decide +kernel), k_mem 810 (by decide +kernel) (by decide +kernel)⟩
set_option maxRecDepth 100000 in
theorem cw_X7_swap : k_CW m_X7_swap 1 := ⟨k_mem 1344 rfl rfl, k_mem 77 (by decide +kernel) (by decide +kernel), by decide +kernel, by decide +kernel, by decide +kernel⟩
theorem vw_X7_swap : k_VW m_X7_swap := ⟨k_mem 1342 (by decide +kernel) (by decide +kernel), k_mem 1343 (by decide +kernel) (by decide +kernel)⟩
set_option maxRecDepth 100000 in
theorem cw_X6_power : k_CW m_X6_power 2 := ⟨k_mem 832 rfl rfl, k_mem 70 (by decide +kernel) (by decide +kernel), by decide +kernel, by decide +kernel, by decide +kernel⟩
theorem sw_X6_power : Cond.static yX6_power ∈ k_tbl := k_mem 831 (by decide +kernel) (by decide +kernel)
set_option maxRecDepth 100000 in
theorem cw_X5_size : k_CW m_X5_size 0 := ⟨k_mem 836 rfl rfl, k_mem 71 (by decide +kernel) (by decide +kernel), by decide +kernel, by decide +kernel, by decide +kernel⟩
theorem vw_X5_size : k_VW m_X5_size := ⟨k_mem 834 (by decide +kernel) (by decide +kernel), k_mem 835 (by decide +kernel) (by decide +kernel)⟩
set_option maxRecDepth 100000 in
theorem cw_X6_stolenSum : k_CW m_X6_stolenSum 2 := ⟨k_mem 828 rfl rfl, k_mem 70 (by decide +kernel) (by decide +kernel), by decide +kernel, by decide +kernel, by decide +kernel⟩
theorem vw_X6_stolenSum : k_VW m_X6_stolenSum := ⟨k_mem 827 (by decide +kernel) (by decide +kernel), k_mem 25 (by decide +kernel) (by decide +kernel)⟩
set_option maxRecDepth 100000 in
theorem cw_X6_commonDivisor : k_CW m_X6_commonDivisor 2 := ⟨k_mem 843 rfl rfl, k_mem 70 (by decide +kernel) (by decide +kernel), by decide +kernel, by decide +kernel, by decide +kernel⟩
theorem sw_X6_commonDivisor : Cond.static yX6_commonDivisor ∈ k_tbl := k_mem 842 (by decide +kernel) (by decide +kernel)
set_option maxRecDepth 100000 in
theorem cw_X6_lowestTerms : k_CW m_X6_lowestTerms 3 := ⟨k_mem 840 rfl rfl, k_mem 70 (by decide +kernel) (by decide +kernel), by decide +kernel, by decide +kernel, by decide +kernel⟩
theorem sw_X6_lowestTerms : Cond.static yX6_lowestTerms ∈ k_tbl := k_mem 839 (by decide +kernel) (by decide +kernel)
set_option maxRecDepth 100000 in
theorem cw_X6_mean : k_CW m_X6_mean 2 := ⟨k_mem 823 rfl rfl, k_mem 70 (by decide +kernel) (by decide +kernel), by decide +kernel, by decide +kernel, by decide +kernel⟩
theorem vw_X6_mean : k_VW m_X6_mean := ⟨k_mem 821 (by decide +kernel) (by decide +kernel), k_mem 822 (by decide +kernel) (by decide +kernel)⟩
set_option maxRecDepth 100000 in
theorem cw_X7_lowest : k_CW m_X7_lowest 3 := ⟨k_mem 1355 rfl rfl, k_mem 77 (by decide +kernel) (by decide +kernel), by decide +kernel, by decide +kernel, by decide +kernel⟩
theorem sw_X7_lowest : Cond.static yX7_lowest ∈ k_tbl := k_mem 1354 (by decide +kernel) (by decide +kernel)
set_option maxRecDepth 100000 in
theorem cw_X7_byThieves : k_CW m_X7_byThieves 3 := ⟨k_mem 1352 rfl rfl, k_mem 77 (by decide +kernel) (by decide +kernel), by decide +kernel, by decide +kernel, by decide +kernel⟩
theorem vw_X7_byThieves : k_VW m_X7_byThieves := ⟨k_mem 1351 (by decide +kernel) (by decide +kernel), k_mem 66 (by decide +kernel) (by decide +kernel)⟩
set_option maxRecDepth 100000 in
theorem cw_X7_mean : k_CW m_X7_mean 2 := ⟨k_mem 1348 rfl rfl, k_mem 77 (by decide +kernel) (by decide +kernel), by decide +kernel, by decide +kernel, by decide +kernel⟩
theorem vw_X7_mean : k_VW m_X7_mean := ⟨k_mem 1346 (by decide +kernel) (by decide +kernel), k_mem 1347 (by decide +kernel) (by decide +kernel)⟩
set_option maxRecDepth 100000 in
theorem cw_X6_luck : k_CW m_X6_luck 3 := ⟨k_mem 847 rfl rfl, k_mem 70 (by decide +kernel) (by decide +kernel), by decide +kernel, by decide +kernel, by decide +kernel⟩
theorem vw_X6_luck : k_VW m_X6_luck := ⟨k_mem 845 (by decide +kernel) (by decide +kernel), k_mem 846 (by decide +kernel) (by decide +kernel)⟩
set_option maxRecDepth 100000 in
theorem cw_X7_luck : k_CW m_X7_luck 3 := ⟨k_mem 1360 rfl rfl, k_mem 77 (by decide +kernel) (by decide +kernel), by decide +kernel, by decide +kernel, by decide +kernel⟩
theorem vw_X7_luck : k_VW m_X7_luck := ⟨k_mem 1358 (by decide +kernel) (by decide +kernel), k_mem 1359 (by decide +kernel) (by decide +kernel)⟩
set_option maxRecDepth 100000 in
theorem cw_X3_add : k_CW m_X3_add 3 := ⟨k_mem 855 rfl rfl, k_mem 75 (by decide +kernel) (by decide +kernel), by decide +kernel, by decide +kernel, by decide +kernel⟩
theorem vw_X3_add : k_VW m_X3_add := ⟨k_mem 853 (by decide +kernel) (by decide +kernel), k_mem 854 (by decide +kernel) (by decide +kernel)⟩
set_option maxRecDepth 100000 in
theorem cw_X6_see : k_CW m_X6_see 3 := ⟨k_mem 851 rfl rfl, k_mem 70 (by decide +kernel) (by decide +kernel), by decide +kernel, by decide +kernel, by decide +kernel⟩
theorem vw_X6_see : k_VW m_X6_see := ⟨k_mem 849 (by decide +kernel) (by decide +kernel), k_mem 850 (by decide +kernel) (by decide +kernel)⟩
set_option maxRecDepth 100000 in
theorem cw_X7_see : k_CW m_X7_see 3 := ⟨k_mem 1364 rfl rfl, k_mem 77 (by decide +kernel) (by decide +kernel), by decide +kernel, by decide +kernel, by decide +kernel⟩
theorem vw_X7_see : k_VW m_X7_see := ⟨k_mem 1362 (by decide +kernel) (by decide +kernel), k_mem 1363 (by decide +kernel) (by decide +kernel)⟩
set_option maxRecDepth 100000 in
theorem cw_X6_forget : k_CW m_X6_forget 1 := ⟨k_mem 859 rfl rfl, k_mem 70 (by decide +kernel) (by decide +kernel), by decide +kernel, by decide +kernel, by decide +kernel⟩
theorem vw_X6_forget : k_VW m_X6_forget := ⟨k_mem 857 (by decide +kernel) (by decide +kernel), k_mem 858 (by decide +kernel) (by decide +kernel)⟩
set_option maxRecDepth 100000 in
theorem cw_X7_forget : k_CW m_X7_forget 1 := ⟨k_mem 1368 rfl rfl, k_mem 77 (by decide +kernel) (by decide +kernel), by decide +kernel, by decide +kernel, by decide +kernel⟩
theorem vw_X7_forget : k_VW m_X7_forget := ⟨k_mem 1366 (by decide +kernel) (by decide +kernel), k_mem 1367 (by decide +kernel) (by decide +kernel)⟩
set_option maxRecDepth 100000 in
theorem cw_X3_agreeWith : k_CW m_X3_agreeWith 2 := ⟨k_mem 871 rfl rfl, k_mem 75 (by decide +kernel) (by decide +kernel), by decide +kernel, by decide +kernel, by decide +kernel⟩
theorem vw_X3_agreeWith : k_VW m_X3_agreeWith := ⟨k_mem 869 (by decide +kernel) (by decide +kernel), k_mem 870 (by decide +kernel) (by decide +kernel)⟩
set_option maxRecDepth 100000 in
theorem cw_X6_fittingPens : k_CW m_X6_fittingPens 1 := ⟨k_mem 867 rfl rfl, k_mem 70 (by decide +kernel) (by decide +kernel), by decide +kernel, by decide +kernel, by decide +kernel⟩
theorem vw_X6_fittingPens : k_VW m_X6_fittingPens := ⟨k_mem 866 (by decide +kernel) (by decide +kernel), k_mem 26 (by decide +kernel) (by decide +kernel)⟩
set_option maxRecDepth 100000 in
theorem cw_X6_fits : k_CW m_X6_fits 1 := ⟨k_mem 863 rfl rfl, k_mem 70 (by decide +kernel) (by decide +kernel), by decide +kernel, by decide +kernel, by decide +kernel⟩
theorem vw_X6_fits : k_VW m_X6_fits := ⟨k_mem 861 (by decide +kernel) (by decide +kernel), k_mem 862 (by decide +kernel) (by decide +kernel)⟩
set_option maxRecDepth 100000 in
theorem cw_X7_pensFor : k_CW m_X7_pensFor 1 := ⟨k_mem 1376 rfl rfl, k_mem 77 (by decide +kernel) (by decide +kernel), by decide +kernel, by decide +kernel, by decide +kernel⟩
theorem vw_X7_pensFor : k_VW m_X7_pensFor := ⟨k_mem 1375 (by decide +kernel) (by decide +kernel), k_mem 67 (by decide +kernel) (by decide +kernel)⟩
set_option maxRecDepth 100000 in
theorem cw_X7_fits : k_CW m_X7_fits 1 := ⟨k_mem 1372 rfl rfl, k_mem 77 (by decide +kernel) (by decide +kernel), by decide +kernel, by decide +kernel, by decide +kernel⟩
theorem vw_X7_fits : k_VW m_X7_fits := ⟨k_mem 1370 (by decide +kernel) (by decide +kernel), k_mem 1371 (by decide +kernel) (by decide +kernel)⟩
set_option maxRecDepth 100000 in
theorem cw_X6_leftAtWorst : k_CW m_X6_leftAtWorst 3 := ⟨k_mem 880 rfl rfl, k_mem 70 (by decide +kernel) (by decide +kernel), by decide +kernel, by decide +kernel, by decide +kernel⟩
theorem vw_X6_leftAtWorst : k_VW m_X6_leftAtWorst := ⟨k_mem 879 (by decide +kernel) (by decide +kernel), k_mem 27 (by decide +kernel) (by decide +kernel)⟩
set_option maxRecDepth 100000 in
theorem cw_X6_look : k_CW m_X6_look 2 := ⟨k_mem 876 rfl rfl, k_mem 70 (by decide +kernel) (by decide +kernel), by decide +kernel, by decide +kernel, by decide +kernel⟩
theorem vw_X6_look : k_VW m_X6_look := ⟨k_mem 874 (by decide +kernel) (by decide +kernel), k_mem 875 (by decide +kernel) (by decide +kernel)⟩
set_option maxRecDepth 100000 in
theorem cw_X7_look : k_CW m_X7_look 2 := ⟨k_mem 1380 rfl rfl, k_mem 77 (by decide +kernel) (by decide +kernel), by decide +kernel, by decide +kernel, by decide +kernel⟩
theorem vw_X7_look : k_VW m_X7_look := ⟨k_mem 1378 (by decide +kernel) (by decide +kernel), k_mem 1379 (by decide +kernel) (by decide +kernel)⟩
set_option maxRecDepth 100000 in
theorem cw_X6_nextSeed : k_CW m_X6_nextSeed 1 := ⟨k_mem 891 rfl rfl, k_mem 70 (by decide +kernel) (by decide +kernel), by decide +kernel, by decide +kernel, by decide +kernel⟩
theorem sw_X6_nextSeed : Cond.static yX6_nextSeed ∈ k_tbl := k_mem 890 (by decide +kernel) (by decide +kernel)
set_option maxRecDepth 100000 in
theorem cw_X6_drawn : k_CW m_X6_drawn 1 := ⟨k_mem 895 rfl rfl, k_mem 70 (by decide +kernel) (by decide +kernel), by decide +kernel, by decide +kernel, by decide +kernel⟩
theorem sw_X6_drawn : Cond.static yX6_drawn ∈ k_tbl := k_mem 894 (by decide +kernel) (by decide +kernel)
set_option maxRecDepth 100000 in
theorem cw_X5_byOrder : k_CW m_X5_byOrder 1 := ⟨k_mem 899 rfl rfl, k_mem 71 (by decide +kernel) (by decide +kernel), by decide +kernel, by decide +kernel, by decide +kernel⟩
theorem vw_X5_byOrder : k_VW m_X5_byOrder := ⟨k_mem 897 (by decide +kernel) (by decide +kernel), k_mem 898 (by decide +kernel) (by decide +kernel)⟩
set_option maxRecDepth 100000 in
theorem cw_X6_drift : k_CW m_X6_drift 3 := ⟨k_mem 888 rfl rfl, k_mem 70 (by decide +kernel) (by decide +kernel), by decide +kernel, by decide +kernel, by decide +kernel⟩
theorem vw_X6_drift : k_VW m_X6_drift := ⟨k_mem 886 (by decide +kernel) (by decide +kernel), k_mem 887 (by decide +kernel) (by decide +kernel)⟩
set_option maxRecDepth 100000 in
theorem cw_X7_drawsHand : k_CW m_X7_drawsHand 0 := ⟨k_mem 1389 rfl rfl, k_mem 77 (by decide +kernel) (by decide +kernel), by decide +kernel, by decide +kernel, by decide +kernel⟩
theorem vw_X7_drawsHand : k_VW m_X7_drawsHand := ⟨k_mem 1388 (by decide +kernel) (by decide +kernel), k_mem 68 (by decide +kernel) (by decide +kernel)⟩
set_option maxRecDepth 100000 in
theorem cw_X7_drift : k_CW m_X7_drift 3 := ⟨k_mem 1384 rfl rfl, k_mem 77 (by decide +kernel) (by decide +kernel), by decide +kernel, by decide +kernel, by decide +kernel⟩
theorem vw_X7_drift : k_VW m_X7_drift := ⟨k_mem 1382 (by decide +kernel) (by decide +kernel), k_mem 1383 (by decide +kernel) (by decide +kernel)⟩
set_option maxRecDepth 100000 in
theorem cw_X6_hasImage : k_CW m_X6_hasImage 1 := ⟨k_mem 907 rfl rfl, k_mem 70 (by decide +kernel) (by decide +kernel), by decide +kernel, by decide +kernel, by decide +kernel⟩
theorem vw_X6_hasImage : k_VW m_X6_hasImage := ⟨k_mem 906 (by decide +kernel) (by decide +kernel), k_mem 28 (by decide +kernel) (by decide +kernel)⟩
set_option maxRecDepth 100000 in
theorem cw_X6_imageOf : k_CW m_X6_imageOf 1 := ⟨k_mem 911 rfl rfl, k_mem 70 (by decide +kernel) (by decide +kernel), by decide +kernel, by decide +kernel, by decide +kernel⟩
theorem vw_X6_imageOf : k_VW m_X6_imageOf := ⟨k_mem 910 (by decide +kernel) (by decide +kernel), k_mem 29 (by decide +kernel) (by decide +kernel)⟩
set_option maxRecDepth 100000 in
theorem cw_X6_keep : k_CW m_X6_keep 1 := ⟨k_mem 903 rfl rfl, k_mem 70 (by decide +kernel) (by decide +kernel), by decide +kernel, by decide +kernel, by decide +kernel⟩
theorem vw_X6_keep : k_VW m_X6_keep := ⟨k_mem 901 (by decide +kernel) (by decide +kernel), k_mem 902 (by decide +kernel) (by decide +kernel)⟩
set_option maxRecDepth 100000 in
theorem cw_X7_keep : k_CW m_X7_keep 1 := ⟨k_mem 1394 rfl rfl, k_mem 77 (by decide +kernel) (by decide +kernel), by decide +kernel, by decide +kernel, by decide +kernel⟩
theorem vw_X7_keep : k_VW m_X7_keep := ⟨k_mem 1392 (by decide +kernel) (by decide +kernel), k_mem 1393 (by decide +kernel) (by decide +kernel)⟩
set_option maxRecDepth 100000 in
theorem cw_X6_back : k_CW m_X6_back 1 := ⟨k_mem 915 rfl rfl, k_mem 70 (by decide +kernel) (by decide +kernel), by decide +kernel, by decide +kernel, by decide +kernel⟩
theorem vw_X6_back : k_VW m_X6_back := ⟨k_mem 913 (by decide +kernel) (by decide +kernel), k_mem 914 (by decide +kernel) (by decide +kernel)⟩
set_option maxRecDepth 100000 in
theorem cw_X7_back : k_CW m_X7_back 1 := ⟨k_mem 1398 rfl rfl, k_mem 77 (by decide +kernel) (by decide +kernel), by decide +kernel, by decide +kernel, by decide +kernel⟩
theorem vw_X7_back : k_VW m_X7_back := ⟨k_mem 1396 (by decide +kernel) (by decide +kernel), k_mem 1397 (by decide +kernel) (by decide +kernel)⟩
set_option maxRecDepth 100000 in
theorem cw_X6_isSheet : k_CW m_X6_isSheet 1 := ⟨k_mem 922 rfl rfl, k_mem 70 (by decide +kernel) (by decide +kernel), by decide +kernel, by decide +kernel, by decide +kernel⟩
theorem sw_X6_isSheet : Cond.static yX6_isSheet ∈ k_tbl := k_mem 921 (by decide +kernel) (by decide +kernel)
set_option maxRecDepth 100000 in
theorem cw_X6_isLane : k_CW m_X6_isLane 1 := ⟨k_mem 925 rfl rfl, k_mem 70 (by decide +kernel) (by decide +kernel), by decide +kernel, by decide +kernel, by decide +kernel⟩
theorem sw_X6_isLane : Cond.static yX6_isLane ∈ k_tbl := k_mem 924 (by decide +kernel) (by decide +kernel)
set_option maxRecDepth 100000 in
theorem cw_X2_renew : k_CW m_X2_renew 2 := ⟨k_mem 929 rfl rfl, k_mem 76 (by decide +kernel) (by decide +kernel), by decide +kernel, by decide +kernel, by decide +kernel⟩
theorem vw_X2_renew : k_VW m_X2_renew := ⟨k_mem 927 (by decide +kernel) (by decide +kernel), k_mem 928 (by decide +kernel) (by decide +kernel)⟩
set_option maxRecDepth 100000 in
theorem cw_X6_sheet : k_CW m_X6_sheet 3 := ⟨k_mem 919 rfl rfl, k_mem 70 (by decide +kernel) (by decide +kernel), by decide +kernel, by decide +kernel, by decide +kernel⟩
theorem vw_X6_sheet : k_VW m_X6_sheet := ⟨k_mem 917 (by decide +kernel) (by decide +kernel), k_mem 918 (by decide +kernel) (by decide +kernel)⟩
set_option maxRecDepth 100000 in
theorem cw_X7_sheet : k_CW m_X7_sheet 3 := ⟨k_mem 1402 rfl rfl, k_mem 77 (by decide +kernel) (by decide +kernel), by decide +kernel, by decide +kernel, by decide +kernel⟩
theorem vw_X7_sheet : k_VW m_X7_sheet := ⟨k_mem 1400 (by decide +kernel) (by decide +kernel), k_mem 1401 (by decide +kernel) (by decide +kernel)⟩
set_option maxRecDepth 100000 in
theorem cw_X2_isNothing : k_CW m_X2_isNothing 0 := ⟨k_mem 942 rfl rfl, k_mem 76 (by decide +kernel) (by decide +kernel), by decide +kernel, by decide +kernel, by decide +kernel⟩
theorem vw_X2_isNothing : k_VW m_X2_isNothing := ⟨k_mem 940 (by decide +kernel) (by decide +kernel), k_mem 941 (by decide +kernel) (by decide +kernel)⟩
set_option maxRecDepth 100000 in
theorem cw_X2_faultAt : k_CW m_X2_faultAt 2 := ⟨k_mem 938 rfl rfl, k_mem 76 (by decide +kernel) (by decide +kernel), by decide +kernel, by decide +kernel, by decide +kernel⟩
theorem vw_X2_faultAt : k_VW m_X2_faultAt := ⟨k_mem 936 (by decide +kernel) (by decide +kernel), k_mem 937 (by decide +kernel) (by decide +kernel)⟩
set_option maxRecDepth 100000 in
theorem cw_X2_put : k_CW m_X2_put 2 := ⟨k_mem 946 rfl rfl, k_mem 76 (by decide +kernel) (by decide +kernel), by decide +kernel, by decide +kernel, by decide +kernel⟩
theorem vw_X2_put : k_VW m_X2_put := ⟨k_mem 944 (by decide +kernel) (by decide +kernel), k_mem 945 (by decide +kernel) (by decide +kernel)⟩
set_option maxRecDepth 100000 in
theorem cw_X6_lay : k_CW m_X6_lay 3 := ⟨k_mem 934 rfl rfl, k_mem 70 (by decide +kernel) (by decide +kernel), by decide +kernel, by decide +kernel, by decide +kernel⟩
theorem vw_X6_lay : k_VW m_X6_lay := ⟨k_mem 932 (by decide +kernel) (by decide +kernel), k_mem 933 (by decide +kernel) (by decide +kernel)⟩
set_option maxRecDepth 100000 in
theorem cw_X7_lay : k_CW m_X7_lay 3 := ⟨k_mem 1406 rfl rfl, k_mem 77 (by decide +kernel) (by decide +kernel), by decide +kernel, by decide +kernel, by decide +kernel⟩
theorem vw_X7_lay : k_VW m_X7_lay := ⟨k_mem 1404 (by decide +kernel) (by decide +kernel), k_mem 1405 (by decide +kernel) (by decide +kernel)⟩
set_option maxRecDepth 100000 in
theorem cw_X2_faultAtTwo : k_CW m_X2_faultAtTwo 2 := ⟨k_mem 954 rfl rfl, k_mem 76 (by decide +kernel) (by decide +kernel), by decide +kernel, by decide +kernel, by decide +kernel⟩
theorem vw_X2_faultAtTwo : k_VW m_X2_faultAtTwo := ⟨k_mem 952 (by decide +kernel) (by decide +kernel), k_mem 953 (by decide +kernel) (by decide +kernel)⟩
set_option maxRecDepth 100000 in
theorem cw_X6_read : k_CW m_X6_read 4 := ⟨k_mem 950 rfl rfl, k_mem 70 (by decide +kernel) (by decide +kernel), by decide +kernel, by decide +kernel, by decide +kernel⟩
theorem vw_X6_read : k_VW m_X6_read := ⟨k_mem 948 (by decide +kernel) (by decide +kernel), k_mem 949 (by decide +kernel) (by decide +kernel)⟩
set_option maxRecDepth 100000 in
theorem cw_X7_read : k_CW m_X7_read 4 := ⟨k_mem 1410 rfl rfl, k_mem 77 (by decide +kernel) (by decide +kernel), by decide +kernel, by decide +kernel, by decide +kernel⟩
theorem vw_X7_read : k_VW m_X7_read := ⟨k_mem 1408 (by decide +kernel) (by decide +kernel), k_mem 1409 (by decide +kernel) (by decide +kernel)⟩
set_option maxRecDepth 100000 in
theorem cw_X6_torn : k_CW m_X6_torn 0 := ⟨k_mem 959 rfl rfl, k_mem 70 (by decide +kernel) (by decide +kernel), by decide +kernel, by decide +kernel, by decide +kernel⟩
theorem vw_X6_torn : k_VW m_X6_torn := ⟨k_mem 957 (by decide +kernel) (by decide +kernel), k_mem 958 (by decide +kernel) (by decide +kernel)⟩
set_option maxRecDepth 100000 in
theorem cw_X7_torn : k_CW m_X7_torn 0 := ⟨k_mem 1414 rfl rfl, k_mem 77 (by decide +kernel) (by decide +kernel), by decide +kernel, by decide +kernel, by decide +kernel⟩
theorem vw_X7_torn : k_VW m_X7_torn := ⟨k_mem 1412 (by decide +kernel) (by decide +kernel), k_mem 1413 (by decide +kernel) (by decide +kernel)⟩
set_option maxRecDepth 100000 in
theorem cw_X5_foldings : k_CW m_X5_foldings 0 := ⟨k_mem 968 rfl rfl, k_mem 71 (by decide +kernel) (by decide +kernel), by decide +kernel, by decide +kernel, by decide +kernel⟩
theorem vw_X5_foldings : k_VW m_X5_foldings := ⟨k_mem 966 (by decide +kernel) (by decide +kernel), k_mem 967 (by decide +kernel) (by decide +kernel)⟩
set_option maxRecDepth 100000 in
theorem cw_X6_count : k_CW m_X6_count 1 := ⟨k_mem 963 rfl rfl, k_mem 70 (by decide +kernel) (by decide +kernel), by decide +kernel, by decide +kernel, by decide +kernel⟩
theorem vw_X6_count : k_VW m_X6_count := ⟨k_mem 961 (by decide +kernel) (by decide +kernel), k_mem 962 (by decide +kernel) (by decide +kernel)⟩
set_option maxRecDepth 100000 in
theorem cw_X7_count : k_CW m_X7_count 1 := ⟨k_mem 1418 rfl rfl, k_mem 77 (by decide +kernel) (by decide +kernel), by decide +kernel, by decide +kernel, by decide +kernel⟩
theorem vw_X7_count : k_VW m_X7_count := ⟨k_mem 1416 (by decide +kernel) (by decide +kernel), k_mem 1417 (by decide +kernel) (by decide +kernel)⟩
abbrev m_J0_length_8abf5 : k_MI := (yJ0_length_8abf5, cJ0_length_8abf5, 1, (some .int), 1)
set_option maxRecDepth 100000 in
theorem cw_J0_length_8abf5 : k_CW m_J0_length_8abf5 0 := ⟨k_mem 396 rfl rfl, k_mem 78 (by decide +kernel) (by decide +kernel), by decide +kernel, by decide +kernel, by decide +kernel⟩
theorem vw_J0_length_8abf5 : k_VW m_J0_length_8abf5 := ⟨k_mem 394 (by decide +kernel) (by decide +kernel), k_mem 395 (by decide +kernel) (by decide +kernel)⟩
abbrev m_J0_charAt_5068e : k_MI := (yJ0_charAt_5068e, cJ0_charAt_5068e, 2, (some .char), 3)
set_option maxRecDepth 100000 in
theorem cw_J0_charAt_5068e : k_CW m_J0_charAt_5068e 1 := ⟨k_mem 406 rfl rfl, k_mem 78 (by decide +kernel) (by decide +kernel), by decide +kernel, by decide +kernel, by decide +kernel⟩
theorem vw_J0_charAt_5068e : k_VW m_J0_charAt_5068e := ⟨k_mem 404 (by decide +kernel) (by decide +kernel), k_mem 405 (by decide +kernel) (by decide +kernel)⟩
abbrev m_J0_coder_7d493 : k_MI := (yJ0_coder_7d493, cJ0_coder_7d493, 1, (some .byte), 0)
set_option maxRecDepth 100000 in
theorem cw_J0_coder_7d493 : k_CW m_J0_coder_7d493 0 := ⟨k_mem 400 rfl rfl, k_mem 78 (by decide +kernel) (by decide +kernel), by decide +kernel, by decide +kernel, by decide +kernel⟩
theorem vw_J0_coder_7d493 : k_VW m_J0_coder_7d493 := ⟨k_mem 398 (by decide +kernel) (by decide +kernel), k_mem 399 (by decide +kernel) (by decide +kernel)⟩
abbrev m_J0_isLatin1_aae02 : k_MI := (yJ0_isLatin1_aae02, cJ0_isLatin1_aae02, 1, (some .boolean), 0)
set_option maxRecDepth 100000 in
theorem cw_J0_isLatin1_aae02 : k_CW m_J0_isLatin1_aae02 0 := ⟨k_mem 410 rfl rfl, k_mem 78 (by decide +kernel) (by decide +kernel), by decide +kernel, by decide +kernel, by decide +kernel⟩
theorem vw_J0_isLatin1_aae02 : k_VW m_J0_isLatin1_aae02 := ⟨k_mem 408 (by decide +kernel) (by decide +kernel), k_mem 409 (by decide +kernel) (by decide +kernel)⟩
abbrev m_J1_charAt_3b067 : k_MI := (yJ1_charAt_3b067, cJ1_charAt_3b067, 2, (some .char), 2)
set_option maxRecDepth 100000 in
theorem cw_J1_charAt_3b067 : k_CW m_J1_charAt_3b067 2 := ⟨k_mem 413 rfl rfl, k_mem 79 (by decide +kernel) (by decide +kernel), by decide +kernel, by decide +kernel, by decide +kernel⟩
theorem sw_J1_charAt_3b067 : Cond.static yJ1_charAt_3b067 ∈ k_tbl := k_mem 412 (by decide +kernel) (by decide +kernel)
abbrev m_J0_checkIndex_df160 : k_MI := (yJ0_checkIndex_df160, cJ0_checkIndex_df160, 2, none, 1)
set_option maxRecDepth 100000 in
theorem cw_J0_checkIndex_df160 : k_CW m_J0_checkIndex_df160 2 := ⟨k_mem 416 rfl rfl, k_mem 78 (by decide +kernel) (by decide +kernel), by decide +kernel, by decide +kernel, by decide +kernel⟩
theorem sw_J0_checkIndex_df160 : Cond.static yJ0_checkIndex_df160 ∈ k_tbl := k_mem 415 (by decide +kernel) (by decide +kernel)
abbrev m_J3_checkIndex_8e157 : k_MI := (yJ3_checkIndex_8e157, cJ3_checkIndex_8e157, 3, (some .int), 0)
set_option maxRecDepth 100000 in
theorem cw_J3_checkIndex_8e157 : k_CW m_J3_checkIndex_8e157 3 := ⟨k_mem 421 rfl rfl, k_mem 80 (by decide +kernel) (by decide +kernel), by decide +kernel, by decide +kernel, by decide +kernel⟩
theorem sw_J3_checkIndex_8e157 : Cond.static yJ3_checkIndex_8e157 ∈ k_tbl := k_mem 420 (by decide +kernel) (by decide +kernel)
theorem sl_J0_9 : Cond.fieldLink RJ0 9 "java/lang/String" "value" "[B" ∈ k_tbl := k_mem 1419 (by decide +kernel) (by decide +kernel)
theorem sl_J0_15 : Cond.fieldLink RJ0 15 "java/lang/String" "coder" "B" ∈ k_tbl := k_mem 1420 (by decide +kernel) (by decide +kernel)
theorem sl_J0_38 : Cond.fieldLink RJ0 38 "java/lang/String" "COMPACT_STRINGS" "Z" ∈ k_tbl := k_mem 401 (by decide +kernel) (by decide +kernel)
theorem sl_J0_1053 : Cond.fieldLink RJ0 1053 "jdk/internal/util/Preconditions" "SIOOBE_FORMATTER" "Ljava/util/function/BiFunction;" ∈ k_tbl := k_mem 417 (by decide +kernel) (by decide +kernel)
set_option maxRecDepth 100000 in
theorem ma_abs : Cond.static Lib.Math.abs.name ∈ k_tbl ∧ Cond.initialized "java/lang/Math" ∈ k_tbl ∧ Cond.code Lib.Math.abs.name Lib.Math.abs.code 1 (some .int) ∈ k_tbl := ⟨k_mem 598 (by decide +kernel) (by decide +kernel), k_mem 84 (by decide +kernel) (by decide +kernel), k_mem 599 rfl rfl⟩
set_option maxRecDepth 100000 in
theorem ma_max : Cond.static Lib.Math.max.name ∈ k_tbl ∧ Cond.initialized "java/lang/Math" ∈ k_tbl ∧ Cond.code Lib.Math.max.name Lib.Math.max.code 2 (some .int) ∈ k_tbl := ⟨k_mem 883 (by decide +kernel) (by decide +kernel), k_mem 84 (by decide +kernel) (by decide +kernel), k_mem 884 rfl rfl⟩
set_option maxRecDepth 100000 in
theorem ma_min : Cond.static Lib.Math.min.name ∈ k_tbl ∧ Cond.initialized "java/lang/Math" ∈ k_tbl ∧ Cond.code Lib.Math.min.name Lib.Math.min.code 2 (some .int) ∈ k_tbl := ⟨k_mem 763 (by decide +kernel) (by decide +kernel), k_mem 84 (by decide +kernel) (by decide +kernel), k_mem 764 rfl rfl⟩
theorem fl_X0_9 : k_FL RX0 9 0 0 := ⟨RX0, TX0, 9, rfl, by decide, k_in0, k_mem 227 (by decide +kernel) (by decide +kernel)⟩
theorem fl_X0_15 : k_FL RX0 15 0 1 := ⟨RX0, TX0, 9, rfl, by decide, k_in0, k_mem 228 (by decide +kernel) (by decide +kernel)⟩
theorem fl_X0_18 : k_FL RX0 18 0 2 := ⟨RX0, TX0, 9, rfl, by decide, k_in0, k_mem 229 (by decide +kernel) (by decide +kernel)⟩
theorem fl_X0_21 : k_FL RX0 21 0 3 := ⟨RX0, TX0, 9, rfl, by decide, k_in0, k_mem 230 (by decide +kernel) (by decide +kernel)⟩
theorem fl_X0_24 : k_FL RX0 24 0 4 := ⟨RX0, TX0, 9, rfl, by decide, k_in0, k_mem 231 (by decide +kernel) (by decide +kernel)⟩
theorem fl_X0_27 : k_FL RX0 27 0 5 := ⟨RX0, TX0, 9, rfl, by decide, k_in0, k_mem 232 (by decide +kernel) (by decide +kernel)⟩
theorem fl_X0_30 : k_FL RX0 30 0 6 := ⟨RX0, TX0, 9, rfl, by decide, k_in0, k_mem 234 (by decide +kernel) (by decide +kernel)⟩
theorem fl_X0_33 : k_FL RX0 33 0 7 := ⟨RX0, TX0, 9, rfl, by decide, k_in0, k_mem 235 (by decide +kernel) (by decide +kernel)⟩
theorem fl_X0_42 : k_FL RX0 42 0 8 := ⟨RX0, TX0, 9, rfl, by decide, k_in0, k_mem 237 (by decide +kernel) (by decide +kernel)⟩
theorem fl_X0_60 : k_FL RX0 60 5 7 := ⟨RX5, TX5, 11, rfl, by decide, k_in5, k_mem 125 (by decide +kernel) (by decide +kernel)⟩
theorem fl_X0_63 : k_FL RX0 63 5 8 := ⟨RX5, TX5, 11, rfl, by decide, k_in5, k_mem 128 (by decide +kernel) (by decide +kernel)⟩
theorem fl_X0_78 : k_FL RX0 78 5 0 := ⟨RX5, TX5, 11, rfl, by decide, k_in5, k_mem 105 (by decide +kernel) (by decide +kernel)⟩
theorem fl_X0_81 : k_FL RX0 81 5 1 := ⟨RX5, TX5, 11, rfl, by decide, k_in5, k_mem 108 (by decide +kernel) (by decide +kernel)⟩
theorem fl_X0_90 : k_FL RX0 90 5 2 := ⟨RX5, TX5, 11, rfl, by decide, k_in5, k_mem 111 (by decide +kernel) (by decide +kernel)⟩
theorem fl_X0_93 : k_FL RX0 93 5 3 := ⟨RX5, TX5, 11, rfl, by decide, k_in5, k_mem 114 (by decide +kernel) (by decide +kernel)⟩
theorem fl_X1_12 : k_FL RX1 12 1 1 := ⟨RX1, TX1, 6, rfl, by decide, k_in1, k_mem 199 (by decide +kernel) (by decide +kernel)⟩
theorem fl_X1_18 : k_FL RX1 18 1 0 := ⟨RX1, TX1, 6, rfl, by decide, k_in1, k_mem 198 (by decide +kernel) (by decide +kernel)⟩
theorem fl_X1_25 : k_FL RX1 25 1 2 := ⟨RX1, TX1, 6, rfl, by decide, k_in1, k_mem 201 (by decide +kernel) (by decide +kernel)⟩
theorem fl_X1_32 : k_FL RX1 32 1 4 := ⟨RX1, TX1, 6, rfl, by decide, k_in1, k_mem 205 (by decide +kernel) (by decide +kernel)⟩
theorem fl_X1_35 : k_FL RX1 35 1 5 := ⟨RX1, TX1, 6, rfl, by decide, k_in1, k_mem 207 (by decide +kernel) (by decide +kernel)⟩
theorem fl_X1_46 : k_FL RX1 46 4 2 := ⟨RX4, TX4, 6, rfl, by decide, k_in4, k_mem 169 (by decide +kernel) (by decide +kernel)⟩
theorem fl_X1_60 : k_FL RX1 60 4 1 := ⟨RX4, TX4, 6, rfl, by decide, k_in4, k_mem 168 (by decide +kernel) (by decide +kernel)⟩
theorem fl_X1_126 : k_FL RX1 126 5 4 := ⟨RX5, TX5, 11, rfl, by decide, k_in5, k_mem 117 (by decide +kernel) (by decide +kernel)⟩
theorem fl_X1_151 : k_FL RX1 151 5 9 := ⟨RX5, TX5, 11, rfl, by decide, k_in5, k_mem 132 (by decide +kernel) (by decide +kernel)⟩
theorem fl_X1_157 : k_FL RX1 157 5 6 := ⟨RX5, TX5, 11, rfl, by decide, k_in5, k_mem 123 (by decide +kernel) (by decide +kernel)⟩
theorem fl_X1_160 : k_FL RX1 160 4 5 := ⟨RX4, TX4, 6, rfl, by decide, k_in4, k_mem 175 (by decide +kernel) (by decide +kernel)⟩
theorem fl_X1_163 : k_FL RX1 163 4 3 := ⟨RX4, TX4, 6, rfl, by decide, k_in4, k_mem 172 (by decide +kernel) (by decide +kernel)⟩
theorem fl_X2_9 : k_FL RX2 9 2 0 := ⟨RX2, TX2, 3, rfl, by decide, k_in2, k_mem 285 (by decide +kernel) (by decide +kernel)⟩
theorem fl_X2_15 : k_FL RX2 15 2 1 := ⟨RX2, TX2, 3, rfl, by decide, k_in2, k_mem 287 (by decide +kernel) (by decide +kernel)⟩
theorem fl_X2_19 : k_FL RX2 19 2 2 := ⟨RX2, TX2, 3, rfl, by decide, k_in2, k_mem 289 (by decide +kernel) (by decide +kernel)⟩
theorem fl_X3_9 : k_FL RX3 9 3 0 := ⟨RX3, TX3, 4, rfl, by decide, k_in3, k_mem 264 (by decide +kernel) (by decide +kernel)⟩
theorem fl_X3_13 : k_FL RX3 13 3 1 := ⟨RX3, TX3, 4, rfl, by decide, k_in3, k_mem 265 (by decide +kernel) (by decide +kernel)⟩
theorem fl_X3_16 : k_FL RX3 16 3 2 := ⟨RX3, TX3, 4, rfl, by decide, k_in3, k_mem 266 (by decide +kernel) (by decide +kernel)⟩
theorem fl_X3_19 : k_FL RX3 19 3 3 := ⟨RX3, TX3, 4, rfl, by decide, k_in3, k_mem 267 (by decide +kernel) (by decide +kernel)⟩
theorem fl_X4_11 : k_FL RX4 11 4 0 := ⟨RX4, TX4, 6, rfl, by decide, k_in4, k_mem 165 (by decide +kernel) (by decide +kernel)⟩
theorem fl_X4_15 : k_FL RX4 15 4 1 := ⟨RX4, TX4, 6, rfl, by decide, k_in4, k_mem 166 (by decide +kernel) (by decide +kernel)⟩
theorem fl_X4_19 : k_FL RX4 19 4 2 := ⟨RX4, TX4, 6, rfl, by decide, k_in4, k_mem 170 (by decide +kernel) (by decide +kernel)⟩
theorem fl_X4_22 : k_FL RX4 22 4 3 := ⟨RX4, TX4, 6, rfl, by decide, k_in4, k_mem 171 (by decide +kernel) (by decide +kernel)⟩
theorem fl_X4_25 : k_FL RX4 25 4 4 := ⟨RX4, TX4, 6, rfl, by decide, k_in4, k_mem 173 (by decide +kernel) (by decide +kernel)⟩
theorem fl_X4_35 : k_FL RX4 35 4 5 := ⟨RX4, TX4, 6, rfl, by decide, k_in4, k_mem 174 (by decide +kernel) (by decide +kernel)⟩
theorem fl_X5_9 : k_FL RX5 9 5 0 := ⟨RX5, TX5, 11, rfl, by decide, k_in5, k_mem 104 (by decide +kernel) (by decide +kernel)⟩
theorem fl_X5_15 : k_FL RX5 15 5 1 := ⟨RX5, TX5, 11, rfl, by decide, k_in5, k_mem 107 (by decide +kernel) (by decide +kernel)⟩
theorem fl_X5_18 : k_FL RX5 18 5 2 := ⟨RX5, TX5, 11, rfl, by decide, k_in5, k_mem 110 (by decide +kernel) (by decide +kernel)⟩
theorem fl_X5_21 : k_FL RX5 21 5 3 := ⟨RX5, TX5, 11, rfl, by decide, k_in5, k_mem 113 (by decide +kernel) (by decide +kernel)⟩
theorem fl_X5_24 : k_FL RX5 24 5 4 := ⟨RX5, TX5, 11, rfl, by decide, k_in5, k_mem 116 (by decide +kernel) (by decide +kernel)⟩
theorem fl_X5_27 : k_FL RX5 27 5 5 := ⟨RX5, TX5, 11, rfl, by decide, k_in5, k_mem 119 (by decide +kernel) (by decide +kernel)⟩
theorem fl_X5_30 : k_FL RX5 30 5 6 := ⟨RX5, TX5, 11, rfl, by decide, k_in5, k_mem 121 (by decide +kernel) (by decide +kernel)⟩
theorem fl_X5_36 : k_FL RX5 36 5 7 := ⟨RX5, TX5, 11, rfl, by decide, k_in5, k_mem 124 (by decide +kernel) (by decide +kernel)⟩
theorem fl_X5_40 : k_FL RX5 40 5 8 := ⟨RX5, TX5, 11, rfl, by decide, k_in5, k_mem 127 (by decide +kernel) (by decide +kernel)⟩
theorem fl_X5_43 : k_FL RX5 43 5 9 := ⟨RX5, TX5, 11, rfl, by decide, k_in5, k_mem 130 (by decide +kernel) (by decide +kernel)⟩
theorem fl_X5_46 : k_FL RX5 46 5 10 := ⟨RX5, TX5, 11, rfl, by decide, k_in5, k_mem 133 (by decide +kernel) (by decide +kernel)⟩
theorem fl_X6_10 : k_FL RX6 10 6 0 := ⟨RX6, TX6, 12, rfl, by decide, k_in6, k_mem 298 (by decide +kernel) (by decide +kernel)⟩
theorem fl_X6_16 : k_FL RX6 16 6 1 := ⟨RX6, TX6, 12, rfl, by decide, k_in6, k_mem 299 (by decide +kernel) (by decide +kernel)⟩
theorem fl_X6_19 : k_FL RX6 19 6 2 := ⟨RX6, TX6, 12, rfl, by decide, k_in6, k_mem 300 (by decide +kernel) (by decide +kernel)⟩
theorem fl_X6_22 : k_FL RX6 22 6 3 := ⟨RX6, TX6, 12, rfl, by decide, k_in6, k_mem 301 (by decide +kernel) (by decide +kernel)⟩
theorem fl_X6_28 : k_FL RX6 28 6 5 := ⟨RX6, TX6, 12, rfl, by decide, k_in6, k_mem 303 (by decide +kernel) (by decide +kernel)⟩
theorem fl_X6_37 : k_FL RX6 37 6 6 := ⟨RX6, TX6, 12, rfl, by decide, k_in6, k_mem 304 (by decide +kernel) (by decide +kernel)⟩
theorem fl_X6_44 : k_FL RX6 44 6 7 := ⟨RX6, TX6, 12, rfl, by decide, k_in6, k_mem 305 (by decide +kernel) (by decide +kernel)⟩
theorem fl_X6_51 : k_FL RX6 51 6 8 := ⟨RX6, TX6, 12, rfl, by decide, k_in6, k_mem 306 (by decide +kernel) (by decide +kernel)⟩
theorem fl_X6_55 : k_FL RX6 55 6 9 := ⟨RX6, TX6, 12, rfl, by decide, k_in6, k_mem 307 (by decide +kernel) (by decide +kernel)⟩
theorem fl_X6_61 : k_FL RX6 61 6 10 := ⟨RX6, TX6, 12, rfl, by decide, k_in6, k_mem 308 (by decide +kernel) (by decide +kernel)⟩
theorem fl_X6_70 : k_FL RX6 70 4 1 := ⟨RX4, TX4, 6, rfl, by decide, k_in4, k_mem 167 (by decide +kernel) (by decide +kernel)⟩
theorem fl_X6_77 : k_FL RX6 77 1 2 := ⟨RX1, TX1, 6, rfl, by decide, k_in1, k_mem 202 (by decide +kernel) (by decide +kernel)⟩
theorem fl_X6_80 : k_FL RX6 80 1 3 := ⟨RX1, TX1, 6, rfl, by decide, k_in1, k_mem 204 (by decide +kernel) (by decide +kernel)⟩
theorem fl_X6_83 : k_FL RX6 83 1 1 := ⟨RX1, TX1, 6, rfl, by decide, k_in1, k_mem 200 (by decide +kernel) (by decide +kernel)⟩
theorem fl_X6_90 : k_FL RX6 90 3 3 := ⟨RX3, TX3, 4, rfl, by decide, k_in3, k_mem 268 (by decide +kernel) (by decide +kernel)⟩
theorem fl_X6_91 : k_FL RX6 91 6 4 := ⟨RX6, TX6, 12, rfl, by decide, k_in6, k_mem 302 (by decide +kernel) (by decide +kernel)⟩
theorem fl_X6_94 : k_FL RX6 94 1 4 := ⟨RX1, TX1, 6, rfl, by decide, k_in1, k_mem 206 (by decide +kernel) (by decide +kernel)⟩
theorem fl_X6_97 : k_FL RX6 97 5 7 := ⟨RX5, TX5, 11, rfl, by decide, k_in5, k_mem 126 (by decide +kernel) (by decide +kernel)⟩
theorem fl_X6_100 : k_FL RX6 100 5 8 := ⟨RX5, TX5, 11, rfl, by decide, k_in5, k_mem 129 (by decide +kernel) (by decide +kernel)⟩
theorem fl_X6_103 : k_FL RX6 103 5 9 := ⟨RX5, TX5, 11, rfl, by decide, k_in5, k_mem 131 (by decide +kernel) (by decide +kernel)⟩
theorem fl_X6_110 : k_FL RX6 110 5 10 := ⟨RX5, TX5, 11, rfl, by decide, k_in5, k_mem 134 (by decide +kernel) (by decide +kernel)⟩
theorem fl_X6_116 : k_FL RX6 116 5 0 := ⟨RX5, TX5, 11, rfl, by decide, k_in5, k_mem 106 (by decide +kernel) (by decide +kernel)⟩
theorem fl_X6_119 : k_FL RX6 119 5 1 := ⟨RX5, TX5, 11, rfl, by decide, k_in5, k_mem 109 (by decide +kernel) (by decide +kernel)⟩
theorem fl_X6_122 : k_FL RX6 122 5 2 := ⟨RX5, TX5, 11, rfl, by decide, k_in5, k_mem 112 (by decide +kernel) (by decide +kernel)⟩
theorem fl_X6_125 : k_FL RX6 125 5 3 := ⟨RX5, TX5, 11, rfl, by decide, k_in5, k_mem 115 (by decide +kernel) (by decide +kernel)⟩
theorem fl_X6_128 : k_FL RX6 128 5 4 := ⟨RX5, TX5, 11, rfl, by decide, k_in5, k_mem 118 (by decide +kernel) (by decide +kernel)⟩
theorem fl_X6_131 : k_FL RX6 131 5 5 := ⟨RX5, TX5, 11, rfl, by decide, k_in5, k_mem 120 (by decide +kernel) (by decide +kernel)⟩
theorem fl_X6_138 : k_FL RX6 138 5 6 := ⟨RX5, TX5, 11, rfl, by decide, k_in5, k_mem 122 (by decide +kernel) (by decide +kernel)⟩
theorem fl_X6_205 : k_FL RX6 205 0 5 := ⟨RX0, TX0, 9, rfl, by decide, k_in0, k_mem 233 (by decide +kernel) (by decide +kernel)⟩
theorem fl_X6_223 : k_FL RX6 223 0 7 := ⟨RX0, TX0, 9, rfl, by decide, k_in0, k_mem 236 (by decide +kernel) (by decide +kernel)⟩
theorem fl_X6_236 : k_FL RX6 236 0 8 := ⟨RX0, TX0, 9, rfl, by decide, k_in0, k_mem 238 (by decide +kernel) (by decide +kernel)⟩
theorem fl_X6_311 : k_FL RX6 311 2 1 := ⟨RX2, TX2, 3, rfl, by decide, k_in2, k_mem 288 (by decide +kernel) (by decide +kernel)⟩
theorem fl_X6_322 : k_FL RX6 322 2 0 := ⟨RX2, TX2, 3, rfl, by decide, k_in2, k_mem 286 (by decide +kernel) (by decide +kernel)⟩
theorem fl_X6_325 : k_FL RX6 325 6 11 := ⟨RX6, TX6, 12, rfl, by decide, k_in6, k_mem 309 (by decide +kernel) (by decide +kernel)⟩
theorem fl_X6_331 : k_FL RX6 331 2 2 := ⟨RX2, TX2, 3, rfl, by decide, k_in2, k_mem 290 (by decide +kernel) (by decide +kernel)⟩
theorem fl_X7_7 : k_FL RX7 7 7 0 := ⟨RX7, TX7, 33, rfl, by decide, k_in7, k_mem 975 (by decide +kernel) (by decide +kernel)⟩
theorem fl_X7_13 : k_FL RX7 13 7 3 := ⟨RX7, TX7, 33, rfl, by decide, k_in7, k_mem 978 (by decide +kernel) (by decide +kernel)⟩
theorem fl_X7_16 : k_FL RX7 16 7 9 := ⟨RX7, TX7, 33, rfl, by decide, k_in7, k_mem 984 (by decide +kernel) (by decide +kernel)⟩
theorem fl_X7_19 : k_FL RX7 19 7 18 := ⟨RX7, TX7, 33, rfl, by decide, k_in7, k_mem 993 (by decide +kernel) (by decide +kernel)⟩
theorem fl_X7_22 : k_FL RX7 22 7 19 := ⟨RX7, TX7, 33, rfl, by decide, k_in7, k_mem 994 (by decide +kernel) (by decide +kernel)⟩
theorem fl_X7_25 : k_FL RX7 25 7 20 := ⟨RX7, TX7, 33, rfl, by decide, k_in7, k_mem 995 (by decide +kernel) (by decide +kernel)⟩
theorem fl_X7_28 : k_FL RX7 28 7 21 := ⟨RX7, TX7, 33, rfl, by decide, k_in7, k_mem 996 (by decide +kernel) (by decide +kernel)⟩
theorem fl_X7_31 : k_FL RX7 31 7 22 := ⟨RX7, TX7, 33, rfl, by decide, k_in7, k_mem 997 (by decide +kernel) (by decide +kernel)⟩
theorem fl_X7_34 : k_FL RX7 34 7 23 := ⟨RX7, TX7, 33, rfl, by decide, k_in7, k_mem 998 (by decide +kernel) (by decide +kernel)⟩
theorem fl_X7_37 : k_FL RX7 37 7 24 := ⟨RX7, TX7, 33, rfl, by decide, k_in7, k_mem 999 (by decide +kernel) (by decide +kernel)⟩
theorem fl_X7_40 : k_FL RX7 40 7 26 := ⟨RX7, TX7, 33, rfl, by decide, k_in7, k_mem 1001 (by decide +kernel) (by decide +kernel)⟩
theorem fl_X7_43 : k_FL RX7 43 7 28 := ⟨RX7, TX7, 33, rfl, by decide, k_in7, k_mem 1003 (by decide +kernel) (by decide +kernel)⟩
theorem fl_X7_47 : k_FL RX7 47 7 29 := ⟨RX7, TX7, 33, rfl, by decide, k_in7, k_mem 1004 (by decide +kernel) (by decide +kernel)⟩
theorem fl_X7_50 : k_FL RX7 50 7 30 := ⟨RX7, TX7, 33, rfl, by decide, k_in7, k_mem 1005 (by decide +kernel) (by decide +kernel)⟩
theorem fl_X7_53 : k_FL RX7 53 7 31 := ⟨RX7, TX7, 33, rfl, by decide, k_in7, k_mem 1006 (by decide +kernel) (by decide +kernel)⟩
theorem fl_X7_62 : k_FL RX7 62 7 10 := ⟨RX7, TX7, 33, rfl, by decide, k_in7, k_mem 985 (by decide +kernel) (by decide +kernel)⟩
theorem fl_X7_66 : k_FL RX7 66 7 12 := ⟨RX7, TX7, 33, rfl, by decide, k_in7, k_mem 987 (by decide +kernel) (by decide +kernel)⟩
theorem fl_X7_69 : k_FL RX7 69 7 15 := ⟨RX7, TX7, 33, rfl, by decide, k_in7, k_mem 990 (by decide +kernel) (by decide +kernel)⟩
theorem fl_X7_72 : k_FL RX7 72 7 13 := ⟨RX7, TX7, 33, rfl, by decide, k_in7, k_mem 988 (by decide +kernel) (by decide +kernel)⟩
theorem fl_X7_75 : k_FL RX7 75 7 16 := ⟨RX7, TX7, 33, rfl, by decide, k_in7, k_mem 991 (by decide +kernel) (by decide +kernel)⟩
theorem fl_X7_78 : k_FL RX7 78 7 14 := ⟨RX7, TX7, 33, rfl, by decide, k_in7, k_mem 989 (by decide +kernel) (by decide +kernel)⟩
theorem fl_X7_85 : k_FL RX7 85 7 17 := ⟨RX7, TX7, 33, rfl, by decide, k_in7, k_mem 992 (by decide +kernel) (by decide +kernel)⟩
theorem fl_X7_107 : k_FL RX7 107 7 8 := ⟨RX7, TX7, 33, rfl, by decide, k_in7, k_mem 983 (by decide +kernel) (by decide +kernel)⟩
theorem fl_X7_114 : k_FL RX7 114 7 4 := ⟨RX7, TX7, 33, rfl, by decide, k_in7, k_mem 979 (by decide +kernel) (by decide +kernel)⟩
theorem fl_X7_117 : k_FL RX7 117 7 5 := ⟨RX7, TX7, 33, rfl, by decide, k_in7, k_mem 980 (by decide +kernel) (by decide +kernel)⟩
theorem fl_X7_123 : k_FL RX7 123 7 6 := ⟨RX7, TX7, 33, rfl, by decide, k_in7, k_mem 981 (by decide +kernel) (by decide +kernel)⟩
theorem fl_X7_129 : k_FL RX7 129 7 7 := ⟨RX7, TX7, 33, rfl, by decide, k_in7, k_mem 982 (by decide +kernel) (by decide +kernel)⟩
theorem fl_X7_144 : k_FL RX7 144 7 11 := ⟨RX7, TX7, 33, rfl, by decide, k_in7, k_mem 986 (by decide +kernel) (by decide +kernel)⟩
theorem fl_X7_147 : k_FL RX7 147 7 1 := ⟨RX7, TX7, 33, rfl, by decide, k_in7, k_mem 976 (by decide +kernel) (by decide +kernel)⟩
theorem fl_X7_150 : k_FL RX7 150 7 2 := ⟨RX7, TX7, 33, rfl, by decide, k_in7, k_mem 977 (by decide +kernel) (by decide +kernel)⟩
theorem fl_X7_153 : k_FL RX7 153 7 25 := ⟨RX7, TX7, 33, rfl, by decide, k_in7, k_mem 1000 (by decide +kernel) (by decide +kernel)⟩
theorem fl_X7_275 : k_FL RX7 275 7 27 := ⟨RX7, TX7, 33, rfl, by decide, k_in7, k_mem 1002 (by decide +kernel) (by decide +kernel)⟩
theorem fl_X7_284 : k_FL RX7 284 7 32 := ⟨RX7, TX7, 33, rfl, by decide, k_in7, k_mem 1007 (by decide +kernel) (by decide +kernel)⟩
theorem fp_X0_42 : k_FP RX0 42 0 8 := ⟨RX0, TX0, 9, tyX0, rfl, by decide, k_in0, k_mem 237 (by decide +kernel) (by decide +kernel), tyX0_ok, nmX0, rfl, by decide +kernel⟩
theorem fp_X1_25 : k_FP RX1 25 1 2 := ⟨RX1, TX1, 6, tyX1, rfl, by decide, k_in1, k_mem 201 (by decide +kernel) (by decide +kernel), tyX1_ok, nmX1, rfl, by decide +kernel⟩
theorem fp_X1_29 : k_FP RX1 29 1 3 := ⟨RX1, TX1, 6, tyX1, rfl, by decide, k_in1, k_mem 203 (by decide +kernel) (by decide +kernel), tyX1_ok, nmX1, rfl, by decide +kernel⟩
theorem fp_X1_32 : k_FP RX1 32 1 4 := ⟨RX1, TX1, 6, tyX1, rfl, by decide, k_in1, k_mem 205 (by decide +kernel) (by decide +kernel), tyX1_ok, nmX1, rfl, by decide +kernel⟩
theorem fp_X1_35 : k_FP RX1 35 1 5 := ⟨RX1, TX1, 6, tyX1, rfl, by decide, k_in1, k_mem 207 (by decide +kernel) (by decide +kernel), tyX1_ok, nmX1, rfl, by decide +kernel⟩
theorem fp_X2_15 : k_FP RX2 15 2 1 := ⟨RX2, TX2, 3, tyX2, rfl, by decide, k_in2, k_mem 287 (by decide +kernel) (by decide +kernel), tyX2_ok, nmX2, rfl, by decide +kernel⟩
theorem fp_X2_19 : k_FP RX2 19 2 2 := ⟨RX2, TX2, 3, tyX2, rfl, by decide, k_in2, k_mem 289 (by decide +kernel) (by decide +kernel), tyX2_ok, nmX2, rfl, by decide +kernel⟩
theorem fp_X3_19 : k_FP RX3 19 3 3 := ⟨RX3, TX3, 4, tyX3, rfl, by decide, k_in3, k_mem 267 (by decide +kernel) (by decide +kernel), tyX3_ok, nmX3, rfl, by decide +kernel⟩
theorem fp_X4_15 : k_FP RX4 15 4 1 := ⟨RX4, TX4, 6, tyX4, rfl, by decide, k_in4, k_mem 166 (by decide +kernel) (by decide +kernel), tyX4_ok, nmX4, rfl, by decide +kernel⟩
theorem fp_X4_19 : k_FP RX4 19 4 2 := ⟨RX4, TX4, 6, tyX4, rfl, by decide, k_in4, k_mem 170 (by decide +kernel) (by decide +kernel), tyX4_ok, nmX4, rfl, by decide +kernel⟩
theorem fp_X4_22 : k_FP RX4 22 4 3 := ⟨RX4, TX4, 6, tyX4, rfl, by decide, k_in4, k_mem 171 (by decide +kernel) (by decide +kernel), tyX4_ok, nmX4, rfl, by decide +kernel⟩
theorem fp_X4_25 : k_FP RX4 25 4 4 := ⟨RX4, TX4, 6, tyX4, rfl, by decide, k_in4, k_mem 173 (by decide +kernel) (by decide +kernel), tyX4_ok, nmX4, rfl, by decide +kernel⟩
theorem fp_X4_35 : k_FP RX4 35 4 5 := ⟨RX4, TX4, 6, tyX4, rfl, by decide, k_in4, k_mem 174 (by decide +kernel) (by decide +kernel), tyX4_ok, nmX4, rfl, by decide +kernel⟩
theorem fp_X5_36 : k_FP RX5 36 5 7 := ⟨RX5, TX5, 11, tyX5, rfl, by decide, k_in5, k_mem 124 (by decide +kernel) (by decide +kernel), tyX5_ok, nmX5, rfl, by decide +kernel⟩
theorem fp_X5_40 : k_FP RX5 40 5 8 := ⟨RX5, TX5, 11, tyX5, rfl, by decide, k_in5, k_mem 127 (by decide +kernel) (by decide +kernel), tyX5_ok, nmX5, rfl, by decide +kernel⟩
theorem fp_X5_43 : k_FP RX5 43 5 9 := ⟨RX5, TX5, 11, tyX5, rfl, by decide, k_in5, k_mem 130 (by decide +kernel) (by decide +kernel), tyX5_ok, nmX5, rfl, by decide +kernel⟩
theorem fp_X5_46 : k_FP RX5 46 5 10 := ⟨RX5, TX5, 11, tyX5, rfl, by decide, k_in5, k_mem 133 (by decide +kernel) (by decide +kernel), tyX5_ok, nmX5, rfl, by decide +kernel⟩
theorem fp_X6_70 : k_FP RX6 70 4 1 := ⟨RX4, TX4, 6, tyX4, rfl, by decide, k_in4, k_mem 167 (by decide +kernel) (by decide +kernel), tyX4_ok, nmX4, rfl, by decide +kernel⟩
theorem fp_X6_90 : k_FP RX6 90 3 3 := ⟨RX3, TX3, 4, tyX3, rfl, by decide, k_in3, k_mem 268 (by decide +kernel) (by decide +kernel), tyX3_ok, nmX3, rfl, by decide +kernel⟩
theorem fp_X6_91 : k_FP RX6 91 6 4 := ⟨RX6, TX6, 12, tyX6, rfl, by decide, k_in6, k_mem 302 (by decide +kernel) (by decide +kernel), tyX6_ok, nmX6, rfl, by decide +kernel⟩
theorem fp_X6_325 : k_FP RX6 325 6 11 := ⟨RX6, TX6, 12, tyX6, rfl, by decide, k_in6, k_mem 309 (by decide +kernel) (by decide +kernel), tyX6_ok, nmX6, rfl, by decide +kernel⟩
theorem fp_X7_62 : k_FP RX7 62 7 10 := ⟨RX7, TX7, 33, tyX7, rfl, by decide, k_in7, k_mem 985 (by decide +kernel) (by decide +kernel), tyX7_ok, nmX7, rfl, by decide +kernel⟩
theorem fp_X7_66 : k_FP RX7 66 7 12 := ⟨RX7, TX7, 33, tyX7, rfl, by decide, k_in7, k_mem 987 (by decide +kernel) (by decide +kernel), tyX7_ok, nmX7, rfl, by decide +kernel⟩
theorem fp_X7_69 : k_FP RX7 69 7 15 := ⟨RX7, TX7, 33, tyX7, rfl, by decide, k_in7, k_mem 990 (by decide +kernel) (by decide +kernel), tyX7_ok, nmX7, rfl, by decide +kernel⟩
theorem fp_X7_72 : k_FP RX7 72 7 13 := ⟨RX7, TX7, 33, tyX7, rfl, by decide, k_in7, k_mem 988 (by decide +kernel) (by decide +kernel), tyX7_ok, nmX7, rfl, by decide +kernel⟩
theorem fp_X7_75 : k_FP RX7 75 7 16 := ⟨RX7, TX7, 33, tyX7, rfl, by decide, k_in7, k_mem 991 (by decide +kernel) (by decide +kernel), tyX7_ok, nmX7, rfl, by decide +kernel⟩
theorem fp_X7_78 : k_FP RX7 78 7 14 := ⟨RX7, TX7, 33, tyX7, rfl, by decide, k_in7, k_mem 989 (by decide +kernel) (by decide +kernel), tyX7_ok, nmX7, rfl, by decide +kernel⟩
theorem fp_X7_85 : k_FP RX7 85 7 17 := ⟨RX7, TX7, 33, tyX7, rfl, by decide, k_in7, k_mem 992 (by decide +kernel) (by decide +kernel), tyX7_ok, nmX7, rfl, by decide +kernel⟩
theorem fp_X7_107 : k_FP RX7 107 7 8 := ⟨RX7, TX7, 33, tyX7, rfl, by decide, k_in7, k_mem 983 (by decide +kernel) (by decide +kernel), tyX7_ok, nmX7, rfl, by decide +kernel⟩
theorem fp_X7_114 : k_FP RX7 114 7 4 := ⟨RX7, TX7, 33, tyX7, rfl, by decide, k_in7, k_mem 979 (by decide +kernel) (by decide +kernel), tyX7_ok, nmX7, rfl, by decide +kernel⟩
theorem fp_X7_117 : k_FP RX7 117 7 5 := ⟨RX7, TX7, 33, tyX7, rfl, by decide, k_in7, k_mem 980 (by decide +kernel) (by decide +kernel), tyX7_ok, nmX7, rfl, by decide +kernel⟩
theorem fp_X7_123 : k_FP RX7 123 7 6 := ⟨RX7, TX7, 33, tyX7, rfl, by decide, k_in7, k_mem 981 (by decide +kernel) (by decide +kernel), tyX7_ok, nmX7, rfl, by decide +kernel⟩
theorem fp_X7_129 : k_FP RX7 129 7 7 := ⟨RX7, TX7, 33, tyX7, rfl, by decide, k_in7, k_mem 982 (by decide +kernel) (by decide +kernel), tyX7_ok, nmX7, rfl, by decide +kernel⟩
theorem fp_X7_144 : k_FP RX7 144 7 11 := ⟨RX7, TX7, 33, tyX7, rfl, by decide, k_in7, k_mem 986 (by decide +kernel) (by decide +kernel), tyX7_ok, nmX7, rfl, by decide +kernel⟩
theorem fp_X7_147 : k_FP RX7 147 7 1 := ⟨RX7, TX7, 33, tyX7, rfl, by decide, k_in7, k_mem 976 (by decide +kernel) (by decide +kernel), tyX7_ok, nmX7, rfl, by decide +kernel⟩
theorem fp_X7_150 : k_FP RX7 150 7 2 := ⟨RX7, TX7, 33, tyX7, rfl, by decide, k_in7, k_mem 977 (by decide +kernel) (by decide +kernel), tyX7_ok, nmX7, rfl, by decide +kernel⟩
theorem fp_X7_153 : k_FP RX7 153 7 25 := ⟨RX7, TX7, 33, tyX7, rfl, by decide, k_in7, k_mem 1000 (by decide +kernel) (by decide +kernel), tyX7_ok, nmX7, rfl, by decide +kernel⟩
theorem fp_X7_275 : k_FP RX7 275 7 27 := ⟨RX7, TX7, 33, tyX7, rfl, by decide, k_in7, k_mem 1002 (by decide +kernel) (by decide +kernel), tyX7_ok, nmX7, rfl, by decide +kernel⟩
theorem fp_X7_284 : k_FP RX7 284 7 32 := ⟨RX7, TX7, 33, tyX7, rfl, by decide, k_in7, k_mem 1007 (by decide +kernel) (by decide +kernel), tyX7_ok, nmX7, rfl, by decide +kernel⟩
theorem ml_J0_335 : Cond.methodLink RJ0 335 yJ0_coder_7d493 ∈ k_tbl := k_mem 397 (by decide +kernel) (by decide +kernel)
theorem ml_J0_492 : Cond.methodLink RJ0 492 yJ0_isLatin1_aae02 ∈ k_tbl := k_mem 407 (by decide +kernel) (by decide +kernel)
theorem ml_J0_495 : Cond.methodLink RJ0 495 yJ1_charAt_3b067 ∈ k_tbl := k_mem 411 (by decide +kernel) (by decide +kernel)
theorem ml_J0_1059 : Cond.methodLink RJ0 1059 yJ3_checkIndex_8e157 ∈ k_tbl := k_mem 419 (by decide +kernel) (by decide +kernel)
theorem ml_J1_9 : Cond.methodLink RJ1 9 yJ0_checkIndex_df160 ∈ k_tbl := k_mem 414 (by decide +kernel) (by decide +kernel)
theorem ml_L_13 : Cond.methodLink RL 13 yX6_feed ∈ k_tbl := k_mem 335 (by decide +kernel) (by decide +kernel)
theorem ml_L_17 : Cond.methodLink RL 17 yX7_feed ∈ k_tbl := k_mem 1076 (by decide +kernel) (by decide +kernel)
theorem ml_L_18 : Cond.methodLink RL 18 yX6_end ∈ k_tbl := k_mem 343 (by decide +kernel) (by decide +kernel)
theorem ml_L_21 : Cond.methodLink RL 21 yX7_end ∈ k_tbl := k_mem 1084 (by decide +kernel) (by decide +kernel)
theorem ml_L_22 : Cond.methodLink RL 22 yX6_text ∈ k_tbl := k_mem 347 (by decide +kernel) (by decide +kernel)
theorem ml_L_26 : Cond.methodLink RL 26 yX7_text ∈ k_tbl := k_mem 1088 (by decide +kernel) (by decide +kernel)
theorem ml_L_27 : Cond.methodLink RL 27 yX6_fault ∈ k_tbl := k_mem 534 (by decide +kernel) (by decide +kernel)
theorem ml_L_30 : Cond.methodLink RL 30 yX7_fault ∈ k_tbl := k_mem 1136 (by decide +kernel) (by decide +kernel)
theorem ml_L_31 : Cond.methodLink RL 31 yX6_rule ∈ k_tbl := k_mem 538 (by decide +kernel) (by decide +kernel)
theorem ml_L_34 : Cond.methodLink RL 34 yX7_rule ∈ k_tbl := k_mem 1140 (by decide +kernel) (by decide +kernel)
theorem ml_L_35 : Cond.methodLink RL 35 yX6_hand ∈ k_tbl := k_mem 543 (by decide +kernel) (by decide +kernel)
theorem ml_L_39 : Cond.methodLink RL 39 yX7_hand ∈ k_tbl := k_mem 1152 (by decide +kernel) (by decide +kernel)
theorem ml_L_40 : Cond.methodLink RL 40 yX6_page ∈ k_tbl := k_mem 554 (by decide +kernel) (by decide +kernel)
theorem ml_L_43 : Cond.methodLink RL 43 yX7_page ∈ k_tbl := k_mem 1173 (by decide +kernel) (by decide +kernel)
theorem ml_L_44 : Cond.methodLink RL 44 yX6_likes ∈ k_tbl := k_mem 574 (by decide +kernel) (by decide +kernel)
theorem ml_L_47 : Cond.methodLink RL 47 yX7_likes ∈ k_tbl := k_mem 1190 (by decide +kernel) (by decide +kernel)
theorem ml_L_48 : Cond.methodLink RL 48 yX6_rather ∈ k_tbl := k_mem 605 (by decide +kernel) (by decide +kernel)
theorem ml_L_51 : Cond.methodLink RL 51 yX7_rather ∈ k_tbl := k_mem 1201 (by decide +kernel) (by decide +kernel)
theorem ml_L_52 : Cond.methodLink RL 52 yX6_alter ∈ k_tbl := k_mem 621 (by decide +kernel) (by decide +kernel)
theorem ml_L_56 : Cond.methodLink RL 56 yX7_alter ∈ k_tbl := k_mem 1213 (by decide +kernel) (by decide +kernel)
theorem ml_L_57 : Cond.methodLink RL 57 yX6_run ∈ k_tbl := k_mem 631 (by decide +kernel) (by decide +kernel)
theorem ml_L_61 : Cond.methodLink RL 61 yX7_run ∈ k_tbl := k_mem 1227 (by decide +kernel) (by decide +kernel)
theorem ml_L_62 : Cond.methodLink RL 62 yX6_fold ∈ k_tbl := k_mem 637 (by decide +kernel) (by decide +kernel)
theorem ml_L_66 : Cond.methodLink RL 66 yX7_fold ∈ k_tbl := k_mem 1231 (by decide +kernel) (by decide +kernel)
theorem ml_L_67 : Cond.methodLink RL 67 yX6_wed ∈ k_tbl := k_mem 651 (by decide +kernel) (by decide +kernel)
theorem ml_L_70 : Cond.methodLink RL 70 yX7_wed ∈ k_tbl := k_mem 1239 (by decide +kernel) (by decide +kernel)
theorem ml_L_71 : Cond.methodLink RL 71 yX6_part ∈ k_tbl := k_mem 668 (by decide +kernel) (by decide +kernel)
theorem ml_L_74 : Cond.methodLink RL 74 yX7_part ∈ k_tbl := k_mem 1246 (by decide +kernel) (by decide +kernel)
theorem ml_L_75 : Cond.methodLink RL 75 yX6_asked ∈ k_tbl := k_mem 676 (by decide +kernel) (by decide +kernel)
theorem ml_L_78 : Cond.methodLink RL 78 yX7_asked ∈ k_tbl := k_mem 1250 (by decide +kernel) (by decide +kernel)
theorem ml_L_79 : Cond.methodLink RL 79 yX6_sum ∈ k_tbl := k_mem 701 (by decide +kernel) (by decide +kernel)
theorem ml_L_82 : Cond.methodLink RL 82 yX7_sum ∈ k_tbl := k_mem 1266 (by decide +kernel) (by decide +kernel)
theorem ml_L_83 : Cond.methodLink RL 83 yX6_hold ∈ k_tbl := k_mem 719 (by decide +kernel) (by decide +kernel)
theorem ml_L_86 : Cond.methodLink RL 86 yX7_hold ∈ k_tbl := k_mem 1278 (by decide +kernel) (by decide +kernel)
theorem ml_L_87 : Cond.methodLink RL 87 yX6_most ∈ k_tbl := k_mem 744 (by decide +kernel) (by decide +kernel)
theorem ml_L_90 : Cond.methodLink RL 90 yX7_most ∈ k_tbl := k_mem 1294 (by decide +kernel) (by decide +kernel)
theorem ml_L_91 : Cond.methodLink RL 91 yX6_quarrel ∈ k_tbl := k_mem 754 (by decide +kernel) (by decide +kernel)
theorem ml_L_94 : Cond.methodLink RL 94 yX7_quarrel ∈ k_tbl := k_mem 1299 (by decide +kernel) (by decide +kernel)
theorem ml_L_95 : Cond.methodLink RL 95 yX6_alone ∈ k_tbl := k_mem 770 (by decide +kernel) (by decide +kernel)
theorem ml_L_98 : Cond.methodLink RL 98 yX7_alone ∈ k_tbl := k_mem 1303 (by decide +kernel) (by decide +kernel)
theorem ml_L_99 : Cond.methodLink RL 99 yX6_years ∈ k_tbl := k_mem 775 (by decide +kernel) (by decide +kernel)
theorem ml_L_102 : Cond.methodLink RL 102 yX7_years ∈ k_tbl := k_mem 1307 (by decide +kernel) (by decide +kernel)
theorem ml_L_103 : Cond.methodLink RL 103 yX6_alike ∈ k_tbl := k_mem 786 (by decide +kernel) (by decide +kernel)
theorem ml_L_106 : Cond.methodLink RL 106 yX7_alike ∈ k_tbl := k_mem 1320 (by decide +kernel) (by decide +kernel)
theorem ml_L_107 : Cond.methodLink RL 107 yX6_near ∈ k_tbl := k_mem 799 (by decide +kernel) (by decide +kernel)
theorem ml_L_110 : Cond.methodLink RL 110 yX7_near ∈ k_tbl := k_mem 1332 (by decide +kernel) (by decide +kernel)
theorem ml_L_111 : Cond.methodLink RL 111 yX6_forge ∈ k_tbl := k_mem 804 (by decide +kernel) (by decide +kernel)
theorem ml_L_114 : Cond.methodLink RL 114 yX7_forge ∈ k_tbl := k_mem 1337 (by decide +kernel) (by decide +kernel)
theorem ml_L_115 : Cond.methodLink RL 115 yX6_swap ∈ k_tbl := k_mem 808 (by decide +kernel) (by decide +kernel)
theorem ml_L_118 : Cond.methodLink RL 118 yX7_swap ∈ k_tbl := k_mem 1341 (by decide +kernel) (by decide +kernel)
theorem ml_L_119 : Cond.methodLink RL 119 yX6_mean ∈ k_tbl := k_mem 820 (by decide +kernel) (by decide +kernel)
theorem ml_L_123 : Cond.methodLink RL 123 yX7_mean ∈ k_tbl := k_mem 1345 (by decide +kernel) (by decide +kernel)
theorem ml_L_124 : Cond.methodLink RL 124 yX6_luck ∈ k_tbl := k_mem 844 (by decide +kernel) (by decide +kernel)
theorem ml_L_128 : Cond.methodLink RL 128 yX7_luck ∈ k_tbl := k_mem 1357 (by decide +kernel) (by decide +kernel)
theorem ml_L_129 : Cond.methodLink RL 129 yX6_see ∈ k_tbl := k_mem 848 (by decide +kernel) (by decide +kernel)
theorem ml_L_132 : Cond.methodLink RL 132 yX7_see ∈ k_tbl := k_mem 1361 (by decide +kernel) (by decide +kernel)
theorem ml_L_133 : Cond.methodLink RL 133 yX6_forget ∈ k_tbl := k_mem 856 (by decide +kernel) (by decide +kernel)
theorem ml_L_136 : Cond.methodLink RL 136 yX7_forget ∈ k_tbl := k_mem 1365 (by decide +kernel) (by decide +kernel)
theorem ml_L_137 : Cond.methodLink RL 137 yX6_fits ∈ k_tbl := k_mem 860 (by decide +kernel) (by decide +kernel)
theorem ml_L_140 : Cond.methodLink RL 140 yX7_fits ∈ k_tbl := k_mem 1369 (by decide +kernel) (by decide +kernel)
theorem ml_L_141 : Cond.methodLink RL 141 yX6_look ∈ k_tbl := k_mem 873 (by decide +kernel) (by decide +kernel)
theorem ml_L_144 : Cond.methodLink RL 144 yX7_look ∈ k_tbl := k_mem 1377 (by decide +kernel) (by decide +kernel)
theorem ml_L_145 : Cond.methodLink RL 145 yX6_drift ∈ k_tbl := k_mem 885 (by decide +kernel) (by decide +kernel)
theorem ml_L_148 : Cond.methodLink RL 148 yX7_drift ∈ k_tbl := k_mem 1381 (by decide +kernel) (by decide +kernel)
theorem ml_L_149 : Cond.methodLink RL 149 yX6_keep ∈ k_tbl := k_mem 900 (by decide +kernel) (by decide +kernel)
theorem ml_L_152 : Cond.methodLink RL 152 yX7_keep ∈ k_tbl := k_mem 1391 (by decide +kernel) (by decide +kernel)
theorem ml_L_153 : Cond.methodLink RL 153 yX6_back ∈ k_tbl := k_mem 912 (by decide +kernel) (by decide +kernel)
theorem ml_L_156 : Cond.methodLink RL 156 yX7_back ∈ k_tbl := k_mem 1395 (by decide +kernel) (by decide +kernel)
theorem ml_L_157 : Cond.methodLink RL 157 yX6_sheet ∈ k_tbl := k_mem 916 (by decide +kernel) (by decide +kernel)
theorem ml_L_160 : Cond.methodLink RL 160 yX7_sheet ∈ k_tbl := k_mem 1399 (by decide +kernel) (by decide +kernel)
theorem ml_L_161 : Cond.methodLink RL 161 yX6_lay ∈ k_tbl := k_mem 931 (by decide +kernel) (by decide +kernel)
theorem ml_L_164 : Cond.methodLink RL 164 yX7_lay ∈ k_tbl := k_mem 1403 (by decide +kernel) (by decide +kernel)
theorem ml_L_165 : Cond.methodLink RL 165 yX6_read ∈ k_tbl := k_mem 947 (by decide +kernel) (by decide +kernel)
theorem ml_L_169 : Cond.methodLink RL 169 yX7_read ∈ k_tbl := k_mem 1407 (by decide +kernel) (by decide +kernel)
theorem ml_L_170 : Cond.methodLink RL 170 yX6_torn ∈ k_tbl := k_mem 956 (by decide +kernel) (by decide +kernel)
theorem ml_L_173 : Cond.methodLink RL 173 yX7_torn ∈ k_tbl := k_mem 1411 (by decide +kernel) (by decide +kernel)
theorem ml_L_174 : Cond.methodLink RL 174 yX6_count ∈ k_tbl := k_mem 960 (by decide +kernel) (by decide +kernel)
theorem ml_L_177 : Cond.methodLink RL 177 yX7_count ∈ k_tbl := k_mem 1415 (by decide +kernel) (by decide +kernel)
theorem ml_X0_36 : Cond.methodLink RX0 36 yX5_handBits ∈ k_tbl := k_mem 583 (by decide +kernel) (by decide +kernel)
theorem ml_X0_46 : Cond.methodLink RX0 46 yJ7_fill_53178 ∈ k_tbl := k_mem 584 (by decide +kernel) (by decide +kernel)
theorem ml_X0_52 : Cond.methodLink RX0 52 yX5_isHand ∈ k_tbl := k_mem 587 (by decide +kernel) (by decide +kernel)
theorem ml_X0_56 : Cond.methodLink RX0 56 yX5_shows ∈ k_tbl := k_mem 588 (by decide +kernel) (by decide +kernel)
theorem ml_X0_66 : Cond.methodLink RX0 66 yX0_weighOne ∈ k_tbl := k_mem 589 (by decide +kernel) (by decide +kernel)
theorem ml_X0_70 : Cond.methodLink RX0 70 yX0_likingIn ∈ k_tbl := k_mem 593 (by decide +kernel) (by decide +kernel)
theorem ml_X0_74 : Cond.methodLink RX0 74 yX5_areFolded ∈ k_tbl := k_mem 600 (by decide +kernel) (by decide +kernel)
theorem ml_X0_84 : Cond.methodLink RX0 84 Lib.Math.abs.name ∈ k_tbl := k_mem 597 (by decide +kernel) (by decide +kernel)
theorem ml_X0_96 : Cond.methodLink RX0 96 yX0_wishFor ∈ k_tbl := k_mem 613 (by decide +kernel) (by decide +kernel)
theorem ml_X0_99 : Cond.methodLink RX0 99 yX0_countAbove ∈ k_tbl := k_mem 617 (by decide +kernel) (by decide +kernel)
theorem ml_X0_102 : Cond.methodLink RX0 102 yX0_weigh ∈ k_tbl := k_mem 684 (by decide +kernel) (by decide +kernel)
theorem ml_X0_106 : Cond.methodLink RX0 106 yX0_ask ∈ k_tbl := k_mem 685 (by decide +kernel) (by decide +kernel)
theorem ml_X0_110 : Cond.methodLink RX0 110 yX0_firstAsks ∈ k_tbl := k_mem 689 (by decide +kernel) (by decide +kernel)
theorem ml_X0_113 : Cond.methodLink RX0 113 yX0_dearest ∈ k_tbl := k_mem 693 (by decide +kernel) (by decide +kernel)
theorem ml_X0_116 : Cond.methodLink RX0 116 yX0_answer ∈ k_tbl := k_mem 697 (by decide +kernel) (by decide +kernel)
theorem ml_X0_119 : Cond.methodLink RX0 119 yX0_matedBits ∈ k_tbl := k_mem 709 (by decide +kernel) (by decide +kernel)
theorem ml_X0_122 : Cond.methodLink RX0 122 yJ6_bitCount_0f7a4 ∈ k_tbl := k_mem 713 (by decide +kernel) (by decide +kernel)
theorem ml_X0_127 : Cond.methodLink RX0 127 yX0_liking ∈ k_tbl := k_mem 718 (by decide +kernel) (by decide +kernel)
theorem ml_X0_130 : Cond.methodLink RX0 130 Lib.Math.min.name ∈ k_tbl := k_mem 762 (by decide +kernel) (by decide +kernel)
theorem ml_X0_133 : Cond.methodLink RX0 133 arraycopyName ∈ k_tbl := k_mem 753 (by decide +kernel) (by decide +kernel)
theorem ml_X0_139 : Cond.methodLink RX0 139 yX0_quarrelOver ∈ k_tbl := k_mem 735 (by decide +kernel) (by decide +kernel)
theorem ml_X0_142 : Cond.methodLink RX0 142 yX0_countHoldingWith ∈ k_tbl := k_mem 727 (by decide +kernel) (by decide +kernel)
theorem ml_X0_145 : Cond.methodLink RX0 145 yX0_firstQuarrel ∈ k_tbl := k_mem 731 (by decide +kernel) (by decide +kernel)
theorem ml_X0_148 : Cond.methodLink RX0 148 yX0_toNextPairs ∈ k_tbl := k_mem 739 (by decide +kernel) (by decide +kernel)
theorem ml_X0_152 : Cond.methodLink RX0 152 yX0_allLikes ∈ k_tbl := k_mem 752 (by decide +kernel) (by decide +kernel)
theorem ml_X1_22 : Cond.methodLink RX1 22 yX5_clear ∈ k_tbl := k_mem 355 (by decide +kernel) (by decide +kernel)
theorem ml_X1_38 : Cond.methodLink RX1 38 yX4_rewind ∈ k_tbl := k_mem 356 (by decide +kernel) (by decide +kernel)
theorem ml_X1_43 : Cond.methodLink RX1 43 yX4_advance ∈ k_tbl := k_mem 360 (by decide +kernel) (by decide +kernel)
theorem ml_X1_49 : Cond.methodLink RX1 49 yX1_line ∈ k_tbl := k_mem 372 (by decide +kernel) (by decide +kernel)
theorem ml_X1_53 : Cond.methodLink RX1 53 yX1_namedBits ∈ k_tbl := k_mem 514 (by decide +kernel) (by decide +kernel)
theorem ml_X1_57 : Cond.methodLink RX1 57 yX5_handBits ∈ k_tbl := k_mem 523 (by decide +kernel) (by decide +kernel)
theorem ml_X1_63 : Cond.methodLink RX1 63 yX1_stands ∈ k_tbl := k_mem 376 (by decide +kernel) (by decide +kernel)
theorem ml_X1_67 : Cond.methodLink RX1 67 yX1_kindNamed ∈ k_tbl := k_mem 384 (by decide +kernel) (by decide +kernel)
theorem ml_X1_70 : Cond.methodLink RX1 70 yX1_handLine ∈ k_tbl := k_mem 444 (by decide +kernel) (by decide +kernel)
theorem ml_X1_75 : Cond.methodLink RX1 75 yX4_spells ∈ k_tbl := k_mem 389 (by decide +kernel) (by decide +kernel)
theorem ml_X1_79 : Cond.methodLink RX1 79 yX1_penLine ∈ k_tbl := k_mem 468 (by decide +kernel) (by decide +kernel)
theorem ml_X1_84 : Cond.methodLink RX1 84 yX1_runLine ∈ k_tbl := k_mem 473 (by decide +kernel) (by decide +kernel)
theorem ml_X1_89 : Cond.methodLink RX1 89 yX1_foldLine ∈ k_tbl := k_mem 489 (by decide +kernel) (by decide +kernel)
theorem ml_X1_94 : Cond.methodLink RX1 94 yX1_wedLine ∈ k_tbl := k_mem 502 (by decide +kernel) (by decide +kernel)
theorem ml_X1_97 : Cond.methodLink RX1 97 yX1_refuse ∈ k_tbl := k_mem 380 (by decide +kernel) (by decide +kernel)
theorem ml_X1_108 : Cond.methodLink RX1 108 yX1_follows ∈ k_tbl := k_mem 448 (by decide +kernel) (by decide +kernel)
theorem ml_X1_115 : Cond.methodLink RX1 115 yX5_isFull ∈ k_tbl := k_mem 454 (by decide +kernel) (by decide +kernel)
theorem ml_X1_118 : Cond.methodLink RX1 118 yX1_number ∈ k_tbl := k_mem 458 (by decide +kernel) (by decide +kernel)
theorem ml_X1_122 : Cond.methodLink RX1 122 yX5_add ∈ k_tbl := k_mem 462 (by decide +kernel) (by decide +kernel)
theorem ml_X1_129 : Cond.methodLink RX1 129 yX5_isRun ∈ k_tbl := k_mem 477 (by decide +kernel) (by decide +kernel)
theorem ml_X1_132 : Cond.methodLink RX1 132 yX5_setRun ∈ k_tbl := k_mem 481 (by decide +kernel) (by decide +kernel)
theorem ml_X1_136 : Cond.methodLink RX1 136 yX5_areFolded ∈ k_tbl := k_mem 493 (by decide +kernel) (by decide +kernel)
theorem ml_X1_140 : Cond.methodLink RX1 140 yX5_setFolded ∈ k_tbl := k_mem 497 (by decide +kernel) (by decide +kernel)
theorem ml_X1_144 : Cond.methodLink RX1 144 yX5_isWed ∈ k_tbl := k_mem 506 (by decide +kernel) (by decide +kernel)
theorem ml_X1_147 : Cond.methodLink RX1 147 yX5_join ∈ k_tbl := k_mem 510 (by decide +kernel) (by decide +kernel)
theorem ml_X1_154 : Cond.methodLink RX1 154 yX5_wedBits ∈ k_tbl := k_mem 518 (by decide +kernel) (by decide +kernel)
theorem ml_X2_22 : Cond.methodLink RX2 22 yJ7_fill_53178 ∈ k_tbl := k_mem 930 (by decide +kernel) (by decide +kernel)
theorem ml_X2_28 : Cond.methodLink RX2 28 yX2_isNothing ∈ k_tbl := k_mem 939 (by decide +kernel) (by decide +kernel)
theorem ml_X2_32 : Cond.methodLink RX2 32 yX2_faultAt ∈ k_tbl := k_mem 955 (by decide +kernel) (by decide +kernel)
theorem ml_X3_23 : Cond.methodLink RX3 23 yX5_shows ∈ k_tbl := k_mem 872 (by decide +kernel) (by decide +kernel)
theorem ml_X4_28 : Cond.methodLink RX4 28 yX4_runEnd ∈ k_tbl := k_mem 364 (by decide +kernel) (by decide +kernel)
theorem ml_X4_32 : Cond.methodLink RX4 32 yX4_takeNumber ∈ k_tbl := k_mem 368 (by decide +kernel) (by decide +kernel)
theorem ml_X4_38 : Cond.methodLink RX4 38 yJ0_length_8abf5 ∈ k_tbl := k_mem 393 (by decide +kernel) (by decide +kernel)
theorem ml_X4_44 : Cond.methodLink RX4 44 yJ0_charAt_5068e ∈ k_tbl := k_mem 403 (by decide +kernel) (by decide +kernel)
theorem ml_X5_49 : Cond.methodLink RX5 49 arraycopyName ∈ k_tbl := k_mem 531 (by decide +kernel) (by decide +kernel)
theorem ml_X5_55 : Cond.methodLink RX5 55 yX5_isFull ∈ k_tbl := k_mem 466 (by decide +kernel) (by decide +kernel)
theorem ml_X5_59 : Cond.methodLink RX5 59 yX5_withBit ∈ k_tbl := k_mem 485 (by decide +kernel) (by decide +kernel)
theorem ml_X5_63 : Cond.methodLink RX5 63 yX5_isWed ∈ k_tbl := k_mem 522 (by decide +kernel) (by decide +kernel)
theorem ml_X5_66 : Cond.methodLink RX5 66 yX5_wedBits ∈ k_tbl := k_mem 661 (by decide +kernel) (by decide +kernel)
theorem ml_X5_70 : Cond.methodLink RX5 70 yJ6_bitCount_0f7a4 ∈ k_tbl := k_mem 662 (by decide +kernel) (by decide +kernel)
theorem ml_X5_76 : Cond.methodLink RX5 76 yX5_runsWith ∈ k_tbl := k_mem 565 (by decide +kernel) (by decide +kernel)
theorem ml_X5_79 : Cond.methodLink RX5 79 yX5_isHand ∈ k_tbl := k_mem 569 (by decide +kernel) (by decide +kernel)
theorem ml_X5_82 : Cond.methodLink RX5 82 yX5_sameSide ∈ k_tbl := k_mem 570 (by decide +kernel) (by decide +kernel)
theorem ml_X5_86 : Cond.methodLink RX5 86 yX5_isRun ∈ k_tbl := k_mem 573 (by decide +kernel) (by decide +kernel)
theorem ml_X5_89 : Cond.methodLink RX5 89 Lib.Math.abs.name ∈ k_tbl := k_mem 798 (by decide +kernel) (by decide +kernel)
theorem ml_X5_94 : Cond.methodLink RX5 94 yX5_unlike ∈ k_tbl := k_mem 794 (by decide +kernel) (by decide +kernel)
theorem ml_X5_98 : Cond.methodLink RX5 98 yX5_comeNearer ∈ k_tbl := k_mem 783 (by decide +kernel) (by decide +kernel)
theorem ml_X6_66 : Cond.methodLink RX6 66 yX4_put ∈ k_tbl := k_mem 339 (by decide +kernel) (by decide +kernel)
theorem ml_X6_74 : Cond.methodLink RX6 74 yX1_parse ∈ k_tbl := k_mem 351 (by decide +kernel) (by decide +kernel)
theorem ml_X6_86 : Cond.methodLink RX6 86 yX5_become ∈ k_tbl := k_mem 527 (by decide +kernel) (by decide +kernel)
theorem ml_X6_106 : Cond.methodLink RX6 106 yX5_wedBits ∈ k_tbl := k_mem 542 (by decide +kernel) (by decide +kernel)
theorem ml_X6_113 : Cond.methodLink RX6 113 yX5_isHand ∈ k_tbl := k_mem 547 (by decide +kernel) (by decide +kernel)
theorem ml_X6_134 : Cond.methodLink RX6 134 yX6_orNone ∈ k_tbl := k_mem 551 (by decide +kernel) (by decide +kernel)
theorem ml_X6_141 : Cond.methodLink RX6 141 yX6_isTrait ∈ k_tbl := k_mem 558 (by decide +kernel) (by decide +kernel)
theorem ml_X6_144 : Cond.methodLink RX6 144 yX5_shows ∈ k_tbl := k_mem 561 (by decide +kernel) (by decide +kernel)
theorem ml_X6_148 : Cond.methodLink RX6 148 yX5_sameSide ∈ k_tbl := k_mem 578 (by decide +kernel) (by decide +kernel)
theorem ml_X6_152 : Cond.methodLink RX6 152 yX0_weigh ∈ k_tbl := k_mem 579 (by decide +kernel) (by decide +kernel)
theorem ml_X6_155 : Cond.methodLink RX6 155 yX0_liking ∈ k_tbl := k_mem 601 (by decide +kernel) (by decide +kernel)
theorem ml_X6_158 : Cond.methodLink RX6 158 yX0_choiceOf ∈ k_tbl := k_mem 609 (by decide +kernel) (by decide +kernel)
theorem ml_X6_161 : Cond.methodLink RX6 161 yX6_replace ∈ k_tbl := k_mem 625 (by decide +kernel) (by decide +kernel)
theorem ml_X6_165 : Cond.methodLink RX6 165 yX6_isStrokes ∈ k_tbl := k_mem 628 (by decide +kernel) (by decide +kernel)
theorem ml_X6_168 : Cond.methodLink RX6 168 yX5_isRun ∈ k_tbl := k_mem 635 (by decide +kernel) (by decide +kernel)
theorem ml_X6_171 : Cond.methodLink RX6 171 yX5_setRun ∈ k_tbl := k_mem 636 (by decide +kernel) (by decide +kernel)
theorem ml_X6_175 : Cond.methodLink RX6 175 yX5_isLeft ∈ k_tbl := k_mem 641 (by decide +kernel) (by decide +kernel)
theorem ml_X6_178 : Cond.methodLink RX6 178 yX5_isRight ∈ k_tbl := k_mem 645 (by decide +kernel) (by decide +kernel)
theorem ml_X6_181 : Cond.methodLink RX6 181 yX5_areFolded ∈ k_tbl := k_mem 649 (by decide +kernel) (by decide +kernel)
theorem ml_X6_184 : Cond.methodLink RX6 184 yX5_setFolded ∈ k_tbl := k_mem 650 (by decide +kernel) (by decide +kernel)
theorem ml_X6_188 : Cond.methodLink RX6 188 yX5_isWed ∈ k_tbl := k_mem 655 (by decide +kernel) (by decide +kernel)
theorem ml_X6_191 : Cond.methodLink RX6 191 yX5_join ∈ k_tbl := k_mem 656 (by decide +kernel) (by decide +kernel)
theorem ml_X6_195 : Cond.methodLink RX6 195 yX5_couples ∈ k_tbl := k_mem 657 (by decide +kernel) (by decide +kernel)
theorem ml_X6_198 : Cond.methodLink RX6 198 yX5_divorce ∈ k_tbl := k_mem 672 (by decide +kernel) (by decide +kernel)
theorem ml_X6_201 : Cond.methodLink RX6 201 yX0_court ∈ k_tbl := k_mem 680 (by decide +kernel) (by decide +kernel)
theorem ml_X6_208 : Cond.methodLink RX6 208 yX0_pairs ∈ k_tbl := k_mem 705 (by decide +kernel) (by decide +kernel)
theorem ml_X6_211 : Cond.methodLink RX6 211 yX0_allLikes ∈ k_tbl := k_mem 714 (by decide +kernel) (by decide +kernel)
theorem ml_X6_214 : Cond.methodLink RX6 214 yX0_countHolding ∈ k_tbl := k_mem 723 (by decide +kernel) (by decide +kernel)
theorem ml_X6_217 : Cond.methodLink RX6 217 yX0_countHoldingWith ∈ k_tbl := k_mem 743 (by decide +kernel) (by decide +kernel)
theorem ml_X6_220 : Cond.methodLink RX6 220 yX0_findMost ∈ k_tbl := k_mem 748 (by decide +kernel) (by decide +kernel)
theorem ml_X6_226 : Cond.methodLink RX6 226 yX0_setMates ∈ k_tbl := k_mem 758 (by decide +kernel) (by decide +kernel)
theorem ml_X6_230 : Cond.methodLink RX6 230 yX0_firstQuarrel ∈ k_tbl := k_mem 765 (by decide +kernel) (by decide +kernel)
theorem ml_X6_233 : Cond.methodLink RX6 233 yX0_quarrels ∈ k_tbl := k_mem 766 (by decide +kernel) (by decide +kernel)
theorem ml_X6_239 : Cond.methodLink RX6 239 yX0_matedBits ∈ k_tbl := k_mem 774 (by decide +kernel) (by decide +kernel)
theorem ml_X6_242 : Cond.methodLink RX6 242 yX5_passYear ∈ k_tbl := k_mem 779 (by decide +kernel) (by decide +kernel)
theorem ml_X6_245 : Cond.methodLink RX6 245 yX5_couplesAlike ∈ k_tbl := k_mem 790 (by decide +kernel) (by decide +kernel)
theorem ml_X6_249 : Cond.methodLink RX6 249 yX5_unlike ∈ k_tbl := k_mem 803 (by decide +kernel) (by decide +kernel)
theorem ml_X6_252 : Cond.methodLink RX6 252 yX6_likesIfSwapped ∈ k_tbl := k_mem 812 (by decide +kernel) (by decide +kernel)
theorem ml_X6_257 : Cond.methodLink RX6 257 yX6_stolenSum ∈ k_tbl := k_mem 825 (by decide +kernel) (by decide +kernel)
theorem ml_X6_261 : Cond.methodLink RX6 261 yX5_size ∈ k_tbl := k_mem 833 (by decide +kernel) (by decide +kernel)
theorem ml_X6_263 : Cond.methodLink RX6 263 yX6_power ∈ k_tbl := k_mem 830 (by decide +kernel) (by decide +kernel)
theorem ml_X6_266 : Cond.methodLink RX6 266 yX6_lowestTerms ∈ k_tbl := k_mem 838 (by decide +kernel) (by decide +kernel)
theorem ml_X6_270 : Cond.methodLink RX6 270 yX3_add ∈ k_tbl := k_mem 852 (by decide +kernel) (by decide +kernel)
theorem ml_X6_274 : Cond.methodLink RX6 274 yX6_fittingPens ∈ k_tbl := k_mem 864 (by decide +kernel) (by decide +kernel)
theorem ml_X6_277 : Cond.methodLink RX6 277 yJ6_bitCount_0f7a4 ∈ k_tbl := k_mem 829 (by decide +kernel) (by decide +kernel)
theorem ml_X6_282 : Cond.methodLink RX6 282 yX6_leftAtWorst ∈ k_tbl := k_mem 877 (by decide +kernel) (by decide +kernel)
theorem ml_X6_286 : Cond.methodLink RX6 286 yX6_nextSeed ∈ k_tbl := k_mem 889 (by decide +kernel) (by decide +kernel)
theorem ml_X6_289 : Cond.methodLink RX6 289 yX6_drawn ∈ k_tbl := k_mem 893 (by decide +kernel) (by decide +kernel)
theorem ml_X6_292 : Cond.methodLink RX6 292 yX5_byOrder ∈ k_tbl := k_mem 896 (by decide +kernel) (by decide +kernel)
theorem ml_X6_295 : Cond.methodLink RX6 295 yX6_hasImage ∈ k_tbl := k_mem 904 (by decide +kernel) (by decide +kernel)
theorem ml_X6_298 : Cond.methodLink RX6 298 yX6_imageOf ∈ k_tbl := k_mem 908 (by decide +kernel) (by decide +kernel)
theorem ml_X6_302 : Cond.methodLink RX6 302 yX6_isSheet ∈ k_tbl := k_mem 920 (by decide +kernel) (by decide +kernel)
theorem ml_X6_305 : Cond.methodLink RX6 305 yX6_isLane ∈ k_tbl := k_mem 923 (by decide +kernel) (by decide +kernel)
theorem ml_X6_308 : Cond.methodLink RX6 308 yX2_renew ∈ k_tbl := k_mem 926 (by decide +kernel) (by decide +kernel)
theorem ml_X6_314 : Cond.methodLink RX6 314 yX2_faultAt ∈ k_tbl := k_mem 935 (by decide +kernel) (by decide +kernel)
theorem ml_X6_317 : Cond.methodLink RX6 317 yX2_put ∈ k_tbl := k_mem 943 (by decide +kernel) (by decide +kernel)
theorem ml_X6_319 : Cond.methodLink RX6 319 yX2_faultAtTwo ∈ k_tbl := k_mem 951 (by decide +kernel) (by decide +kernel)
theorem ml_X6_328 : Cond.methodLink RX6 328 yX2_isNothing ∈ k_tbl := k_mem 964 (by decide +kernel) (by decide +kernel)
theorem ml_X6_332 : Cond.methodLink RX6 332 yX5_foldings ∈ k_tbl := k_mem 965 (by decide +kernel) (by decide +kernel)
theorem ml_X6_335 : Cond.methodLink RX6 335 yX5_swapPens ∈ k_tbl := k_mem 816 (by decide +kernel) (by decide +kernel)
theorem ml_X6_338 : Cond.methodLink RX6 338 yX0_ask ∈ k_tbl := k_mem 837 (by decide +kernel) (by decide +kernel)
theorem ml_X6_341 : Cond.methodLink RX6 341 yX6_commonDivisor ∈ k_tbl := k_mem 841 (by decide +kernel) (by decide +kernel)
theorem ml_X6_345 : Cond.methodLink RX6 345 yX3_agreeWith ∈ k_tbl := k_mem 868 (by decide +kernel) (by decide +kernel)
theorem ml_X6_349 : Cond.methodLink RX6 349 yJ7_fill_53178 ∈ k_tbl := k_mem 881 (by decide +kernel) (by decide +kernel)
theorem ml_X6_355 : Cond.methodLink RX6 355 Lib.Math.max.name ∈ k_tbl := k_mem 882 (by decide +kernel) (by decide +kernel)
theorem ml_X7_58 : Cond.methodLink RX7 58 yX7_in ∈ k_tbl := k_mem 1081 (by decide +kernel) (by decide +kernel)
theorem ml_X7_81 : Cond.methodLink RX7 81 yX7_byteAt ∈ k_tbl := k_mem 1096 (by decide +kernel) (by decide +kernel)
theorem ml_X7_96 : Cond.methodLink RX7 96 yX7_fails ∈ k_tbl := k_mem 1104 (by decide +kernel) (by decide +kernel)
theorem ml_X7_100 : Cond.methodLink RX7 100 yX7_step ∈ k_tbl := k_mem 1092 (by decide +kernel) (by decide +kernel)
theorem ml_X7_103 : Cond.methodLink RX7 103 yX7_other ∈ k_tbl := k_mem 1125 (by decide +kernel) (by decide +kernel)
theorem ml_X7_110 : Cond.methodLink RX7 110 yX7_nameHere ∈ k_tbl := k_mem 1112 (by decide +kernel) (by decide +kernel)
theorem ml_X7_120 : Cond.methodLink RX7 120 yX7_readHand ∈ k_tbl := k_mem 1121 (by decide +kernel) (by decide +kernel)
theorem ml_X7_126 : Cond.methodLink RX7 126 yX7_handHere ∈ k_tbl := k_mem 1129 (by decide +kernel) (by decide +kernel)
theorem ml_X7_134 : Cond.methodLink RX7 134 yX7_readMore ∈ k_tbl := k_mem 1117 (by decide +kernel) (by decide +kernel)
theorem ml_X7_137 : Cond.methodLink RX7 137 yX7_readLine ∈ k_tbl := k_mem 1108 (by decide +kernel) (by decide +kernel)
theorem ml_X7_140 : Cond.methodLink RX7 140 yX7_handsOf ∈ k_tbl := k_mem 1133 (by decide +kernel) (by decide +kernel)
theorem ml_X7_158 : Cond.methodLink RX7 158 yX7_isHand ∈ k_tbl := k_mem 1156 (by decide +kernel) (by decide +kernel)
theorem ml_X7_162 : Cond.methodLink RX7 162 yX7_wedTo ∈ k_tbl := k_mem 1148 (by decide +kernel) (by decide +kernel)
theorem ml_X7_165 : Cond.methodLink RX7 165 yX7_wedOnes ∈ k_tbl := k_mem 1144 (by decide +kernel) (by decide +kernel)
theorem ml_X7_168 : Cond.methodLink RX7 168 yX7_areFolded ∈ k_tbl := k_mem 1169 (by decide +kernel) (by decide +kernel)
theorem ml_X7_172 : Cond.methodLink RX7 172 yX7_penOf ∈ k_tbl := k_mem 1161 (by decide +kernel) (by decide +kernel)
theorem ml_X7_175 : Cond.methodLink RX7 175 yX7_foldedWith ∈ k_tbl := k_mem 1165 (by decide +kernel) (by decide +kernel)
theorem ml_X7_178 : Cond.methodLink RX7 178 yX7_isRun ∈ k_tbl := k_mem 1186 (by decide +kernel) (by decide +kernel)
theorem ml_X7_181 : Cond.methodLink RX7 181 yX7_runsWith ∈ k_tbl := k_mem 1182 (by decide +kernel) (by decide +kernel)
theorem ml_X7_186 : Cond.methodLink RX7 186 yX7_shows ∈ k_tbl := k_mem 1178 (by decide +kernel) (by decide +kernel)
theorem ml_X7_189 : Cond.methodLink RX7 189 yX7_far ∈ k_tbl := k_mem 1198 (by decide +kernel) (by decide +kernel)
theorem ml_X7_192 : Cond.methodLink RX7 192 yX7_likesOf ∈ k_tbl := k_mem 1194 (by decide +kernel) (by decide +kernel)
theorem ml_X7_195 : Cond.methodLink RX7 195 yX7_laysTable ∈ k_tbl := k_mem 1205 (by decide +kernel) (by decide +kernel)
theorem ml_X7_198 : Cond.methodLink RX7 198 yX7_isRather ∈ k_tbl := k_mem 1209 (by decide +kernel) (by decide +kernel)
theorem ml_X7_202 : Cond.methodLink RX7 202 yX7_puts ∈ k_tbl := k_mem 1221 (by decide +kernel) (by decide +kernel)
theorem ml_X7_206 : Cond.methodLink RX7 206 yX7_pens ∈ k_tbl := k_mem 1217 (by decide +kernel) (by decide +kernel)
theorem ml_X7_213 : Cond.methodLink RX7 213 yX7_areTwo ∈ k_tbl := k_mem 1235 (by decide +kernel) (by decide +kernel)
theorem ml_X7_216 : Cond.methodLink RX7 216 yX7_bitsOf ∈ k_tbl := k_mem 1243 (by decide +kernel) (by decide +kernel)
theorem ml_X7_219 : Cond.methodLink RX7 219 yX7_nextAsked ∈ k_tbl := k_mem 1262 (by decide +kernel) (by decide +kernel)
theorem ml_X7_222 : Cond.methodLink RX7 222 yX7_asking ∈ k_tbl := k_mem 1258 (by decide +kernel) (by decide +kernel)
theorem ml_X7_225 : Cond.methodLink RX7 225 yX7_askingNow ∈ k_tbl := k_mem 1254 (by decide +kernel) (by decide +kernel)
theorem ml_X7_228 : Cond.methodLink RX7 228 yX7_pairMany ∈ k_tbl := k_mem 1270 (by decide +kernel) (by decide +kernel)
theorem ml_X7_231 : Cond.methodLink RX7 231 yX7_likesInAll ∈ k_tbl := k_mem 1274 (by decide +kernel) (by decide +kernel)
theorem ml_X7_234 : Cond.methodLink RX7 234 yX7_doQuarrel ∈ k_tbl := k_mem 1290 (by decide +kernel) (by decide +kernel)
theorem ml_X7_237 : Cond.methodLink RX7 237 yX7_laysPairs ∈ k_tbl := k_mem 1282 (by decide +kernel) (by decide +kernel)
theorem ml_X7_240 : Cond.methodLink RX7 240 yX7_quarrels ∈ k_tbl := k_mem 1286 (by decide +kernel) (by decide +kernel)
theorem ml_X7_245 : Cond.methodLink RX7 245 yX7_nears ∈ k_tbl := k_mem 1316 (by decide +kernel) (by decide +kernel)
theorem ml_X7_251 : Cond.methodLink RX7 251 yX7_yearGoes ∈ k_tbl := k_mem 1312 (by decide +kernel) (by decide +kernel)
theorem ml_X7_254 : Cond.methodLink RX7 254 yX7_copies ∈ k_tbl := k_mem 1324 (by decide +kernel) (by decide +kernel)
theorem ml_X7_258 : Cond.methodLink RX7 258 yX7_unlike ∈ k_tbl := k_mem 1328 (by decide +kernel) (by decide +kernel)
theorem ml_X7_262 : Cond.methodLink RX7 262 yX7_lowest ∈ k_tbl := k_mem 1353 (by decide +kernel) (by decide +kernel)
theorem ml_X7_266 : Cond.methodLink RX7 266 yX7_byThieves ∈ k_tbl := k_mem 1349 (by decide +kernel) (by decide +kernel)
theorem ml_X7_272 : Cond.methodLink RX7 272 yX7_pensFor ∈ k_tbl := k_mem 1373 (by decide +kernel) (by decide +kernel)
theorem ml_X7_281 : Cond.methodLink RX7 281 yX7_drawsHand ∈ k_tbl := k_mem 1386 (by decide +kernel) (by decide +kernel)
theorem cs_J6_265 : Cond.constant RJ6 265 1431655765 ∈ k_tbl := k_mem 665 (by decide +kernel) (by decide +kernel)
theorem cs_J6_266 : Cond.constant RJ6 266 858993459 ∈ k_tbl := k_mem 666 (by decide +kernel) (by decide +kernel)
theorem cs_J6_267 : Cond.constant RJ6 267 252645135 ∈ k_tbl := k_mem 667 (by decide +kernel) (by decide +kernel)
theorem cs_X6_255 : Cond.constantLong RX6 255 (-1) ∈ k_tbl := k_mem 824 (by decide +kernel) (by decide +kernel)
theorem cs_X6_360 : Cond.constant RX6 360 1103515245 ∈ k_tbl := k_mem 892 (by decide +kernel) (by decide +kernel)
theorem cs_X7_56 : Cond.constantLong RX7 56 127 ∈ k_tbl := k_mem 1080 (by decide +kernel) (by decide +kernel)
theorem cs_X7_88 : Cond.constantLong RX7 88 97 ∈ k_tbl := k_mem 1100 (by decide +kernel) (by decide +kernel)
theorem cs_X7_90 : Cond.constantLong RX7 90 122 ∈ k_tbl := k_mem 1101 (by decide +kernel) (by decide +kernel)
theorem cs_X7_92 : Cond.constantLong RX7 92 48 ∈ k_tbl := k_mem 1102 (by decide +kernel) (by decide +kernel)
theorem cs_X7_94 : Cond.constantLong RX7 94 57 ∈ k_tbl := k_mem 1103 (by decide +kernel) (by decide +kernel)
theorem cs_X7_132 : Cond.constantLong RX7 132 7 ∈ k_tbl := k_mem 1116 (by decide +kernel) (by decide +kernel)
theorem cs_X7_156 : Cond.constantLong RX7 156 4 ∈ k_tbl := k_mem 1160 (by decide +kernel) (by decide +kernel)
theorem cs_X7_184 : Cond.constantLong RX7 184 2 ∈ k_tbl := k_mem 1177 (by decide +kernel) (by decide +kernel)
theorem cs_X7_209 : Cond.constantLong RX7 209 3 ∈ k_tbl := k_mem 1225 (by decide +kernel) (by decide +kernel)
theorem cs_X7_211 : Cond.constantLong RX7 211 9 ∈ k_tbl := k_mem 1226 (by decide +kernel) (by decide +kernel)
theorem cs_X7_243 : Cond.constantLong RX7 243 10 ∈ k_tbl := k_mem 1298 (by decide +kernel) (by decide +kernel)
theorem cs_X7_249 : Cond.constantLong RX7 249 20 ∈ k_tbl := k_mem 1311 (by decide +kernel) (by decide +kernel)
theorem cs_X7_261 : Cond.constant RX7 261 1000000 ∈ k_tbl := k_mem 1336 (by decide +kernel) (by decide +kernel)
theorem cs_X7_270 : Cond.constantLong RX7 270 (-1) ∈ k_tbl := k_mem 1356 (by decide +kernel) (by decide +kernel)
theorem cs_X7_278 : Cond.constant RX7 278 1103515245 ∈ k_tbl := k_mem 1390 (by decide +kernel) (by decide +kernel)
theorem cs_X7_279 : Cond.constantLong RX7 279 60 ∈ k_tbl := k_mem 1385 (by decide +kernel) (by decide +kernel)
