theorem dX6_init_0 : decode cX6_init 0 = .ok (.aload_n 0, 1) := by decide +kernel
theorem dX6_init_1 : decode cX6_init 1 = .ok (.invokespecial 1, 3) := by decide +kernel
theorem dX6_init_4 : decode cX6_init 4 = .ok (.aload_n 0, 1) := by decide +kernel
theorem dX6_init_5 : decode cX6_init 5 = .ok (.new 7, 3) := by decide +kernel
theorem dX6_init_8 : decode cX6_init 8 = .ok (.dup, 1) := by decide +kernel
theorem dX6_init_9 : decode cX6_init 9 = .ok (.invokespecial 9, 3) := by decide +kernel
theorem dX6_init_12 : decode cX6_init 12 = .ok (.putfield 10, 3) := by decide +kernel
theorem dX6_init_15 : decode cX6_init 15 = .ok (.aload_n 0, 1) := by decide +kernel
theorem dX6_init_16 : decode cX6_init 16 = .ok (.new 7, 3) := by decide +kernel
theorem dX6_init_19 : decode cX6_init 19 = .ok (.dup, 1) := by decide +kernel
theorem dX6_init_20 : decode cX6_init 20 = .ok (.invokespecial 9, 3) := by decide +kernel
theorem dX6_init_23 : decode cX6_init 23 = .ok (.putfield 16, 3) := by decide +kernel
theorem dX6_init_26 : decode cX6_init 26 = .ok (.aload_n 0, 1) := by decide +kernel
theorem dX6_init_27 : decode cX6_init 27 = .ok (.new 7, 3) := by decide +kernel
theorem dX6_init_30 : decode cX6_init 30 = .ok (.dup, 1) := by decide +kernel
theorem dX6_init_31 : decode cX6_init 31 = .ok (.invokespecial 9, 3) := by decide +kernel
theorem dX6_init_34 : decode cX6_init 34 = .ok (.putfield 19, 3) := by decide +kernel
theorem dX6_init_37 : decode cX6_init 37 = .ok (.aload_n 0, 1) := by decide +kernel
theorem dX6_init_38 : decode cX6_init 38 = .ok (.new 7, 3) := by decide +kernel
theorem dX6_init_41 : decode cX6_init 41 = .ok (.dup, 1) := by decide +kernel
theorem dX6_init_42 : decode cX6_init 42 = .ok (.invokespecial 9, 3) := by decide +kernel
theorem dX6_init_45 : decode cX6_init 45 = .ok (.putfield 22, 3) := by decide +kernel
theorem dX6_init_48 : decode cX6_init 48 = .ok (.aload_n 0, 1) := by decide +kernel
theorem dX6_init_49 : decode cX6_init 49 = .ok (.new 25, 3) := by decide +kernel
theorem dX6_init_52 : decode cX6_init 52 = .ok (.dup, 1) := by decide +kernel
theorem dX6_init_53 : decode cX6_init 53 = .ok (.invokespecial 27, 3) := by decide +kernel
theorem dX6_init_56 : decode cX6_init 56 = .ok (.putfield 28, 3) := by decide +kernel
theorem dX6_init_59 : decode cX6_init 59 = .ok (.aload_n 0, 1) := by decide +kernel
theorem dX6_init_60 : decode cX6_init 60 = .ok (.new 32, 3) := by decide +kernel
theorem dX6_init_63 : decode cX6_init 63 = .ok (.dup, 1) := by decide +kernel
theorem dX6_init_64 : decode cX6_init 64 = .ok (.aload_n 0, 1) := by decide +kernel
theorem dX6_init_65 : decode cX6_init 65 = .ok (.getfield 28, 3) := by decide +kernel
theorem dX6_init_68 : decode cX6_init 68 = .ok (.invokespecial 34, 3) := by decide +kernel
theorem dX6_init_71 : decode cX6_init 71 = .ok (.putfield 37, 3) := by decide +kernel
theorem dX6_init_74 : decode cX6_init 74 = .ok (.aload_n 0, 1) := by decide +kernel
theorem dX6_init_75 : decode cX6_init 75 = .ok (.new 41, 3) := by decide +kernel
theorem dX6_init_78 : decode cX6_init 78 = .ok (.dup, 1) := by decide +kernel
theorem dX6_init_79 : decode cX6_init 79 = .ok (.invokespecial 43, 3) := by decide +kernel
theorem dX6_init_82 : decode cX6_init 82 = .ok (.putfield 44, 3) := by decide +kernel
theorem dX6_init_85 : decode cX6_init 85 = .ok (.aload_n 0, 1) := by decide +kernel
theorem dX6_init_86 : decode cX6_init 86 = .ok (.new 48, 3) := by decide +kernel
theorem dX6_init_89 : decode cX6_init 89 = .ok (.dup, 1) := by decide +kernel
theorem dX6_init_90 : decode cX6_init 90 = .ok (.invokespecial 50, 3) := by decide +kernel
theorem dX6_init_93 : decode cX6_init 93 = .ok (.putfield 51, 3) := by decide +kernel
theorem dX6_init_96 : decode cX6_init 96 = .ok (.aload_n 0, 1) := by decide +kernel
theorem dX6_init_97 : decode cX6_init 97 = .ok (.bipush 10, 2) := by decide +kernel
theorem dX6_init_99 : decode cX6_init 99 = .ok (.newarray .int, 2) := by decide +kernel
theorem dX6_init_101 : decode cX6_init 101 = .ok (.putfield 55, 3) := by decide +kernel
theorem dX6_init_104 : decode cX6_init 104 = .ok (.aload_n 0, 1) := by decide +kernel
theorem dX6_init_105 : decode cX6_init 105 = .ok (.iconst 4, 1) := by decide +kernel
theorem dX6_init_106 : decode cX6_init 106 = .ok (.anewarray 59, 3) := by decide +kernel
theorem dX6_init_109 : decode cX6_init 109 = .ok (.putfield 61, 3) := by decide +kernel
theorem dX6_init_112 : decode cX6_init 112 = .ok (.iconst 0, 1) := by decide +kernel
theorem dX6_init_113 : decode cX6_init 113 = .ok (.istore_n 1, 1) := by decide +kernel
theorem dX6_init_114 : decode cX6_init 114 = .ok (.iload_n 1, 1) := by decide +kernel
theorem dX6_init_115 : decode cX6_init 115 = .ok (.iconst 4, 1) := by decide +kernel
theorem dX6_init_116 : decode cX6_init 116 = .ok (.if_icmp .ge 22, 3) := by decide +kernel
theorem dX6_init_119 : decode cX6_init 119 = .ok (.aload_n 0, 1) := by decide +kernel
theorem dX6_init_120 : decode cX6_init 120 = .ok (.getfield 61, 3) := by decide +kernel
theorem dX6_init_123 : decode cX6_init 123 = .ok (.iload_n 1, 1) := by decide +kernel
theorem dX6_init_124 : decode cX6_init 124 = .ok (.new 59, 3) := by decide +kernel
theorem dX6_init_127 : decode cX6_init 127 = .ok (.dup, 1) := by decide +kernel
theorem dX6_init_128 : decode cX6_init 128 = .ok (.invokespecial 65, 3) := by decide +kernel
theorem dX6_init_131 : decode cX6_init 131 = .ok (.aastore, 1) := by decide +kernel
theorem dX6_init_132 : decode cX6_init 132 = .ok (.iinc 1 1, 3) := by decide +kernel
theorem dX6_init_135 : decode cX6_init 135 = .ok (.goto (-21), 3) := by decide +kernel
theorem dX6_init_138 : decode cX6_init 138 = .ok (.return_, 1) := by decide +kernel
theorem dX6_feed_0 : decode cX6_feed 0 = .ok (.iload_n 1, 1) := by decide +kernel
theorem dX6_feed_1 : decode cX6_feed 1 = .ok (.ifCond .lt 9, 3) := by decide +kernel
theorem dX6_feed_4 : decode cX6_feed 4 = .ok (.iload_n 1, 1) := by decide +kernel
theorem dX6_feed_5 : decode cX6_feed 5 = .ok (.bipush 127, 2) := by decide +kernel
theorem dX6_feed_7 : decode cX6_feed 7 = .ok (.if_icmp .le 5, 3) := by decide +kernel
theorem dX6_feed_10 : decode cX6_feed 10 = .ok (.iconst (-1), 1) := by decide +kernel
theorem dX6_feed_11 : decode cX6_feed 11 = .ok (.ireturn, 1) := by decide +kernel
theorem dX6_feed_12 : decode cX6_feed 12 = .ok (.aload_n 0, 1) := by decide +kernel
theorem dX6_feed_13 : decode cX6_feed 13 = .ok (.getfield 28, 3) := by decide +kernel
theorem dX6_feed_16 : decode cX6_feed 16 = .ok (.iload_n 1, 1) := by decide +kernel
theorem dX6_feed_17 : decode cX6_feed 17 = .ok (.invokevirtual 66, 3) := by decide +kernel
theorem dX6_feed_20 : decode cX6_feed 20 = .ok (.ifCond .eq 13, 3) := by decide +kernel
theorem dX6_feed_23 : decode cX6_feed 23 = .ok (.aload_n 0, 1) := by decide +kernel
theorem dX6_feed_24 : decode cX6_feed 24 = .ok (.getfield 28, 3) := by decide +kernel
theorem dX6_feed_27 : decode cX6_feed 27 = .ok (.getfield 70, 3) := by decide +kernel
theorem dX6_feed_30 : decode cX6_feed 30 = .ok (.goto 5, 3) := by decide +kernel
theorem dX6_feed_33 : decode cX6_feed 33 = .ok (.bipush (-3), 2) := by decide +kernel
theorem dX6_feed_35 : decode cX6_feed 35 = .ok (.ireturn, 1) := by decide +kernel
theorem dX6_end_0 : decode cX6_end 0 = .ok (.aload_n 0, 1) := by decide +kernel
theorem dX6_end_1 : decode cX6_end 1 = .ok (.getfield 28, 3) := by decide +kernel
theorem dX6_end_4 : decode cX6_end 4 = .ok (.getfield 70, 3) := by decide +kernel
theorem dX6_end_7 : decode cX6_end 7 = .ok (.istore_n 2, 1) := by decide +kernel
theorem dX6_end_8 : decode cX6_end 8 = .ok (.iload_n 1, 1) := by decide +kernel
theorem dX6_end_9 : decode cX6_end 9 = .ok (.ifCond .lt 8, 3) := by decide +kernel
theorem dX6_end_12 : decode cX6_end 12 = .ok (.iload_n 1, 1) := by decide +kernel
theorem dX6_end_13 : decode cX6_end 13 = .ok (.iload_n 2, 1) := by decide +kernel
theorem dX6_end_14 : decode cX6_end 14 = .ok (.if_icmp .le 5, 3) := by decide +kernel
theorem dX6_end_17 : decode cX6_end 17 = .ok (.iconst (-1), 1) := by decide +kernel
theorem dX6_end_18 : decode cX6_end 18 = .ok (.ireturn, 1) := by decide +kernel
theorem dX6_end_19 : decode cX6_end 19 = .ok (.aload_n 0, 1) := by decide +kernel
theorem dX6_end_20 : decode cX6_end 20 = .ok (.getfield 28, 3) := by decide +kernel
theorem dX6_end_23 : decode cX6_end 23 = .ok (.iload_n 1, 1) := by decide +kernel
theorem dX6_end_24 : decode cX6_end 24 = .ok (.putfield 70, 3) := by decide +kernel
theorem dX6_end_27 : decode cX6_end 27 = .ok (.iload_n 2, 1) := by decide +kernel
theorem dX6_end_28 : decode cX6_end 28 = .ok (.ireturn, 1) := by decide +kernel
theorem dX6_text_0 : decode cX6_text 0 = .ok (.aload_n 0, 1) := by decide +kernel
theorem dX6_text_1 : decode cX6_text 1 = .ok (.getfield 37, 3) := by decide +kernel
theorem dX6_text_4 : decode cX6_text 4 = .ok (.invokevirtual 74, 3) := by decide +kernel
theorem dX6_text_7 : decode cX6_text 7 = .ok (.aload_n 0, 1) := by decide +kernel
theorem dX6_text_8 : decode cX6_text 8 = .ok (.getfield 28, 3) := by decide +kernel
theorem dX6_text_11 : decode cX6_text 11 = .ok (.iconst 0, 1) := by decide +kernel
theorem dX6_text_12 : decode cX6_text 12 = .ok (.putfield 70, 3) := by decide +kernel
theorem dX6_text_15 : decode cX6_text 15 = .ok (.aload_n 0, 1) := by decide +kernel
theorem dX6_text_16 : decode cX6_text 16 = .ok (.getfield 37, 3) := by decide +kernel
theorem dX6_text_19 : decode cX6_text 19 = .ok (.getfield 77, 3) := by decide +kernel
theorem dX6_text_22 : decode cX6_text 22 = .ok (.ifCond .eq 14, 3) := by decide +kernel
theorem dX6_text_25 : decode cX6_text 25 = .ok (.bipush (-10), 2) := by decide +kernel
theorem dX6_text_27 : decode cX6_text 27 = .ok (.aload_n 0, 1) := by decide +kernel
theorem dX6_text_28 : decode cX6_text 28 = .ok (.getfield 37, 3) := by decide +kernel
theorem dX6_text_31 : decode cX6_text 31 = .ok (.getfield 80, 3) := by decide +kernel
theorem dX6_text_34 : decode cX6_text 34 = .ok (.isub, 1) := by decide +kernel
theorem dX6_text_35 : decode cX6_text 35 = .ok (.ireturn, 1) := by decide +kernel
theorem dX6_text_36 : decode cX6_text 36 = .ok (.aload_n 0, 1) := by decide +kernel
theorem dX6_text_37 : decode cX6_text 37 = .ok (.getfield 10, 3) := by decide +kernel
theorem dX6_text_40 : decode cX6_text 40 = .ok (.aload_n 0, 1) := by decide +kernel
theorem dX6_text_41 : decode cX6_text 41 = .ok (.getfield 37, 3) := by decide +kernel
theorem dX6_text_44 : decode cX6_text 44 = .ok (.getfield 83, 3) := by decide +kernel
theorem dX6_text_47 : decode cX6_text 47 = .ok (.invokevirtual 86, 3) := by decide +kernel
theorem dX6_text_50 : decode cX6_text 50 = .ok (.aload_n 0, 1) := by decide +kernel
theorem dX6_text_51 : decode cX6_text 51 = .ok (.getfield 51, 3) := by decide +kernel
theorem dX6_text_54 : decode cX6_text 54 = .ok (.iconst 0, 1) := by decide +kernel
theorem dX6_text_55 : decode cX6_text 55 = .ok (.putfield 90, 3) := by decide +kernel
theorem dX6_text_58 : decode cX6_text 58 = .ok (.aload_n 0, 1) := by decide +kernel
theorem dX6_text_59 : decode cX6_text 59 = .ok (.iconst 0, 1) := by decide +kernel
theorem dX6_text_60 : decode cX6_text 60 = .ok (.putfield 91, 3) := by decide +kernel
theorem dX6_text_63 : decode cX6_text 63 = .ok (.aload_n 0, 1) := by decide +kernel
theorem dX6_text_64 : decode cX6_text 64 = .ok (.getfield 37, 3) := by decide +kernel
theorem dX6_text_67 : decode cX6_text 67 = .ok (.getfield 94, 3) := by decide +kernel
theorem dX6_text_70 : decode cX6_text 70 = .ok (.ireturn, 1) := by decide +kernel
theorem dX6_fault_0 : decode cX6_fault 0 = .ok (.aload_n 0, 1) := by decide +kernel
theorem dX6_fault_1 : decode cX6_fault 1 = .ok (.getfield 37, 3) := by decide +kernel
theorem dX6_fault_4 : decode cX6_fault 4 = .ok (.getfield 77, 3) := by decide +kernel
theorem dX6_fault_7 : decode cX6_fault 7 = .ok (.ireturn, 1) := by decide +kernel
theorem dX6_rule_0 : decode cX6_rule 0 = .ok (.iload_n 1, 1) := by decide +kernel
theorem dX6_rule_1 : decode cX6_rule 1 = .ok (.tableswitch 75 0 4 #[35, 43, 51, 59, 67], 35) := by decide +kernel
theorem dX6_rule_36 : decode cX6_rule 36 = .ok (.aload_n 0, 1) := by decide +kernel
theorem dX6_rule_37 : decode cX6_rule 37 = .ok (.getfield 10, 3) := by decide +kernel
theorem dX6_rule_40 : decode cX6_rule 40 = .ok (.getfield 97, 3) := by decide +kernel
theorem dX6_rule_43 : decode cX6_rule 43 = .ok (.ireturn, 1) := by decide +kernel
theorem dX6_rule_44 : decode cX6_rule 44 = .ok (.aload_n 0, 1) := by decide +kernel
theorem dX6_rule_45 : decode cX6_rule 45 = .ok (.getfield 10, 3) := by decide +kernel
theorem dX6_rule_48 : decode cX6_rule 48 = .ok (.getfield 100, 3) := by decide +kernel
theorem dX6_rule_51 : decode cX6_rule 51 = .ok (.ireturn, 1) := by decide +kernel
theorem dX6_rule_52 : decode cX6_rule 52 = .ok (.aload_n 0, 1) := by decide +kernel
theorem dX6_rule_53 : decode cX6_rule 53 = .ok (.getfield 10, 3) := by decide +kernel
theorem dX6_rule_56 : decode cX6_rule 56 = .ok (.getfield 103, 3) := by decide +kernel
theorem dX6_rule_59 : decode cX6_rule 59 = .ok (.ireturn, 1) := by decide +kernel
theorem dX6_rule_60 : decode cX6_rule 60 = .ok (.aload_n 0, 1) := by decide +kernel
theorem dX6_rule_61 : decode cX6_rule 61 = .ok (.getfield 10, 3) := by decide +kernel
theorem dX6_rule_64 : decode cX6_rule 64 = .ok (.invokevirtual 106, 3) := by decide +kernel
theorem dX6_rule_67 : decode cX6_rule 67 = .ok (.ireturn, 1) := by decide +kernel
theorem dX6_rule_68 : decode cX6_rule 68 = .ok (.aload_n 0, 1) := by decide +kernel
theorem dX6_rule_69 : decode cX6_rule 69 = .ok (.getfield 10, 3) := by decide +kernel
theorem dX6_rule_72 : decode cX6_rule 72 = .ok (.getfield 110, 3) := by decide +kernel
theorem dX6_rule_75 : decode cX6_rule 75 = .ok (.ireturn, 1) := by decide +kernel
theorem dX6_rule_76 : decode cX6_rule 76 = .ok (.iconst (-1), 1) := by decide +kernel
theorem dX6_rule_77 : decode cX6_rule 77 = .ok (.ireturn, 1) := by decide +kernel
theorem dX6_hand_0 : decode cX6_hand 0 = .ok (.aload_n 0, 1) := by decide +kernel
theorem dX6_hand_1 : decode cX6_hand 1 = .ok (.getfield 10, 3) := by decide +kernel
theorem dX6_hand_4 : decode cX6_hand 4 = .ok (.iload_n 1, 1) := by decide +kernel
theorem dX6_hand_5 : decode cX6_hand 5 = .ok (.invokevirtual 113, 3) := by decide +kernel
theorem dX6_hand_8 : decode cX6_hand 8 = .ok (.ifCond .ne 5, 3) := by decide +kernel
theorem dX6_hand_11 : decode cX6_hand 11 = .ok (.iconst (-1), 1) := by decide +kernel
theorem dX6_hand_12 : decode cX6_hand 12 = .ok (.ireturn, 1) := by decide +kernel
theorem dX6_hand_13 : decode cX6_hand 13 = .ok (.iload_n 2, 1) := by decide +kernel
theorem dX6_hand_14 : decode cX6_hand 14 = .ok (.tableswitch 115 0 6 #[42, 52, 62, 72, 82, 92, 105], 42) := by decide +kernel
theorem dX6_hand_56 : decode cX6_hand 56 = .ok (.aload_n 0, 1) := by decide +kernel
theorem dX6_hand_57 : decode cX6_hand 57 = .ok (.getfield 10, 3) := by decide +kernel
theorem dX6_hand_60 : decode cX6_hand 60 = .ok (.getfield 116, 3) := by decide +kernel
theorem dX6_hand_63 : decode cX6_hand 63 = .ok (.iload_n 1, 1) := by decide +kernel
theorem dX6_hand_64 : decode cX6_hand 64 = .ok (.iaload, 1) := by decide +kernel
theorem dX6_hand_65 : decode cX6_hand 65 = .ok (.ireturn, 1) := by decide +kernel
theorem dX6_hand_66 : decode cX6_hand 66 = .ok (.aload_n 0, 1) := by decide +kernel
theorem dX6_hand_67 : decode cX6_hand 67 = .ok (.getfield 10, 3) := by decide +kernel
theorem dX6_hand_70 : decode cX6_hand 70 = .ok (.getfield 119, 3) := by decide +kernel
theorem dX6_hand_73 : decode cX6_hand 73 = .ok (.iload_n 1, 1) := by decide +kernel
theorem dX6_hand_74 : decode cX6_hand 74 = .ok (.iaload, 1) := by decide +kernel
theorem dX6_hand_75 : decode cX6_hand 75 = .ok (.ireturn, 1) := by decide +kernel
theorem dX6_hand_76 : decode cX6_hand 76 = .ok (.aload_n 0, 1) := by decide +kernel
theorem dX6_hand_77 : decode cX6_hand 77 = .ok (.getfield 10, 3) := by decide +kernel
theorem dX6_hand_80 : decode cX6_hand 80 = .ok (.getfield 122, 3) := by decide +kernel
theorem dX6_hand_83 : decode cX6_hand 83 = .ok (.iload_n 1, 1) := by decide +kernel
theorem dX6_hand_84 : decode cX6_hand 84 = .ok (.iaload, 1) := by decide +kernel
theorem dX6_hand_85 : decode cX6_hand 85 = .ok (.ireturn, 1) := by decide +kernel
theorem dX6_hand_86 : decode cX6_hand 86 = .ok (.aload_n 0, 1) := by decide +kernel
theorem dX6_hand_87 : decode cX6_hand 87 = .ok (.getfield 10, 3) := by decide +kernel
theorem dX6_hand_90 : decode cX6_hand 90 = .ok (.getfield 125, 3) := by decide +kernel
theorem dX6_hand_93 : decode cX6_hand 93 = .ok (.iload_n 1, 1) := by decide +kernel
theorem dX6_hand_94 : decode cX6_hand 94 = .ok (.iaload, 1) := by decide +kernel
theorem dX6_hand_95 : decode cX6_hand 95 = .ok (.ireturn, 1) := by decide +kernel
theorem dX6_hand_96 : decode cX6_hand 96 = .ok (.aload_n 0, 1) := by decide +kernel
theorem dX6_hand_97 : decode cX6_hand 97 = .ok (.getfield 10, 3) := by decide +kernel
theorem dX6_hand_100 : decode cX6_hand 100 = .ok (.getfield 128, 3) := by decide +kernel
theorem dX6_hand_103 : decode cX6_hand 103 = .ok (.iload_n 1, 1) := by decide +kernel
theorem dX6_hand_104 : decode cX6_hand 104 = .ok (.iaload, 1) := by decide +kernel
theorem dX6_hand_105 : decode cX6_hand 105 = .ok (.ireturn, 1) := by decide +kernel
theorem dX6_hand_106 : decode cX6_hand 106 = .ok (.aload_n 0, 1) := by decide +kernel
theorem dX6_hand_107 : decode cX6_hand 107 = .ok (.getfield 10, 3) := by decide +kernel
theorem dX6_hand_110 : decode cX6_hand 110 = .ok (.getfield 131, 3) := by decide +kernel
theorem dX6_hand_113 : decode cX6_hand 113 = .ok (.iload_n 1, 1) := by decide +kernel
theorem dX6_hand_114 : decode cX6_hand 114 = .ok (.iaload, 1) := by decide +kernel
theorem dX6_hand_115 : decode cX6_hand 115 = .ok (.invokestatic 134, 3) := by decide +kernel
theorem dX6_hand_118 : decode cX6_hand 118 = .ok (.ireturn, 1) := by decide +kernel
theorem dX6_hand_119 : decode cX6_hand 119 = .ok (.aload_n 0, 1) := by decide +kernel
theorem dX6_hand_120 : decode cX6_hand 120 = .ok (.getfield 10, 3) := by decide +kernel
theorem dX6_hand_123 : decode cX6_hand 123 = .ok (.getfield 138, 3) := by decide +kernel
theorem dX6_hand_126 : decode cX6_hand 126 = .ok (.iload_n 1, 1) := by decide +kernel
theorem dX6_hand_127 : decode cX6_hand 127 = .ok (.iaload, 1) := by decide +kernel
theorem dX6_hand_128 : decode cX6_hand 128 = .ok (.ireturn, 1) := by decide +kernel
theorem dX6_hand_129 : decode cX6_hand 129 = .ok (.iconst (-1), 1) := by decide +kernel
theorem dX6_hand_130 : decode cX6_hand 130 = .ok (.ireturn, 1) := by decide +kernel
theorem dX6_page_0 : decode cX6_page 0 = .ok (.aload_n 0, 1) := by decide +kernel
theorem dX6_page_1 : decode cX6_page 1 = .ok (.getfield 10, 3) := by decide +kernel
theorem dX6_page_4 : decode cX6_page 4 = .ok (.iload_n 1, 1) := by decide +kernel
theorem dX6_page_5 : decode cX6_page 5 = .ok (.invokevirtual 113, 3) := by decide +kernel
theorem dX6_page_8 : decode cX6_page 8 = .ok (.ifCond .eq 10, 3) := by decide +kernel
theorem dX6_page_11 : decode cX6_page 11 = .ok (.iload_n 2, 1) := by decide +kernel
theorem dX6_page_12 : decode cX6_page 12 = .ok (.invokestatic 141, 3) := by decide +kernel
theorem dX6_page_15 : decode cX6_page 15 = .ok (.ifCond .ne 5, 3) := by decide +kernel
theorem dX6_page_18 : decode cX6_page 18 = .ok (.iconst (-1), 1) := by decide +kernel
theorem dX6_page_19 : decode cX6_page 19 = .ok (.ireturn, 1) := by decide +kernel
theorem dX6_page_20 : decode cX6_page 20 = .ok (.aload_n 0, 1) := by decide +kernel
theorem dX6_page_21 : decode cX6_page 21 = .ok (.getfield 10, 3) := by decide +kernel
theorem dX6_page_24 : decode cX6_page 24 = .ok (.iload_n 1, 1) := by decide +kernel
theorem dX6_page_25 : decode cX6_page 25 = .ok (.iload_n 2, 1) := by decide +kernel
theorem dX6_page_26 : decode cX6_page 26 = .ok (.invokevirtual 144, 3) := by decide +kernel
theorem dX6_page_29 : decode cX6_page 29 = .ok (.ireturn, 1) := by decide +kernel
theorem dX6_likes_0 : decode cX6_likes 0 = .ok (.aload_n 0, 1) := by decide +kernel
theorem dX6_likes_1 : decode cX6_likes 1 = .ok (.getfield 10, 3) := by decide +kernel
theorem dX6_likes_4 : decode cX6_likes 4 = .ok (.iload_n 1, 1) := by decide +kernel
theorem dX6_likes_5 : decode cX6_likes 5 = .ok (.invokevirtual 113, 3) := by decide +kernel
theorem dX6_likes_8 : decode cX6_likes 8 = .ok (.ifCond .eq 22, 3) := by decide +kernel
theorem dX6_likes_11 : decode cX6_likes 11 = .ok (.aload_n 0, 1) := by decide +kernel
theorem dX6_likes_12 : decode cX6_likes 12 = .ok (.getfield 10, 3) := by decide +kernel
theorem dX6_likes_15 : decode cX6_likes 15 = .ok (.iload_n 2, 1) := by decide +kernel
theorem dX6_likes_16 : decode cX6_likes 16 = .ok (.invokevirtual 113, 3) := by decide +kernel
theorem dX6_likes_19 : decode cX6_likes 19 = .ok (.ifCond .eq 11, 3) := by decide +kernel
theorem dX6_likes_22 : decode cX6_likes 22 = .ok (.iload_n 1, 1) := by decide +kernel
theorem dX6_likes_23 : decode cX6_likes 23 = .ok (.iload_n 2, 1) := by decide +kernel
theorem dX6_likes_24 : decode cX6_likes 24 = .ok (.invokestatic 148, 3) := by decide +kernel
theorem dX6_likes_27 : decode cX6_likes 27 = .ok (.ifCond .eq 5, 3) := by decide +kernel
theorem dX6_likes_30 : decode cX6_likes 30 = .ok (.iconst (-1), 1) := by decide +kernel
theorem dX6_likes_31 : decode cX6_likes 31 = .ok (.ireturn, 1) := by decide +kernel
theorem dX6_likes_32 : decode cX6_likes 32 = .ok (.aload_n 0, 1) := by decide +kernel
theorem dX6_likes_33 : decode cX6_likes 33 = .ok (.getfield 44, 3) := by decide +kernel
theorem dX6_likes_36 : decode cX6_likes 36 = .ok (.aload_n 0, 1) := by decide +kernel
theorem dX6_likes_37 : decode cX6_likes 37 = .ok (.getfield 10, 3) := by decide +kernel
theorem dX6_likes_40 : decode cX6_likes 40 = .ok (.invokevirtual 152, 3) := by decide +kernel
theorem dX6_likes_43 : decode cX6_likes 43 = .ok (.aload_n 0, 1) := by decide +kernel
theorem dX6_likes_44 : decode cX6_likes 44 = .ok (.getfield 44, 3) := by decide +kernel
theorem dX6_likes_47 : decode cX6_likes 47 = .ok (.iload_n 1, 1) := by decide +kernel
theorem dX6_likes_48 : decode cX6_likes 48 = .ok (.iload_n 2, 1) := by decide +kernel
theorem dX6_likes_49 : decode cX6_likes 49 = .ok (.invokevirtual 155, 3) := by decide +kernel
theorem dX6_likes_52 : decode cX6_likes 52 = .ok (.ireturn, 1) := by decide +kernel
theorem dX6_rather_0 : decode cX6_rather 0 = .ok (.aload_n 0, 1) := by decide +kernel
theorem dX6_rather_1 : decode cX6_rather 1 = .ok (.getfield 10, 3) := by decide +kernel
theorem dX6_rather_4 : decode cX6_rather 4 = .ok (.iload_n 1, 1) := by decide +kernel
theorem dX6_rather_5 : decode cX6_rather 5 = .ok (.invokevirtual 113, 3) := by decide +kernel
theorem dX6_rather_8 : decode cX6_rather 8 = .ok (.ifCond .eq 7, 3) := by decide +kernel
theorem dX6_rather_11 : decode cX6_rather 11 = .ok (.iload_n 2, 1) := by decide +kernel
theorem dX6_rather_12 : decode cX6_rather 12 = .ok (.ifCond .ge 5, 3) := by decide +kernel
theorem dX6_rather_15 : decode cX6_rather 15 = .ok (.iconst (-1), 1) := by decide +kernel
theorem dX6_rather_16 : decode cX6_rather 16 = .ok (.ireturn, 1) := by decide +kernel
theorem dX6_rather_17 : decode cX6_rather 17 = .ok (.aload_n 0, 1) := by decide +kernel
theorem dX6_rather_18 : decode cX6_rather 18 = .ok (.getfield 44, 3) := by decide +kernel
theorem dX6_rather_21 : decode cX6_rather 21 = .ok (.aload_n 0, 1) := by decide +kernel
theorem dX6_rather_22 : decode cX6_rather 22 = .ok (.getfield 10, 3) := by decide +kernel
theorem dX6_rather_25 : decode cX6_rather 25 = .ok (.invokevirtual 152, 3) := by decide +kernel
theorem dX6_rather_28 : decode cX6_rather 28 = .ok (.aload_n 0, 1) := by decide +kernel
theorem dX6_rather_29 : decode cX6_rather 29 = .ok (.getfield 44, 3) := by decide +kernel
theorem dX6_rather_32 : decode cX6_rather 32 = .ok (.iload_n 1, 1) := by decide +kernel
theorem dX6_rather_33 : decode cX6_rather 33 = .ok (.iload_n 2, 1) := by decide +kernel
theorem dX6_rather_34 : decode cX6_rather 34 = .ok (.invokevirtual 158, 3) := by decide +kernel
theorem dX6_rather_37 : decode cX6_rather 37 = .ok (.invokestatic 134, 3) := by decide +kernel
theorem dX6_rather_40 : decode cX6_rather 40 = .ok (.ireturn, 1) := by decide +kernel
theorem dX6_alter_0 : decode cX6_alter 0 = .ok (.aload_n 0, 1) := by decide +kernel
theorem dX6_alter_1 : decode cX6_alter 1 = .ok (.getfield 10, 3) := by decide +kernel
theorem dX6_alter_4 : decode cX6_alter 4 = .ok (.iload_n 1, 1) := by decide +kernel
theorem dX6_alter_5 : decode cX6_alter 5 = .ok (.invokevirtual 113, 3) := by decide +kernel
theorem dX6_alter_8 : decode cX6_alter 8 = .ok (.ifCond .ne 5, 3) := by decide +kernel
theorem dX6_alter_11 : decode cX6_alter 11 = .ok (.iconst (-1), 1) := by decide +kernel
theorem dX6_alter_12 : decode cX6_alter 12 = .ok (.ireturn, 1) := by decide +kernel
theorem dX6_alter_13 : decode cX6_alter 13 = .ok (.iload_n 2, 1) := by decide +kernel
theorem dX6_alter_14 : decode cX6_alter 14 = .ok (.tableswitch 143 0 4 #[34, 61, 78, 95, 122], 34) := by decide +kernel
theorem dX6_alter_48 : decode cX6_alter 48 = .ok (.aload_n 0, 1) := by decide +kernel
theorem dX6_alter_49 : decode cX6_alter 49 = .ok (.getfield 10, 3) := by decide +kernel
theorem dX6_alter_52 : decode cX6_alter 52 = .ok (.getfield 116, 3) := by decide +kernel
theorem dX6_alter_55 : decode cX6_alter 55 = .ok (.iload_n 1, 1) := by decide +kernel
theorem dX6_alter_56 : decode cX6_alter 56 = .ok (.iload_n 3, 1) := by decide +kernel
theorem dX6_alter_57 : decode cX6_alter 57 = .ok (.iload_n 3, 1) := by decide +kernel
theorem dX6_alter_58 : decode cX6_alter 58 = .ok (.ifCond .lt 12, 3) := by decide +kernel
theorem dX6_alter_61 : decode cX6_alter 61 = .ok (.iload_n 3, 1) := by decide +kernel
theorem dX6_alter_62 : decode cX6_alter 62 = .ok (.iconst 3, 1) := by decide +kernel
theorem dX6_alter_63 : decode cX6_alter 63 = .ok (.if_icmp .gt 7, 3) := by decide +kernel
theorem dX6_alter_66 : decode cX6_alter 66 = .ok (.iconst 1, 1) := by decide +kernel
theorem dX6_alter_67 : decode cX6_alter 67 = .ok (.goto 4, 3) := by decide +kernel
theorem dX6_alter_70 : decode cX6_alter 70 = .ok (.iconst 0, 1) := by decide +kernel
theorem dX6_alter_71 : decode cX6_alter 71 = .ok (.invokestatic 161, 3) := by decide +kernel
theorem dX6_alter_74 : decode cX6_alter 74 = .ok (.ireturn, 1) := by decide +kernel
theorem dX6_alter_75 : decode cX6_alter 75 = .ok (.aload_n 0, 1) := by decide +kernel
theorem dX6_alter_76 : decode cX6_alter 76 = .ok (.getfield 10, 3) := by decide +kernel
theorem dX6_alter_79 : decode cX6_alter 79 = .ok (.getfield 119, 3) := by decide +kernel
theorem dX6_alter_82 : decode cX6_alter 82 = .ok (.iload_n 1, 1) := by decide +kernel
theorem dX6_alter_83 : decode cX6_alter 83 = .ok (.iload_n 3, 1) := by decide +kernel
theorem dX6_alter_84 : decode cX6_alter 84 = .ok (.iload_n 3, 1) := by decide +kernel
theorem dX6_alter_85 : decode cX6_alter 85 = .ok (.invokestatic 165, 3) := by decide +kernel
theorem dX6_alter_88 : decode cX6_alter 88 = .ok (.invokestatic 161, 3) := by decide +kernel
theorem dX6_alter_91 : decode cX6_alter 91 = .ok (.ireturn, 1) := by decide +kernel
theorem dX6_alter_92 : decode cX6_alter 92 = .ok (.aload_n 0, 1) := by decide +kernel
theorem dX6_alter_93 : decode cX6_alter 93 = .ok (.getfield 10, 3) := by decide +kernel
theorem dX6_alter_96 : decode cX6_alter 96 = .ok (.getfield 122, 3) := by decide +kernel
theorem dX6_alter_99 : decode cX6_alter 99 = .ok (.iload_n 1, 1) := by decide +kernel
theorem dX6_alter_100 : decode cX6_alter 100 = .ok (.iload_n 3, 1) := by decide +kernel
theorem dX6_alter_101 : decode cX6_alter 101 = .ok (.iload_n 3, 1) := by decide +kernel
theorem dX6_alter_102 : decode cX6_alter 102 = .ok (.invokestatic 165, 3) := by decide +kernel
theorem dX6_alter_105 : decode cX6_alter 105 = .ok (.invokestatic 161, 3) := by decide +kernel
theorem dX6_alter_108 : decode cX6_alter 108 = .ok (.ireturn, 1) := by decide +kernel
theorem dX6_alter_109 : decode cX6_alter 109 = .ok (.aload_n 0, 1) := by decide +kernel
theorem dX6_alter_110 : decode cX6_alter 110 = .ok (.getfield 10, 3) := by decide +kernel
theorem dX6_alter_113 : decode cX6_alter 113 = .ok (.getfield 125, 3) := by decide +kernel
theorem dX6_alter_116 : decode cX6_alter 116 = .ok (.iload_n 1, 1) := by decide +kernel
theorem dX6_alter_117 : decode cX6_alter 117 = .ok (.iload_n 3, 1) := by decide +kernel
theorem dX6_alter_118 : decode cX6_alter 118 = .ok (.iload_n 3, 1) := by decide +kernel
theorem dX6_alter_119 : decode cX6_alter 119 = .ok (.ifCond .lt 12, 3) := by decide +kernel
theorem dX6_alter_122 : decode cX6_alter 122 = .ok (.iload_n 3, 1) := by decide +kernel
theorem dX6_alter_123 : decode cX6_alter 123 = .ok (.iconst 2, 1) := by decide +kernel
theorem dX6_alter_124 : decode cX6_alter 124 = .ok (.if_icmp .gt 7, 3) := by decide +kernel
theorem dX6_alter_127 : decode cX6_alter 127 = .ok (.iconst 1, 1) := by decide +kernel
theorem dX6_alter_128 : decode cX6_alter 128 = .ok (.goto 4, 3) := by decide +kernel
theorem dX6_alter_131 : decode cX6_alter 131 = .ok (.iconst 0, 1) := by decide +kernel
theorem dX6_alter_132 : decode cX6_alter 132 = .ok (.invokestatic 161, 3) := by decide +kernel
theorem dX6_alter_135 : decode cX6_alter 135 = .ok (.ireturn, 1) := by decide +kernel
theorem dX6_alter_136 : decode cX6_alter 136 = .ok (.aload_n 0, 1) := by decide +kernel
theorem dX6_alter_137 : decode cX6_alter 137 = .ok (.getfield 10, 3) := by decide +kernel
theorem dX6_alter_140 : decode cX6_alter 140 = .ok (.getfield 128, 3) := by decide +kernel
theorem dX6_alter_143 : decode cX6_alter 143 = .ok (.iload_n 1, 1) := by decide +kernel
theorem dX6_alter_144 : decode cX6_alter 144 = .ok (.iload_n 3, 1) := by decide +kernel
theorem dX6_alter_145 : decode cX6_alter 145 = .ok (.aload_n 0, 1) := by decide +kernel
theorem dX6_alter_146 : decode cX6_alter 146 = .ok (.getfield 10, 3) := by decide +kernel
theorem dX6_alter_149 : decode cX6_alter 149 = .ok (.iload_n 3, 1) := by decide +kernel
theorem dX6_alter_150 : decode cX6_alter 150 = .ok (.invokevirtual 113, 3) := by decide +kernel
theorem dX6_alter_153 : decode cX6_alter 153 = .ok (.invokestatic 161, 3) := by decide +kernel
theorem dX6_alter_156 : decode cX6_alter 156 = .ok (.ireturn, 1) := by decide +kernel
theorem dX6_alter_157 : decode cX6_alter 157 = .ok (.iconst (-1), 1) := by decide +kernel
theorem dX6_alter_158 : decode cX6_alter 158 = .ok (.ireturn, 1) := by decide +kernel
theorem dX6_run_0 : decode cX6_run 0 = .ok (.aload_n 0, 1) := by decide +kernel
theorem dX6_run_1 : decode cX6_run 1 = .ok (.getfield 10, 3) := by decide +kernel
theorem dX6_run_4 : decode cX6_run 4 = .ok (.iload_n 1, 1) := by decide +kernel
theorem dX6_run_5 : decode cX6_run 5 = .ok (.invokevirtual 113, 3) := by decide +kernel
theorem dX6_run_8 : decode cX6_run 8 = .ok (.ifCond .ne 5, 3) := by decide +kernel
theorem dX6_run_11 : decode cX6_run 11 = .ok (.iconst (-1), 1) := by decide +kernel
theorem dX6_run_12 : decode cX6_run 12 = .ok (.ireturn, 1) := by decide +kernel
theorem dX6_run_13 : decode cX6_run 13 = .ok (.aload_n 0, 1) := by decide +kernel
theorem dX6_run_14 : decode cX6_run 14 = .ok (.getfield 10, 3) := by decide +kernel
theorem dX6_run_17 : decode cX6_run 17 = .ok (.iload_n 1, 1) := by decide +kernel
theorem dX6_run_18 : decode cX6_run 18 = .ok (.invokevirtual 168, 3) := by decide +kernel
theorem dX6_run_21 : decode cX6_run 21 = .ok (.ifCond .eq 7, 3) := by decide +kernel
theorem dX6_run_24 : decode cX6_run 24 = .ok (.iconst 1, 1) := by decide +kernel
theorem dX6_run_25 : decode cX6_run 25 = .ok (.goto 4, 3) := by decide +kernel
theorem dX6_run_28 : decode cX6_run 28 = .ok (.iconst 0, 1) := by decide +kernel
theorem dX6_run_29 : decode cX6_run 29 = .ok (.istore_n 3, 1) := by decide +kernel
theorem dX6_run_30 : decode cX6_run 30 = .ok (.aload_n 0, 1) := by decide +kernel
theorem dX6_run_31 : decode cX6_run 31 = .ok (.getfield 10, 3) := by decide +kernel
theorem dX6_run_34 : decode cX6_run 34 = .ok (.iload_n 1, 1) := by decide +kernel
theorem dX6_run_35 : decode cX6_run 35 = .ok (.iload_n 2, 1) := by decide +kernel
theorem dX6_run_36 : decode cX6_run 36 = .ok (.invokevirtual 171, 3) := by decide +kernel
theorem dX6_run_39 : decode cX6_run 39 = .ok (.iload_n 3, 1) := by decide +kernel
theorem dX6_run_40 : decode cX6_run 40 = .ok (.ireturn, 1) := by decide +kernel
theorem dX6_fold_0 : decode cX6_fold 0 = .ok (.aload_n 0, 1) := by decide +kernel
theorem dX6_fold_1 : decode cX6_fold 1 = .ok (.getfield 10, 3) := by decide +kernel
theorem dX6_fold_4 : decode cX6_fold 4 = .ok (.iload_n 1, 1) := by decide +kernel
theorem dX6_fold_5 : decode cX6_fold 5 = .ok (.invokevirtual 175, 3) := by decide +kernel
theorem dX6_fold_8 : decode cX6_fold 8 = .ok (.ifCond .eq 14, 3) := by decide +kernel
theorem dX6_fold_11 : decode cX6_fold 11 = .ok (.aload_n 0, 1) := by decide +kernel
theorem dX6_fold_12 : decode cX6_fold 12 = .ok (.getfield 10, 3) := by decide +kernel
theorem dX6_fold_15 : decode cX6_fold 15 = .ok (.iload_n 2, 1) := by decide +kernel
theorem dX6_fold_16 : decode cX6_fold 16 = .ok (.invokevirtual 178, 3) := by decide +kernel
theorem dX6_fold_19 : decode cX6_fold 19 = .ok (.ifCond .ne 5, 3) := by decide +kernel
theorem dX6_fold_22 : decode cX6_fold 22 = .ok (.iconst (-1), 1) := by decide +kernel
theorem dX6_fold_23 : decode cX6_fold 23 = .ok (.ireturn, 1) := by decide +kernel
theorem dX6_fold_24 : decode cX6_fold 24 = .ok (.aload_n 0, 1) := by decide +kernel
theorem dX6_fold_25 : decode cX6_fold 25 = .ok (.getfield 10, 3) := by decide +kernel
theorem dX6_fold_28 : decode cX6_fold 28 = .ok (.iload_n 1, 1) := by decide +kernel
theorem dX6_fold_29 : decode cX6_fold 29 = .ok (.iload_n 2, 1) := by decide +kernel
theorem dX6_fold_30 : decode cX6_fold 30 = .ok (.invokevirtual 181, 3) := by decide +kernel
theorem dX6_fold_33 : decode cX6_fold 33 = .ok (.ifCond .eq 7, 3) := by decide +kernel
theorem dX6_fold_36 : decode cX6_fold 36 = .ok (.iconst 1, 1) := by decide +kernel
theorem dX6_fold_37 : decode cX6_fold 37 = .ok (.goto 4, 3) := by decide +kernel
theorem dX6_fold_40 : decode cX6_fold 40 = .ok (.iconst 0, 1) := by decide +kernel
theorem dX6_fold_41 : decode cX6_fold 41 = .ok (.istore 4, 2) := by decide +kernel
theorem dX6_fold_43 : decode cX6_fold 43 = .ok (.aload_n 0, 1) := by decide +kernel
theorem dX6_fold_44 : decode cX6_fold 44 = .ok (.getfield 10, 3) := by decide +kernel
theorem dX6_fold_47 : decode cX6_fold 47 = .ok (.iload_n 1, 1) := by decide +kernel
theorem dX6_fold_48 : decode cX6_fold 48 = .ok (.iload_n 2, 1) := by decide +kernel
theorem dX6_fold_49 : decode cX6_fold 49 = .ok (.iload_n 3, 1) := by decide +kernel
theorem dX6_fold_50 : decode cX6_fold 50 = .ok (.invokevirtual 184, 3) := by decide +kernel
theorem dX6_fold_53 : decode cX6_fold 53 = .ok (.iload 4, 2) := by decide +kernel
theorem dX6_fold_55 : decode cX6_fold 55 = .ok (.ireturn, 1) := by decide +kernel
theorem dX6_wed_0 : decode cX6_wed 0 = .ok (.aload_n 0, 1) := by decide +kernel
theorem dX6_wed_1 : decode cX6_wed 1 = .ok (.getfield 10, 3) := by decide +kernel
theorem dX6_wed_4 : decode cX6_wed 4 = .ok (.iload_n 1, 1) := by decide +kernel
theorem dX6_wed_5 : decode cX6_wed 5 = .ok (.invokevirtual 175, 3) := by decide +kernel
theorem dX6_wed_8 : decode cX6_wed 8 = .ok (.ifCond .eq 14, 3) := by decide +kernel
theorem dX6_wed_11 : decode cX6_wed 11 = .ok (.aload_n 0, 1) := by decide +kernel
theorem dX6_wed_12 : decode cX6_wed 12 = .ok (.getfield 10, 3) := by decide +kernel
theorem dX6_wed_15 : decode cX6_wed 15 = .ok (.iload_n 2, 1) := by decide +kernel
theorem dX6_wed_16 : decode cX6_wed 16 = .ok (.invokevirtual 178, 3) := by decide +kernel
theorem dX6_wed_19 : decode cX6_wed 19 = .ok (.ifCond .ne 5, 3) := by decide +kernel
theorem dX6_wed_22 : decode cX6_wed 22 = .ok (.iconst (-1), 1) := by decide +kernel
theorem dX6_wed_23 : decode cX6_wed 23 = .ok (.ireturn, 1) := by decide +kernel
theorem dX6_wed_24 : decode cX6_wed 24 = .ok (.aload_n 0, 1) := by decide +kernel
theorem dX6_wed_25 : decode cX6_wed 25 = .ok (.getfield 10, 3) := by decide +kernel
theorem dX6_wed_28 : decode cX6_wed 28 = .ok (.iload_n 1, 1) := by decide +kernel
theorem dX6_wed_29 : decode cX6_wed 29 = .ok (.invokevirtual 188, 3) := by decide +kernel
theorem dX6_wed_32 : decode cX6_wed 32 = .ok (.ifCond .ne 26, 3) := by decide +kernel
theorem dX6_wed_35 : decode cX6_wed 35 = .ok (.aload_n 0, 1) := by decide +kernel
theorem dX6_wed_36 : decode cX6_wed 36 = .ok (.getfield 10, 3) := by decide +kernel
theorem dX6_wed_39 : decode cX6_wed 39 = .ok (.iload_n 2, 1) := by decide +kernel
theorem dX6_wed_40 : decode cX6_wed 40 = .ok (.invokevirtual 188, 3) := by decide +kernel
theorem dX6_wed_43 : decode cX6_wed 43 = .ok (.ifCond .ne 15, 3) := by decide +kernel
theorem dX6_wed_46 : decode cX6_wed 46 = .ok (.aload_n 0, 1) := by decide +kernel
theorem dX6_wed_47 : decode cX6_wed 47 = .ok (.getfield 10, 3) := by decide +kernel
theorem dX6_wed_50 : decode cX6_wed 50 = .ok (.iload_n 1, 1) := by decide +kernel
theorem dX6_wed_51 : decode cX6_wed 51 = .ok (.iload_n 2, 1) := by decide +kernel
theorem dX6_wed_52 : decode cX6_wed 52 = .ok (.invokevirtual 181, 3) := by decide +kernel
theorem dX6_wed_55 : decode cX6_wed 55 = .ok (.ifCond .eq 6, 3) := by decide +kernel
theorem dX6_wed_58 : decode cX6_wed 58 = .ok (.bipush (-2), 2) := by decide +kernel
theorem dX6_wed_60 : decode cX6_wed 60 = .ok (.ireturn, 1) := by decide +kernel
theorem dX6_wed_61 : decode cX6_wed 61 = .ok (.aload_n 0, 1) := by decide +kernel
theorem dX6_wed_62 : decode cX6_wed 62 = .ok (.getfield 10, 3) := by decide +kernel
theorem dX6_wed_65 : decode cX6_wed 65 = .ok (.iload_n 1, 1) := by decide +kernel
theorem dX6_wed_66 : decode cX6_wed 66 = .ok (.iload_n 2, 1) := by decide +kernel
theorem dX6_wed_67 : decode cX6_wed 67 = .ok (.invokevirtual 191, 3) := by decide +kernel
theorem dX6_wed_70 : decode cX6_wed 70 = .ok (.aload_n 0, 1) := by decide +kernel
theorem dX6_wed_71 : decode cX6_wed 71 = .ok (.getfield 10, 3) := by decide +kernel
theorem dX6_wed_74 : decode cX6_wed 74 = .ok (.invokevirtual 195, 3) := by decide +kernel
theorem dX6_wed_77 : decode cX6_wed 77 = .ok (.ireturn, 1) := by decide +kernel
theorem dX6_part_0 : decode cX6_part 0 = .ok (.aload_n 0, 1) := by decide +kernel
theorem dX6_part_1 : decode cX6_part 1 = .ok (.getfield 10, 3) := by decide +kernel
theorem dX6_part_4 : decode cX6_part 4 = .ok (.iload_n 1, 1) := by decide +kernel
theorem dX6_part_5 : decode cX6_part 5 = .ok (.invokevirtual 113, 3) := by decide +kernel
theorem dX6_part_8 : decode cX6_part 8 = .ok (.ifCond .ne 5, 3) := by decide +kernel
theorem dX6_part_11 : decode cX6_part 11 = .ok (.iconst (-1), 1) := by decide +kernel
theorem dX6_part_12 : decode cX6_part 12 = .ok (.ireturn, 1) := by decide +kernel
theorem dX6_part_13 : decode cX6_part 13 = .ok (.aload_n 0, 1) := by decide +kernel
theorem dX6_part_14 : decode cX6_part 14 = .ok (.getfield 10, 3) := by decide +kernel
theorem dX6_part_17 : decode cX6_part 17 = .ok (.getfield 131, 3) := by decide +kernel
theorem dX6_part_20 : decode cX6_part 20 = .ok (.iload_n 1, 1) := by decide +kernel
theorem dX6_part_21 : decode cX6_part 21 = .ok (.iaload, 1) := by decide +kernel
theorem dX6_part_22 : decode cX6_part 22 = .ok (.istore_n 2, 1) := by decide +kernel
theorem dX6_part_23 : decode cX6_part 23 = .ok (.iload_n 2, 1) := by decide +kernel
theorem dX6_part_24 : decode cX6_part 24 = .ok (.iconst (-1), 1) := by decide +kernel
theorem dX6_part_25 : decode cX6_part 25 = .ok (.if_icmp .ne 6, 3) := by decide +kernel
theorem dX6_part_28 : decode cX6_part 28 = .ok (.bipush (-2), 2) := by decide +kernel
theorem dX6_part_30 : decode cX6_part 30 = .ok (.ireturn, 1) := by decide +kernel
theorem dX6_part_31 : decode cX6_part 31 = .ok (.aload_n 0, 1) := by decide +kernel
theorem dX6_part_32 : decode cX6_part 32 = .ok (.getfield 10, 3) := by decide +kernel
theorem dX6_part_35 : decode cX6_part 35 = .ok (.iload_n 1, 1) := by decide +kernel
theorem dX6_part_36 : decode cX6_part 36 = .ok (.iload_n 2, 1) := by decide +kernel
theorem dX6_part_37 : decode cX6_part 37 = .ok (.invokevirtual 198, 3) := by decide +kernel
theorem dX6_part_40 : decode cX6_part 40 = .ok (.iload_n 2, 1) := by decide +kernel
theorem dX6_part_41 : decode cX6_part 41 = .ok (.ireturn, 1) := by decide +kernel
theorem dX6_asked_0 : decode cX6_asked 0 = .ok (.iload_n 1, 1) := by decide +kernel
theorem dX6_asked_1 : decode cX6_asked 1 = .ok (.ifCond .lt 19, 3) := by decide +kernel
theorem dX6_asked_4 : decode cX6_asked 4 = .ok (.iload_n 1, 1) := by decide +kernel
theorem dX6_asked_5 : decode cX6_asked 5 = .ok (.iconst 1, 1) := by decide +kernel
theorem dX6_asked_6 : decode cX6_asked 6 = .ok (.if_icmp .gt 14, 3) := by decide +kernel
theorem dX6_asked_9 : decode cX6_asked 9 = .ok (.aload_n 0, 1) := by decide +kernel
theorem dX6_asked_10 : decode cX6_asked 10 = .ok (.getfield 10, 3) := by decide +kernel
theorem dX6_asked_13 : decode cX6_asked 13 = .ok (.iload_n 2, 1) := by decide +kernel
theorem dX6_asked_14 : decode cX6_asked 14 = .ok (.invokevirtual 113, 3) := by decide +kernel
theorem dX6_asked_17 : decode cX6_asked 17 = .ok (.ifCond .ne 5, 3) := by decide +kernel
theorem dX6_asked_20 : decode cX6_asked 20 = .ok (.iconst (-1), 1) := by decide +kernel
theorem dX6_asked_21 : decode cX6_asked 21 = .ok (.ireturn, 1) := by decide +kernel
theorem dX6_asked_22 : decode cX6_asked 22 = .ok (.aload_n 0, 1) := by decide +kernel
theorem dX6_asked_23 : decode cX6_asked 23 = .ok (.getfield 44, 3) := by decide +kernel
theorem dX6_asked_26 : decode cX6_asked 26 = .ok (.aload_n 0, 1) := by decide +kernel
theorem dX6_asked_27 : decode cX6_asked 27 = .ok (.getfield 10, 3) := by decide +kernel
theorem dX6_asked_30 : decode cX6_asked 30 = .ok (.iload_n 1, 1) := by decide +kernel
theorem dX6_asked_31 : decode cX6_asked 31 = .ok (.invokevirtual 201, 3) := by decide +kernel
theorem dX6_asked_34 : decode cX6_asked 34 = .ok (.aload_n 0, 1) := by decide +kernel
theorem dX6_asked_35 : decode cX6_asked 35 = .ok (.getfield 44, 3) := by decide +kernel
theorem dX6_asked_38 : decode cX6_asked 38 = .ok (.getfield 205, 3) := by decide +kernel
theorem dX6_asked_41 : decode cX6_asked 41 = .ok (.iload_n 2, 1) := by decide +kernel
theorem dX6_asked_42 : decode cX6_asked 42 = .ok (.iaload, 1) := by decide +kernel
theorem dX6_asked_43 : decode cX6_asked 43 = .ok (.invokestatic 134, 3) := by decide +kernel
theorem dX6_asked_46 : decode cX6_asked 46 = .ok (.ireturn, 1) := by decide +kernel
theorem dX6_sum_0 : decode cX6_sum 0 = .ok (.iload_n 1, 1) := by decide +kernel
theorem dX6_sum_1 : decode cX6_sum 1 = .ok (.ifCond .lt 8, 3) := by decide +kernel
theorem dX6_sum_4 : decode cX6_sum 4 = .ok (.iload_n 1, 1) := by decide +kernel
theorem dX6_sum_5 : decode cX6_sum 5 = .ok (.iconst 3, 1) := by decide +kernel
theorem dX6_sum_6 : decode cX6_sum 6 = .ok (.if_icmp .le 5, 3) := by decide +kernel
theorem dX6_sum_9 : decode cX6_sum 9 = .ok (.iconst (-1), 1) := by decide +kernel
theorem dX6_sum_10 : decode cX6_sum 10 = .ok (.ireturn, 1) := by decide +kernel
theorem dX6_sum_11 : decode cX6_sum 11 = .ok (.aload_n 0, 1) := by decide +kernel
theorem dX6_sum_12 : decode cX6_sum 12 = .ok (.getfield 44, 3) := by decide +kernel
theorem dX6_sum_15 : decode cX6_sum 15 = .ok (.aload_n 0, 1) := by decide +kernel
theorem dX6_sum_16 : decode cX6_sum 16 = .ok (.getfield 10, 3) := by decide +kernel
theorem dX6_sum_19 : decode cX6_sum 19 = .ok (.iload_n 1, 1) := by decide +kernel
theorem dX6_sum_20 : decode cX6_sum 20 = .ok (.iconst 2, 1) := by decide +kernel
theorem dX6_sum_21 : decode cX6_sum 21 = .ok (.idiv, 1) := by decide +kernel
theorem dX6_sum_22 : decode cX6_sum 22 = .ok (.invokevirtual 201, 3) := by decide +kernel
theorem dX6_sum_25 : decode cX6_sum 25 = .ok (.iload_n 1, 1) := by decide +kernel
theorem dX6_sum_26 : decode cX6_sum 26 = .ok (.iconst 2, 1) := by decide +kernel
theorem dX6_sum_27 : decode cX6_sum 27 = .ok (.irem, 1) := by decide +kernel
theorem dX6_sum_28 : decode cX6_sum 28 = .ok (.ifCond .ne 13, 3) := by decide +kernel
theorem dX6_sum_31 : decode cX6_sum 31 = .ok (.aload_n 0, 1) := by decide +kernel
theorem dX6_sum_32 : decode cX6_sum 32 = .ok (.getfield 44, 3) := by decide +kernel
theorem dX6_sum_35 : decode cX6_sum 35 = .ok (.invokevirtual 208, 3) := by decide +kernel
theorem dX6_sum_38 : decode cX6_sum 38 = .ok (.goto 10, 3) := by decide +kernel
theorem dX6_sum_41 : decode cX6_sum 41 = .ok (.aload_n 0, 1) := by decide +kernel
theorem dX6_sum_42 : decode cX6_sum 42 = .ok (.getfield 44, 3) := by decide +kernel
theorem dX6_sum_45 : decode cX6_sum 45 = .ok (.invokevirtual 211, 3) := by decide +kernel
theorem dX6_sum_48 : decode cX6_sum 48 = .ok (.ireturn, 1) := by decide +kernel
theorem dX6_hold_0 : decode cX6_hold 0 = .ok (.iload_n 1, 1) := by decide +kernel
theorem dX6_hold_1 : decode cX6_hold 1 = .ok (.bipush 10, 2) := by decide +kernel
theorem dX6_hold_3 : decode cX6_hold 3 = .ok (.isub, 1) := by decide +kernel
theorem dX6_hold_4 : decode cX6_hold 4 = .ok (.istore_n 2, 1) := by decide +kernel
theorem dX6_hold_5 : decode cX6_hold 5 = .ok (.iload_n 1, 1) := by decide +kernel
theorem dX6_hold_6 : decode cX6_hold 6 = .ok (.ifCond .eq 16, 3) := by decide +kernel
theorem dX6_hold_9 : decode cX6_hold 9 = .ok (.aload_n 0, 1) := by decide +kernel
theorem dX6_hold_10 : decode cX6_hold 10 = .ok (.getfield 10, 3) := by decide +kernel
theorem dX6_hold_13 : decode cX6_hold 13 = .ok (.iload_n 2, 1) := by decide +kernel
theorem dX6_hold_14 : decode cX6_hold 14 = .ok (.invokevirtual 113, 3) := by decide +kernel
theorem dX6_hold_17 : decode cX6_hold 17 = .ok (.ifCond .ne 5, 3) := by decide +kernel
theorem dX6_hold_20 : decode cX6_hold 20 = .ok (.iconst (-1), 1) := by decide +kernel
theorem dX6_hold_21 : decode cX6_hold 21 = .ok (.ireturn, 1) := by decide +kernel
theorem dX6_hold_22 : decode cX6_hold 22 = .ok (.aload_n 0, 1) := by decide +kernel
theorem dX6_hold_23 : decode cX6_hold 23 = .ok (.getfield 44, 3) := by decide +kernel
theorem dX6_hold_26 : decode cX6_hold 26 = .ok (.aload_n 0, 1) := by decide +kernel
theorem dX6_hold_27 : decode cX6_hold 27 = .ok (.getfield 10, 3) := by decide +kernel
theorem dX6_hold_30 : decode cX6_hold 30 = .ok (.iconst 0, 1) := by decide +kernel
theorem dX6_hold_31 : decode cX6_hold 31 = .ok (.invokevirtual 201, 3) := by decide +kernel
theorem dX6_hold_34 : decode cX6_hold 34 = .ok (.iload_n 1, 1) := by decide +kernel
theorem dX6_hold_35 : decode cX6_hold 35 = .ok (.ifCond .ne 13, 3) := by decide +kernel
theorem dX6_hold_38 : decode cX6_hold 38 = .ok (.aload_n 0, 1) := by decide +kernel
theorem dX6_hold_39 : decode cX6_hold 39 = .ok (.getfield 44, 3) := by decide +kernel
theorem dX6_hold_42 : decode cX6_hold 42 = .ok (.invokevirtual 214, 3) := by decide +kernel
theorem dX6_hold_45 : decode cX6_hold 45 = .ok (.goto 20, 3) := by decide +kernel
theorem dX6_hold_48 : decode cX6_hold 48 = .ok (.aload_n 0, 1) := by decide +kernel
theorem dX6_hold_49 : decode cX6_hold 49 = .ok (.getfield 44, 3) := by decide +kernel
theorem dX6_hold_52 : decode cX6_hold 52 = .ok (.iload_n 2, 1) := by decide +kernel
theorem dX6_hold_53 : decode cX6_hold 53 = .ok (.aload_n 0, 1) := by decide +kernel
theorem dX6_hold_54 : decode cX6_hold 54 = .ok (.getfield 44, 3) := by decide +kernel
theorem dX6_hold_57 : decode cX6_hold 57 = .ok (.getfield 205, 3) := by decide +kernel
theorem dX6_hold_60 : decode cX6_hold 60 = .ok (.iload_n 2, 1) := by decide +kernel
theorem dX6_hold_61 : decode cX6_hold 61 = .ok (.iaload, 1) := by decide +kernel
theorem dX6_hold_62 : decode cX6_hold 62 = .ok (.invokevirtual 217, 3) := by decide +kernel
theorem dX6_hold_65 : decode cX6_hold 65 = .ok (.ireturn, 1) := by decide +kernel
theorem dX6_most_0 : decode cX6_most 0 = .ok (.iload_n 1, 1) := by decide +kernel
theorem dX6_most_1 : decode cX6_most 1 = .ok (.bipush 10, 2) := by decide +kernel
theorem dX6_most_3 : decode cX6_most 3 = .ok (.isub, 1) := by decide +kernel
theorem dX6_most_4 : decode cX6_most 4 = .ok (.istore_n 2, 1) := by decide +kernel
theorem dX6_most_5 : decode cX6_most 5 = .ok (.iload_n 1, 1) := by decide +kernel
theorem dX6_most_6 : decode cX6_most 6 = .ok (.ifCond .eq 16, 3) := by decide +kernel
theorem dX6_most_9 : decode cX6_most 9 = .ok (.aload_n 0, 1) := by decide +kernel
theorem dX6_most_10 : decode cX6_most 10 = .ok (.getfield 10, 3) := by decide +kernel
theorem dX6_most_13 : decode cX6_most 13 = .ok (.iload_n 2, 1) := by decide +kernel
theorem dX6_most_14 : decode cX6_most 14 = .ok (.invokevirtual 175, 3) := by decide +kernel
theorem dX6_most_17 : decode cX6_most 17 = .ok (.ifCond .ne 5, 3) := by decide +kernel
theorem dX6_most_20 : decode cX6_most 20 = .ok (.iconst (-1), 1) := by decide +kernel
theorem dX6_most_21 : decode cX6_most 21 = .ok (.ireturn, 1) := by decide +kernel
theorem dX6_most_22 : decode cX6_most 22 = .ok (.aload_n 0, 1) := by decide +kernel
theorem dX6_most_23 : decode cX6_most 23 = .ok (.getfield 44, 3) := by decide +kernel
theorem dX6_most_26 : decode cX6_most 26 = .ok (.aload_n 0, 1) := by decide +kernel
theorem dX6_most_27 : decode cX6_most 27 = .ok (.getfield 10, 3) := by decide +kernel
theorem dX6_most_30 : decode cX6_most 30 = .ok (.invokevirtual 152, 3) := by decide +kernel
theorem dX6_most_33 : decode cX6_most 33 = .ok (.aload_n 0, 1) := by decide +kernel
theorem dX6_most_34 : decode cX6_most 34 = .ok (.getfield 44, 3) := by decide +kernel
theorem dX6_most_37 : decode cX6_most 37 = .ok (.invokevirtual 220, 3) := by decide +kernel
theorem dX6_most_40 : decode cX6_most 40 = .ok (.istore_n 3, 1) := by decide +kernel
theorem dX6_most_41 : decode cX6_most 41 = .ok (.iload_n 1, 1) := by decide +kernel
theorem dX6_most_42 : decode cX6_most 42 = .ok (.ifCond .ne 7, 3) := by decide +kernel
theorem dX6_most_45 : decode cX6_most 45 = .ok (.iload_n 3, 1) := by decide +kernel
theorem dX6_most_46 : decode cX6_most 46 = .ok (.goto 15, 3) := by decide +kernel
theorem dX6_most_49 : decode cX6_most 49 = .ok (.aload_n 0, 1) := by decide +kernel
theorem dX6_most_50 : decode cX6_most 50 = .ok (.getfield 44, 3) := by decide +kernel
theorem dX6_most_53 : decode cX6_most 53 = .ok (.getfield 223, 3) := by decide +kernel
theorem dX6_most_56 : decode cX6_most 56 = .ok (.iload_n 2, 1) := by decide +kernel
theorem dX6_most_57 : decode cX6_most 57 = .ok (.iaload, 1) := by decide +kernel
theorem dX6_most_58 : decode cX6_most 58 = .ok (.invokestatic 134, 3) := by decide +kernel
theorem dX6_most_61 : decode cX6_most 61 = .ok (.ireturn, 1) := by decide +kernel
theorem dX6_quarrel_0 : decode cX6_quarrel 0 = .ok (.iload_n 1, 1) := by decide +kernel
theorem dX6_quarrel_1 : decode cX6_quarrel 1 = .ok (.ifCond .lt 8, 3) := by decide +kernel
theorem dX6_quarrel_4 : decode cX6_quarrel 4 = .ok (.iload_n 1, 1) := by decide +kernel
theorem dX6_quarrel_5 : decode cX6_quarrel 5 = .ok (.iconst 1, 1) := by decide +kernel
theorem dX6_quarrel_6 : decode cX6_quarrel 6 = .ok (.if_icmp .le 5, 3) := by decide +kernel
theorem dX6_quarrel_9 : decode cX6_quarrel 9 = .ok (.iconst (-1), 1) := by decide +kernel
theorem dX6_quarrel_10 : decode cX6_quarrel 10 = .ok (.ireturn, 1) := by decide +kernel
theorem dX6_quarrel_11 : decode cX6_quarrel 11 = .ok (.aload_n 0, 1) := by decide +kernel
theorem dX6_quarrel_12 : decode cX6_quarrel 12 = .ok (.getfield 44, 3) := by decide +kernel
theorem dX6_quarrel_15 : decode cX6_quarrel 15 = .ok (.aload_n 0, 1) := by decide +kernel
theorem dX6_quarrel_16 : decode cX6_quarrel 16 = .ok (.getfield 10, 3) := by decide +kernel
theorem dX6_quarrel_19 : decode cX6_quarrel 19 = .ok (.invokevirtual 152, 3) := by decide +kernel
theorem dX6_quarrel_22 : decode cX6_quarrel 22 = .ok (.aload_n 0, 1) := by decide +kernel
theorem dX6_quarrel_23 : decode cX6_quarrel 23 = .ok (.getfield 44, 3) := by decide +kernel
theorem dX6_quarrel_26 : decode cX6_quarrel 26 = .ok (.aload_n 0, 1) := by decide +kernel
theorem dX6_quarrel_27 : decode cX6_quarrel 27 = .ok (.getfield 10, 3) := by decide +kernel
theorem dX6_quarrel_30 : decode cX6_quarrel 30 = .ok (.getfield 131, 3) := by decide +kernel
theorem dX6_quarrel_33 : decode cX6_quarrel 33 = .ok (.invokevirtual 226, 3) := by decide +kernel
theorem dX6_quarrel_36 : decode cX6_quarrel 36 = .ok (.aload_n 0, 1) := by decide +kernel
theorem dX6_quarrel_37 : decode cX6_quarrel 37 = .ok (.getfield 44, 3) := by decide +kernel
theorem dX6_quarrel_40 : decode cX6_quarrel 40 = .ok (.invokevirtual 230, 3) := by decide +kernel
theorem dX6_quarrel_43 : decode cX6_quarrel 43 = .ok (.istore_n 2, 1) := by decide +kernel
theorem dX6_quarrel_44 : decode cX6_quarrel 44 = .ok (.iload_n 1, 1) := by decide +kernel
theorem dX6_quarrel_45 : decode cX6_quarrel 45 = .ok (.iconst 1, 1) := by decide +kernel
theorem dX6_quarrel_46 : decode cX6_quarrel 46 = .ok (.if_icmp .ne 10, 3) := by decide +kernel
theorem dX6_quarrel_49 : decode cX6_quarrel 49 = .ok (.iload_n 2, 1) := by decide +kernel
theorem dX6_quarrel_50 : decode cX6_quarrel 50 = .ok (.invokestatic 134, 3) := by decide +kernel
theorem dX6_quarrel_53 : decode cX6_quarrel 53 = .ok (.goto 10, 3) := by decide +kernel
theorem dX6_quarrel_56 : decode cX6_quarrel 56 = .ok (.aload_n 0, 1) := by decide +kernel
theorem dX6_quarrel_57 : decode cX6_quarrel 57 = .ok (.getfield 44, 3) := by decide +kernel
theorem dX6_quarrel_60 : decode cX6_quarrel 60 = .ok (.invokevirtual 233, 3) := by decide +kernel
theorem dX6_quarrel_63 : decode cX6_quarrel 63 = .ok (.ireturn, 1) := by decide +kernel
theorem dX6_alone_0 : decode cX6_alone 0 = .ok (.aload_n 0, 1) := by decide +kernel
theorem dX6_alone_1 : decode cX6_alone 1 = .ok (.getfield 44, 3) := by decide +kernel
theorem dX6_alone_4 : decode cX6_alone 4 = .ok (.aload_n 0, 1) := by decide +kernel
theorem dX6_alone_5 : decode cX6_alone 5 = .ok (.getfield 10, 3) := by decide +kernel
theorem dX6_alone_8 : decode cX6_alone 8 = .ok (.iconst 0, 1) := by decide +kernel
theorem dX6_alone_9 : decode cX6_alone 9 = .ok (.invokevirtual 201, 3) := by decide +kernel
theorem dX6_alone_12 : decode cX6_alone 12 = .ok (.aload_n 0, 1) := by decide +kernel
theorem dX6_alone_13 : decode cX6_alone 13 = .ok (.getfield 44, 3) := by decide +kernel
theorem dX6_alone_16 : decode cX6_alone 16 = .ok (.getfield 236, 3) := by decide +kernel
theorem dX6_alone_19 : decode cX6_alone 19 = .ok (.aload_n 0, 1) := by decide +kernel
theorem dX6_alone_20 : decode cX6_alone 20 = .ok (.getfield 44, 3) := by decide +kernel
theorem dX6_alone_23 : decode cX6_alone 23 = .ok (.invokevirtual 239, 3) := by decide +kernel
theorem dX6_alone_26 : decode cX6_alone 26 = .ok (.iconst (-1), 1) := by decide +kernel
theorem dX6_alone_27 : decode cX6_alone 27 = .ok (.ixor, 1) := by decide +kernel
theorem dX6_alone_28 : decode cX6_alone 28 = .ok (.iand, 1) := by decide +kernel
theorem dX6_alone_29 : decode cX6_alone 29 = .ok (.ireturn, 1) := by decide +kernel
theorem dX6_years_0 : decode cX6_years 0 = .ok (.iload_n 1, 1) := by decide +kernel
theorem dX6_years_1 : decode cX6_years 1 = .ok (.ifCond .lt 9, 3) := by decide +kernel
theorem dX6_years_4 : decode cX6_years 4 = .ok (.iload_n 1, 1) := by decide +kernel
theorem dX6_years_5 : decode cX6_years 5 = .ok (.bipush 20, 2) := by decide +kernel
theorem dX6_years_7 : decode cX6_years 7 = .ok (.if_icmp .le 5, 3) := by decide +kernel
theorem dX6_years_10 : decode cX6_years 10 = .ok (.iconst (-1), 1) := by decide +kernel
theorem dX6_years_11 : decode cX6_years 11 = .ok (.ireturn, 1) := by decide +kernel
theorem dX6_years_12 : decode cX6_years 12 = .ok (.aload_n 0, 1) := by decide +kernel
theorem dX6_years_13 : decode cX6_years 13 = .ok (.getfield 10, 3) := by decide +kernel
theorem dX6_years_16 : decode cX6_years 16 = .ok (.getfield 110, 3) := by decide +kernel
theorem dX6_years_19 : decode cX6_years 19 = .ok (.iload_n 1, 1) := by decide +kernel
theorem dX6_years_20 : decode cX6_years 20 = .ok (.iadd, 1) := by decide +kernel
theorem dX6_years_21 : decode cX6_years 21 = .ok (.sipush 1000, 3) := by decide +kernel
theorem dX6_years_24 : decode cX6_years 24 = .ok (.if_icmp .lt 6, 3) := by decide +kernel
theorem dX6_years_27 : decode cX6_years 27 = .ok (.bipush (-3), 2) := by decide +kernel
theorem dX6_years_29 : decode cX6_years 29 = .ok (.ireturn, 1) := by decide +kernel
theorem dX6_years_30 : decode cX6_years 30 = .ok (.iconst 0, 1) := by decide +kernel
theorem dX6_years_31 : decode cX6_years 31 = .ok (.istore_n 2, 1) := by decide +kernel
theorem dX6_years_32 : decode cX6_years 32 = .ok (.iload_n 2, 1) := by decide +kernel
theorem dX6_years_33 : decode cX6_years 33 = .ok (.iload_n 1, 1) := by decide +kernel
theorem dX6_years_34 : decode cX6_years 34 = .ok (.if_icmp .ge 16, 3) := by decide +kernel
theorem dX6_years_37 : decode cX6_years 37 = .ok (.aload_n 0, 1) := by decide +kernel
theorem dX6_years_38 : decode cX6_years 38 = .ok (.getfield 10, 3) := by decide +kernel
theorem dX6_years_41 : decode cX6_years 41 = .ok (.invokevirtual 242, 3) := by decide +kernel
theorem dX6_years_44 : decode cX6_years 44 = .ok (.iinc 2 1, 3) := by decide +kernel
theorem dX6_years_47 : decode cX6_years 47 = .ok (.goto (-15), 3) := by decide +kernel
theorem dX6_years_50 : decode cX6_years 50 = .ok (.aload_n 0, 1) := by decide +kernel
theorem dX6_years_51 : decode cX6_years 51 = .ok (.getfield 10, 3) := by decide +kernel
theorem dX6_years_54 : decode cX6_years 54 = .ok (.getfield 110, 3) := by decide +kernel
theorem dX6_years_57 : decode cX6_years 57 = .ok (.ireturn, 1) := by decide +kernel
theorem dX6_alike_0 : decode cX6_alike 0 = .ok (.aload_n 0, 1) := by decide +kernel
theorem dX6_alike_1 : decode cX6_alike 1 = .ok (.getfield 16, 3) := by decide +kernel
theorem dX6_alike_4 : decode cX6_alike 4 = .ok (.aload_n 0, 1) := by decide +kernel
theorem dX6_alike_5 : decode cX6_alike 5 = .ok (.getfield 10, 3) := by decide +kernel
theorem dX6_alike_8 : decode cX6_alike 8 = .ok (.invokevirtual 86, 3) := by decide +kernel
theorem dX6_alike_11 : decode cX6_alike 11 = .ok (.iconst 0, 1) := by decide +kernel
theorem dX6_alike_12 : decode cX6_alike 12 = .ok (.istore_n 1, 1) := by decide +kernel
theorem dX6_alike_13 : decode cX6_alike 13 = .ok (.iload_n 1, 1) := by decide +kernel
theorem dX6_alike_14 : decode cX6_alike 14 = .ok (.bipush 20, 2) := by decide +kernel
theorem dX6_alike_16 : decode cX6_alike 16 = .ok (.if_icmp .gt 28, 3) := by decide +kernel
theorem dX6_alike_19 : decode cX6_alike 19 = .ok (.aload_n 0, 1) := by decide +kernel
theorem dX6_alike_20 : decode cX6_alike 20 = .ok (.getfield 16, 3) := by decide +kernel
theorem dX6_alike_23 : decode cX6_alike 23 = .ok (.invokevirtual 245, 3) := by decide +kernel
theorem dX6_alike_26 : decode cX6_alike 26 = .ok (.ifCond .eq 5, 3) := by decide +kernel
theorem dX6_alike_29 : decode cX6_alike 29 = .ok (.iload_n 1, 1) := by decide +kernel
theorem dX6_alike_30 : decode cX6_alike 30 = .ok (.ireturn, 1) := by decide +kernel
theorem dX6_alike_31 : decode cX6_alike 31 = .ok (.aload_n 0, 1) := by decide +kernel
theorem dX6_alike_32 : decode cX6_alike 32 = .ok (.getfield 16, 3) := by decide +kernel
theorem dX6_alike_35 : decode cX6_alike 35 = .ok (.invokevirtual 242, 3) := by decide +kernel
theorem dX6_alike_38 : decode cX6_alike 38 = .ok (.iinc 1 1, 3) := by decide +kernel
theorem dX6_alike_41 : decode cX6_alike 41 = .ok (.goto (-28), 3) := by decide +kernel
theorem dX6_alike_44 : decode cX6_alike 44 = .ok (.bipush (-4), 2) := by decide +kernel
theorem dX6_alike_46 : decode cX6_alike 46 = .ok (.ireturn, 1) := by decide +kernel
theorem dX6_near_0 : decode cX6_near 0 = .ok (.iload_n 1, 1) := by decide +kernel
theorem dX6_near_1 : decode cX6_near 1 = .ok (.ifCond .lt 8, 3) := by decide +kernel
theorem dX6_near_4 : decode cX6_near 4 = .ok (.iload_n 1, 1) := by decide +kernel
theorem dX6_near_5 : decode cX6_near 5 = .ok (.iconst 1, 1) := by decide +kernel
theorem dX6_near_6 : decode cX6_near 6 = .ok (.if_icmp .le 5, 3) := by decide +kernel
theorem dX6_near_9 : decode cX6_near 9 = .ok (.iconst (-1), 1) := by decide +kernel
theorem dX6_near_10 : decode cX6_near 10 = .ok (.ireturn, 1) := by decide +kernel
theorem dX6_near_11 : decode cX6_near 11 = .ok (.bipush (-4), 2) := by decide +kernel
theorem dX6_near_13 : decode cX6_near 13 = .ok (.istore_n 2, 1) := by decide +kernel
theorem dX6_near_14 : decode cX6_near 14 = .ok (.bipush (-4), 2) := by decide +kernel
theorem dX6_near_16 : decode cX6_near 16 = .ok (.istore_n 3, 1) := by decide +kernel
theorem dX6_near_17 : decode cX6_near 17 = .ok (.iconst 0, 1) := by decide +kernel
theorem dX6_near_18 : decode cX6_near 18 = .ok (.istore 4, 2) := by decide +kernel
theorem dX6_near_20 : decode cX6_near 20 = .ok (.iload 4, 2) := by decide +kernel
theorem dX6_near_22 : decode cX6_near 22 = .ok (.bipush 8, 2) := by decide +kernel
theorem dX6_near_24 : decode cX6_near 24 = .ok (.if_icmp .ge 92, 3) := by decide +kernel
theorem dX6_near_27 : decode cX6_near 27 = .ok (.iload 4, 2) := by decide +kernel
theorem dX6_near_29 : decode cX6_near 29 = .ok (.iconst 1, 1) := by decide +kernel
theorem dX6_near_30 : decode cX6_near 30 = .ok (.iadd, 1) := by decide +kernel
theorem dX6_near_31 : decode cX6_near 31 = .ok (.istore 5, 2) := by decide +kernel
theorem dX6_near_33 : decode cX6_near 33 = .ok (.iload 5, 2) := by decide +kernel
theorem dX6_near_35 : decode cX6_near 35 = .ok (.bipush 8, 2) := by decide +kernel
theorem dX6_near_37 : decode cX6_near 37 = .ok (.if_icmp .ge 73, 3) := by decide +kernel
theorem dX6_near_40 : decode cX6_near 40 = .ok (.aload_n 0, 1) := by decide +kernel
theorem dX6_near_41 : decode cX6_near 41 = .ok (.getfield 10, 3) := by decide +kernel
theorem dX6_near_44 : decode cX6_near 44 = .ok (.iload 4, 2) := by decide +kernel
theorem dX6_near_46 : decode cX6_near 46 = .ok (.invokevirtual 113, 3) := by decide +kernel
theorem dX6_near_49 : decode cX6_near 49 = .ok (.ifCond .eq 55, 3) := by decide +kernel
theorem dX6_near_52 : decode cX6_near 52 = .ok (.aload_n 0, 1) := by decide +kernel
theorem dX6_near_53 : decode cX6_near 53 = .ok (.getfield 10, 3) := by decide +kernel
theorem dX6_near_56 : decode cX6_near 56 = .ok (.iload 5, 2) := by decide +kernel
theorem dX6_near_58 : decode cX6_near 58 = .ok (.invokevirtual 113, 3) := by decide +kernel
theorem dX6_near_61 : decode cX6_near 61 = .ok (.ifCond .ne 6, 3) := by decide +kernel
theorem dX6_near_64 : decode cX6_near 64 = .ok (.goto 40, 3) := by decide +kernel
theorem dX6_near_67 : decode cX6_near 67 = .ok (.aload_n 0, 1) := by decide +kernel
theorem dX6_near_68 : decode cX6_near 68 = .ok (.getfield 10, 3) := by decide +kernel
theorem dX6_near_71 : decode cX6_near 71 = .ok (.iload 4, 2) := by decide +kernel
theorem dX6_near_73 : decode cX6_near 73 = .ok (.iload 5, 2) := by decide +kernel
theorem dX6_near_75 : decode cX6_near 75 = .ok (.invokevirtual 249, 3) := by decide +kernel
theorem dX6_near_78 : decode cX6_near 78 = .ok (.istore 6, 2) := by decide +kernel
theorem dX6_near_80 : decode cX6_near 80 = .ok (.iload_n 3, 1) := by decide +kernel
theorem dX6_near_81 : decode cX6_near 81 = .ok (.bipush (-4), 2) := by decide +kernel
theorem dX6_near_83 : decode cX6_near 83 = .ok (.if_icmp .eq 9, 3) := by decide +kernel
theorem dX6_near_86 : decode cX6_near 86 = .ok (.iload 6, 2) := by decide +kernel
theorem dX6_near_88 : decode cX6_near 88 = .ok (.iload_n 3, 1) := by decide +kernel
theorem dX6_near_89 : decode cX6_near 89 = .ok (.if_icmp .ge 15, 3) := by decide +kernel
theorem dX6_near_92 : decode cX6_near 92 = .ok (.iload 6, 2) := by decide +kernel
theorem dX6_near_94 : decode cX6_near 94 = .ok (.istore_n 3, 1) := by decide +kernel
theorem dX6_near_95 : decode cX6_near 95 = .ok (.bipush 10, 2) := by decide +kernel
theorem dX6_near_97 : decode cX6_near 97 = .ok (.iload 4, 2) := by decide +kernel
theorem dX6_near_99 : decode cX6_near 99 = .ok (.imul, 1) := by decide +kernel
theorem dX6_near_100 : decode cX6_near 100 = .ok (.iload 5, 2) := by decide +kernel
theorem dX6_near_102 : decode cX6_near 102 = .ok (.iadd, 1) := by decide +kernel
theorem dX6_near_103 : decode cX6_near 103 = .ok (.istore_n 2, 1) := by decide +kernel
theorem dX6_near_104 : decode cX6_near 104 = .ok (.iinc 5 1, 3) := by decide +kernel
theorem dX6_near_107 : decode cX6_near 107 = .ok (.goto (-74), 3) := by decide +kernel
theorem dX6_near_110 : decode cX6_near 110 = .ok (.iinc 4 1, 3) := by decide +kernel
theorem dX6_near_113 : decode cX6_near 113 = .ok (.goto (-93), 3) := by decide +kernel
theorem dX6_near_116 : decode cX6_near 116 = .ok (.iload_n 1, 1) := by decide +kernel
theorem dX6_near_117 : decode cX6_near 117 = .ok (.ifCond .ne 7, 3) := by decide +kernel
theorem dX6_near_120 : decode cX6_near 120 = .ok (.iload_n 2, 1) := by decide +kernel
theorem dX6_near_121 : decode cX6_near 121 = .ok (.goto 4, 3) := by decide +kernel
theorem dX6_near_124 : decode cX6_near 124 = .ok (.iload_n 3, 1) := by decide +kernel
theorem dX6_near_125 : decode cX6_near 125 = .ok (.ireturn, 1) := by decide +kernel
theorem dX6_forge_0 : decode cX6_forge 0 = .ok (.aload_n 0, 1) := by decide +kernel
theorem dX6_forge_1 : decode cX6_forge 1 = .ok (.getfield 10, 3) := by decide +kernel
theorem dX6_forge_4 : decode cX6_forge 4 = .ok (.iload_n 1, 1) := by decide +kernel
theorem dX6_forge_5 : decode cX6_forge 5 = .ok (.invokevirtual 113, 3) := by decide +kernel
theorem dX6_forge_8 : decode cX6_forge 8 = .ok (.ifCond .eq 12, 3) := by decide +kernel
theorem dX6_forge_11 : decode cX6_forge 11 = .ok (.iload_n 2, 1) := by decide +kernel
theorem dX6_forge_12 : decode cX6_forge 12 = .ok (.ifCond .lt 8, 3) := by decide +kernel
theorem dX6_forge_15 : decode cX6_forge 15 = .ok (.iload_n 2, 1) := by decide +kernel
theorem dX6_forge_16 : decode cX6_forge 16 = .ok (.iconst 1, 1) := by decide +kernel
theorem dX6_forge_17 : decode cX6_forge 17 = .ok (.if_icmp .le 5, 3) := by decide +kernel
theorem dX6_forge_20 : decode cX6_forge 20 = .ok (.iconst (-1), 1) := by decide +kernel
theorem dX6_forge_21 : decode cX6_forge 21 = .ok (.ireturn, 1) := by decide +kernel
theorem dX6_forge_22 : decode cX6_forge 22 = .ok (.aload_n 0, 1) := by decide +kernel
theorem dX6_forge_23 : decode cX6_forge 23 = .ok (.getfield 16, 3) := by decide +kernel
theorem dX6_forge_26 : decode cX6_forge 26 = .ok (.aload_n 0, 1) := by decide +kernel
theorem dX6_forge_27 : decode cX6_forge 27 = .ok (.getfield 10, 3) := by decide +kernel
theorem dX6_forge_30 : decode cX6_forge 30 = .ok (.invokevirtual 86, 3) := by decide +kernel
theorem dX6_forge_33 : decode cX6_forge 33 = .ok (.iconst (-1), 1) := by decide +kernel
theorem dX6_forge_34 : decode cX6_forge 34 = .ok (.istore_n 3, 1) := by decide +kernel
theorem dX6_forge_35 : decode cX6_forge 35 = .ok (.iconst (-1), 1) := by decide +kernel
theorem dX6_forge_36 : decode cX6_forge 36 = .ok (.istore 4, 2) := by decide +kernel
theorem dX6_forge_38 : decode cX6_forge 38 = .ok (.iconst 0, 1) := by decide +kernel
theorem dX6_forge_39 : decode cX6_forge 39 = .ok (.istore 5, 2) := by decide +kernel
theorem dX6_forge_41 : decode cX6_forge 41 = .ok (.iconst 0, 1) := by decide +kernel
theorem dX6_forge_42 : decode cX6_forge 42 = .ok (.istore 6, 2) := by decide +kernel
theorem dX6_forge_44 : decode cX6_forge 44 = .ok (.iload 6, 2) := by decide +kernel
theorem dX6_forge_46 : decode cX6_forge 46 = .ok (.bipush 8, 2) := by decide +kernel
theorem dX6_forge_48 : decode cX6_forge 48 = .ok (.if_icmp .ge 103, 3) := by decide +kernel
theorem dX6_forge_51 : decode cX6_forge 51 = .ok (.aload_n 0, 1) := by decide +kernel
theorem dX6_forge_52 : decode cX6_forge 52 = .ok (.getfield 10, 3) := by decide +kernel
theorem dX6_forge_55 : decode cX6_forge 55 = .ok (.iload 6, 2) := by decide +kernel
theorem dX6_forge_57 : decode cX6_forge 57 = .ok (.invokevirtual 113, 3) := by decide +kernel
theorem dX6_forge_60 : decode cX6_forge 60 = .ok (.ifCond .ne 6, 3) := by decide +kernel
theorem dX6_forge_63 : decode cX6_forge 63 = .ok (.goto 82, 3) := by decide +kernel
theorem dX6_forge_66 : decode cX6_forge 66 = .ok (.aload_n 0, 1) := by decide +kernel
theorem dX6_forge_67 : decode cX6_forge 67 = .ok (.getfield 16, 3) := by decide +kernel
theorem dX6_forge_70 : decode cX6_forge 70 = .ok (.getfield 128, 3) := by decide +kernel
theorem dX6_forge_73 : decode cX6_forge 73 = .ok (.iload_n 1, 1) := by decide +kernel
theorem dX6_forge_74 : decode cX6_forge 74 = .ok (.iload 6, 2) := by decide +kernel
theorem dX6_forge_76 : decode cX6_forge 76 = .ok (.iastore, 1) := by decide +kernel
theorem dX6_forge_77 : decode cX6_forge 77 = .ok (.aload_n 0, 1) := by decide +kernel
theorem dX6_forge_78 : decode cX6_forge 78 = .ok (.getfield 44, 3) := by decide +kernel
theorem dX6_forge_81 : decode cX6_forge 81 = .ok (.aload_n 0, 1) := by decide +kernel
theorem dX6_forge_82 : decode cX6_forge 82 = .ok (.getfield 16, 3) := by decide +kernel
theorem dX6_forge_85 : decode cX6_forge 85 = .ok (.iconst 0, 1) := by decide +kernel
theorem dX6_forge_86 : decode cX6_forge 86 = .ok (.invokevirtual 201, 3) := by decide +kernel
theorem dX6_forge_89 : decode cX6_forge 89 = .ok (.aload_n 0, 1) := by decide +kernel
theorem dX6_forge_90 : decode cX6_forge 90 = .ok (.getfield 44, 3) := by decide +kernel
theorem dX6_forge_93 : decode cX6_forge 93 = .ok (.getfield 205, 3) := by decide +kernel
theorem dX6_forge_96 : decode cX6_forge 96 = .ok (.iload_n 1, 1) := by decide +kernel
theorem dX6_forge_97 : decode cX6_forge 97 = .ok (.iaload, 1) := by decide +kernel
theorem dX6_forge_98 : decode cX6_forge 98 = .ok (.istore 7, 2) := by decide +kernel
theorem dX6_forge_100 : decode cX6_forge 100 = .ok (.iload 7, 2) := by decide +kernel
theorem dX6_forge_102 : decode cX6_forge 102 = .ok (.iconst (-1), 1) := by decide +kernel
theorem dX6_forge_103 : decode cX6_forge 103 = .ok (.if_icmp .ne 7, 3) := by decide +kernel
theorem dX6_forge_106 : decode cX6_forge 106 = .ok (.iconst (-1), 1) := by decide +kernel
theorem dX6_forge_107 : decode cX6_forge 107 = .ok (.goto 13, 3) := by decide +kernel
theorem dX6_forge_110 : decode cX6_forge 110 = .ok (.aload_n 0, 1) := by decide +kernel
theorem dX6_forge_111 : decode cX6_forge 111 = .ok (.getfield 44, 3) := by decide +kernel
theorem dX6_forge_114 : decode cX6_forge 114 = .ok (.iload_n 1, 1) := by decide +kernel
theorem dX6_forge_115 : decode cX6_forge 115 = .ok (.iload 7, 2) := by decide +kernel
theorem dX6_forge_117 : decode cX6_forge 117 = .ok (.invokevirtual 155, 3) := by decide +kernel
theorem dX6_forge_120 : decode cX6_forge 120 = .ok (.istore 8, 2) := by decide +kernel
theorem dX6_forge_122 : decode cX6_forge 122 = .ok (.iload_n 3, 1) := by decide +kernel
theorem dX6_forge_123 : decode cX6_forge 123 = .ok (.iconst (-1), 1) := by decide +kernel
theorem dX6_forge_124 : decode cX6_forge 124 = .ok (.if_icmp .eq 10, 3) := by decide +kernel
theorem dX6_forge_127 : decode cX6_forge 127 = .ok (.iload 8, 2) := by decide +kernel
theorem dX6_forge_129 : decode cX6_forge 129 = .ok (.iload 5, 2) := by decide +kernel
theorem dX6_forge_131 : decode cX6_forge 131 = .ok (.if_icmp .le 14, 3) := by decide +kernel
theorem dX6_forge_134 : decode cX6_forge 134 = .ok (.iload 6, 2) := by decide +kernel
theorem dX6_forge_136 : decode cX6_forge 136 = .ok (.istore_n 3, 1) := by decide +kernel
theorem dX6_forge_137 : decode cX6_forge 137 = .ok (.iload 7, 2) := by decide +kernel
theorem dX6_forge_139 : decode cX6_forge 139 = .ok (.istore 4, 2) := by decide +kernel
theorem dX6_forge_141 : decode cX6_forge 141 = .ok (.iload 8, 2) := by decide +kernel
theorem dX6_forge_143 : decode cX6_forge 143 = .ok (.istore 5, 2) := by decide +kernel
theorem dX6_forge_145 : decode cX6_forge 145 = .ok (.iinc 6 1, 3) := by decide +kernel
theorem dX6_forge_148 : decode cX6_forge 148 = .ok (.goto (-104), 3) := by decide +kernel
theorem dX6_forge_151 : decode cX6_forge 151 = .ok (.iload_n 2, 1) := by decide +kernel
theorem dX6_forge_152 : decode cX6_forge 152 = .ok (.ifCond .ne 10, 3) := by decide +kernel
theorem dX6_forge_155 : decode cX6_forge 155 = .ok (.iload_n 3, 1) := by decide +kernel
theorem dX6_forge_156 : decode cX6_forge 156 = .ok (.invokestatic 134, 3) := by decide +kernel
theorem dX6_forge_159 : decode cX6_forge 159 = .ok (.goto 8, 3) := by decide +kernel
theorem dX6_forge_162 : decode cX6_forge 162 = .ok (.iload 4, 2) := by decide +kernel
theorem dX6_forge_164 : decode cX6_forge 164 = .ok (.invokestatic 134, 3) := by decide +kernel
theorem dX6_forge_167 : decode cX6_forge 167 = .ok (.ireturn, 1) := by decide +kernel
theorem dX6_swap_0 : decode cX6_swap 0 = .ok (.iload_n 1, 1) := by decide +kernel
theorem dX6_swap_1 : decode cX6_swap 1 = .ok (.ifCond .lt 8, 3) := by decide +kernel
theorem dX6_swap_4 : decode cX6_swap 4 = .ok (.iload_n 1, 1) := by decide +kernel
theorem dX6_swap_5 : decode cX6_swap 5 = .ok (.iconst 1, 1) := by decide +kernel
theorem dX6_swap_6 : decode cX6_swap 6 = .ok (.if_icmp .le 5, 3) := by decide +kernel
theorem dX6_swap_9 : decode cX6_swap 9 = .ok (.iconst (-1), 1) := by decide +kernel
theorem dX6_swap_10 : decode cX6_swap 10 = .ok (.ireturn, 1) := by decide +kernel
theorem dX6_swap_11 : decode cX6_swap 11 = .ok (.aload_n 0, 1) := by decide +kernel
theorem dX6_swap_12 : decode cX6_swap 12 = .ok (.getfield 16, 3) := by decide +kernel
theorem dX6_swap_15 : decode cX6_swap 15 = .ok (.aload_n 0, 1) := by decide +kernel
theorem dX6_swap_16 : decode cX6_swap 16 = .ok (.getfield 10, 3) := by decide +kernel
theorem dX6_swap_19 : decode cX6_swap 19 = .ok (.invokevirtual 86, 3) := by decide +kernel
theorem dX6_swap_22 : decode cX6_swap 22 = .ok (.aload_n 0, 1) := by decide +kernel
theorem dX6_swap_23 : decode cX6_swap 23 = .ok (.getfield 44, 3) := by decide +kernel
theorem dX6_swap_26 : decode cX6_swap 26 = .ok (.aload_n 0, 1) := by decide +kernel
theorem dX6_swap_27 : decode cX6_swap 27 = .ok (.getfield 16, 3) := by decide +kernel
theorem dX6_swap_30 : decode cX6_swap 30 = .ok (.iconst 0, 1) := by decide +kernel
theorem dX6_swap_31 : decode cX6_swap 31 = .ok (.invokevirtual 201, 3) := by decide +kernel
theorem dX6_swap_34 : decode cX6_swap 34 = .ok (.aload_n 0, 1) := by decide +kernel
theorem dX6_swap_35 : decode cX6_swap 35 = .ok (.getfield 44, 3) := by decide +kernel
theorem dX6_swap_38 : decode cX6_swap 38 = .ok (.invokevirtual 211, 3) := by decide +kernel
theorem dX6_swap_41 : decode cX6_swap 41 = .ok (.istore_n 2, 1) := by decide +kernel
theorem dX6_swap_42 : decode cX6_swap 42 = .ok (.bipush (-4), 2) := by decide +kernel
theorem dX6_swap_44 : decode cX6_swap 44 = .ok (.istore_n 3, 1) := by decide +kernel
theorem dX6_swap_45 : decode cX6_swap 45 = .ok (.iconst 0, 1) := by decide +kernel
theorem dX6_swap_46 : decode cX6_swap 46 = .ok (.istore 4, 2) := by decide +kernel
theorem dX6_swap_48 : decode cX6_swap 48 = .ok (.iload 4, 2) := by decide +kernel
theorem dX6_swap_50 : decode cX6_swap 50 = .ok (.bipush 8, 2) := by decide +kernel
theorem dX6_swap_52 : decode cX6_swap 52 = .ok (.if_icmp .ge 83, 3) := by decide +kernel
theorem dX6_swap_55 : decode cX6_swap 55 = .ok (.iload 4, 2) := by decide +kernel
theorem dX6_swap_57 : decode cX6_swap 57 = .ok (.iconst 1, 1) := by decide +kernel
theorem dX6_swap_58 : decode cX6_swap 58 = .ok (.iadd, 1) := by decide +kernel
theorem dX6_swap_59 : decode cX6_swap 59 = .ok (.istore 5, 2) := by decide +kernel
theorem dX6_swap_61 : decode cX6_swap 61 = .ok (.iload 5, 2) := by decide +kernel
theorem dX6_swap_63 : decode cX6_swap 63 = .ok (.bipush 8, 2) := by decide +kernel
theorem dX6_swap_65 : decode cX6_swap 65 = .ok (.if_icmp .ge 64, 3) := by decide +kernel
theorem dX6_swap_68 : decode cX6_swap 68 = .ok (.aload_n 0, 1) := by decide +kernel
theorem dX6_swap_69 : decode cX6_swap 69 = .ok (.getfield 10, 3) := by decide +kernel
theorem dX6_swap_72 : decode cX6_swap 72 = .ok (.iload 4, 2) := by decide +kernel
theorem dX6_swap_74 : decode cX6_swap 74 = .ok (.invokevirtual 113, 3) := by decide +kernel
theorem dX6_swap_77 : decode cX6_swap 77 = .ok (.ifCond .eq 46, 3) := by decide +kernel
theorem dX6_swap_80 : decode cX6_swap 80 = .ok (.aload_n 0, 1) := by decide +kernel
theorem dX6_swap_81 : decode cX6_swap 81 = .ok (.getfield 10, 3) := by decide +kernel
theorem dX6_swap_84 : decode cX6_swap 84 = .ok (.iload 5, 2) := by decide +kernel
theorem dX6_swap_86 : decode cX6_swap 86 = .ok (.invokevirtual 113, 3) := by decide +kernel
theorem dX6_swap_89 : decode cX6_swap 89 = .ok (.ifCond .ne 6, 3) := by decide +kernel
theorem dX6_swap_92 : decode cX6_swap 92 = .ok (.goto 31, 3) := by decide +kernel
theorem dX6_swap_95 : decode cX6_swap 95 = .ok (.aload_n 0, 1) := by decide +kernel
theorem dX6_swap_96 : decode cX6_swap 96 = .ok (.iload 4, 2) := by decide +kernel
theorem dX6_swap_98 : decode cX6_swap 98 = .ok (.iload 5, 2) := by decide +kernel
theorem dX6_swap_100 : decode cX6_swap 100 = .ok (.invokevirtual 252, 3) := by decide +kernel
theorem dX6_swap_103 : decode cX6_swap 103 = .ok (.istore 6, 2) := by decide +kernel
theorem dX6_swap_105 : decode cX6_swap 105 = .ok (.iload 6, 2) := by decide +kernel
theorem dX6_swap_107 : decode cX6_swap 107 = .ok (.iload_n 2, 1) := by decide +kernel
theorem dX6_swap_108 : decode cX6_swap 108 = .ok (.if_icmp .le 15, 3) := by decide +kernel
theorem dX6_swap_111 : decode cX6_swap 111 = .ok (.iload 6, 2) := by decide +kernel
theorem dX6_swap_113 : decode cX6_swap 113 = .ok (.istore_n 2, 1) := by decide +kernel
theorem dX6_swap_114 : decode cX6_swap 114 = .ok (.bipush 10, 2) := by decide +kernel
theorem dX6_swap_116 : decode cX6_swap 116 = .ok (.iload 4, 2) := by decide +kernel
theorem dX6_swap_118 : decode cX6_swap 118 = .ok (.imul, 1) := by decide +kernel
theorem dX6_swap_119 : decode cX6_swap 119 = .ok (.iload 5, 2) := by decide +kernel
theorem dX6_swap_121 : decode cX6_swap 121 = .ok (.iadd, 1) := by decide +kernel
theorem dX6_swap_122 : decode cX6_swap 122 = .ok (.istore_n 3, 1) := by decide +kernel
theorem dX6_swap_123 : decode cX6_swap 123 = .ok (.iinc 5 1, 3) := by decide +kernel
theorem dX6_swap_126 : decode cX6_swap 126 = .ok (.goto (-65), 3) := by decide +kernel
theorem dX6_swap_129 : decode cX6_swap 129 = .ok (.iinc 4 1, 3) := by decide +kernel
theorem dX6_swap_132 : decode cX6_swap 132 = .ok (.goto (-84), 3) := by decide +kernel
theorem dX6_swap_135 : decode cX6_swap 135 = .ok (.iload_n 1, 1) := by decide +kernel
theorem dX6_swap_136 : decode cX6_swap 136 = .ok (.ifCond .eq 9, 3) := by decide +kernel
theorem dX6_swap_139 : decode cX6_swap 139 = .ok (.iload_n 3, 1) := by decide +kernel
theorem dX6_swap_140 : decode cX6_swap 140 = .ok (.bipush (-4), 2) := by decide +kernel
theorem dX6_swap_142 : decode cX6_swap 142 = .ok (.if_icmp .ne 7, 3) := by decide +kernel
theorem dX6_swap_145 : decode cX6_swap 145 = .ok (.iload_n 3, 1) := by decide +kernel
theorem dX6_swap_146 : decode cX6_swap 146 = .ok (.goto 4, 3) := by decide +kernel
theorem dX6_swap_149 : decode cX6_swap 149 = .ok (.iload_n 2, 1) := by decide +kernel
theorem dX6_swap_150 : decode cX6_swap 150 = .ok (.ireturn, 1) := by decide +kernel
theorem dX6_mean_0 : decode cX6_mean 0 = .ok (.iload_n 1, 1) := by decide +kernel
theorem dX6_mean_1 : decode cX6_mean 1 = .ok (.ifCond .lt 18, 3) := by decide +kernel
theorem dX6_mean_4 : decode cX6_mean 4 = .ok (.iload_n 1, 1) := by decide +kernel
theorem dX6_mean_5 : decode cX6_mean 5 = .ok (.bipush 10, 2) := by decide +kernel
theorem dX6_mean_7 : decode cX6_mean 7 = .ok (.if_icmp .gt 12, 3) := by decide +kernel
theorem dX6_mean_10 : decode cX6_mean 10 = .ok (.iload_n 2, 1) := by decide +kernel
theorem dX6_mean_11 : decode cX6_mean 11 = .ok (.ifCond .lt 8, 3) := by decide +kernel
theorem dX6_mean_14 : decode cX6_mean 14 = .ok (.iload_n 2, 1) := by decide +kernel
theorem dX6_mean_15 : decode cX6_mean 15 = .ok (.iconst 1, 1) := by decide +kernel
theorem dX6_mean_16 : decode cX6_mean 16 = .ok (.if_icmp .le 7, 3) := by decide +kernel
theorem dX6_mean_19 : decode cX6_mean 19 = .ok (.ldc2_w 255, 3) := by decide +kernel
theorem dX6_mean_22 : decode cX6_mean 22 = .ok (.lreturn, 1) := by decide +kernel
theorem dX6_mean_23 : decode cX6_mean 23 = .ok (.aload_n 0, 1) := by decide +kernel
theorem dX6_mean_24 : decode cX6_mean 24 = .ok (.iload_n 1, 1) := by decide +kernel
theorem dX6_mean_25 : decode cX6_mean 25 = .ok (.iconst (-1), 1) := by decide +kernel
theorem dX6_mean_26 : decode cX6_mean 26 = .ok (.invokevirtual 257, 3) := by decide +kernel
theorem dX6_mean_29 : decode cX6_mean 29 = .ok (.bipush 10, 2) := by decide +kernel
theorem dX6_mean_31 : decode cX6_mean 31 = .ok (.aload_n 0, 1) := by decide +kernel
theorem dX6_mean_32 : decode cX6_mean 32 = .ok (.getfield 10, 3) := by decide +kernel
theorem dX6_mean_35 : decode cX6_mean 35 = .ok (.invokevirtual 261, 3) := by decide +kernel
theorem dX6_mean_38 : decode cX6_mean 38 = .ok (.invokestatic 263, 3) := by decide +kernel
theorem dX6_mean_41 : decode cX6_mean 41 = .ok (.iload_n 2, 1) := by decide +kernel
theorem dX6_mean_42 : decode cX6_mean 42 = .ok (.invokestatic 266, 3) := by decide +kernel
theorem dX6_mean_45 : decode cX6_mean 45 = .ok (.lreturn, 1) := by decide +kernel
theorem dX6_luck_0 : decode cX6_luck 0 = .ok (.iload_n 1, 1) := by decide +kernel
theorem dX6_luck_1 : decode cX6_luck 1 = .ok (.ifCond .lt 29, 3) := by decide +kernel
theorem dX6_luck_4 : decode cX6_luck 4 = .ok (.iload_n 1, 1) := by decide +kernel
theorem dX6_luck_5 : decode cX6_luck 5 = .ok (.bipush 10, 2) := by decide +kernel
theorem dX6_luck_7 : decode cX6_luck 7 = .ok (.if_icmp .gt 23, 3) := by decide +kernel
theorem dX6_luck_10 : decode cX6_luck 10 = .ok (.aload_n 0, 1) := by decide +kernel
theorem dX6_luck_11 : decode cX6_luck 11 = .ok (.getfield 10, 3) := by decide +kernel
theorem dX6_luck_14 : decode cX6_luck 14 = .ok (.iload_n 2, 1) := by decide +kernel
theorem dX6_luck_15 : decode cX6_luck 15 = .ok (.invokevirtual 113, 3) := by decide +kernel
theorem dX6_luck_18 : decode cX6_luck 18 = .ok (.ifCond .eq 12, 3) := by decide +kernel
theorem dX6_luck_21 : decode cX6_luck 21 = .ok (.iload_n 3, 1) := by decide +kernel
theorem dX6_luck_22 : decode cX6_luck 22 = .ok (.ifCond .lt 8, 3) := by decide +kernel
theorem dX6_luck_25 : decode cX6_luck 25 = .ok (.iload_n 3, 1) := by decide +kernel
theorem dX6_luck_26 : decode cX6_luck 26 = .ok (.iconst 1, 1) := by decide +kernel
theorem dX6_luck_27 : decode cX6_luck 27 = .ok (.if_icmp .le 7, 3) := by decide +kernel
theorem dX6_luck_30 : decode cX6_luck 30 = .ok (.ldc2_w 255, 3) := by decide +kernel
theorem dX6_luck_33 : decode cX6_luck 33 = .ok (.lreturn, 1) := by decide +kernel
theorem dX6_luck_34 : decode cX6_luck 34 = .ok (.aload_n 0, 1) := by decide +kernel
theorem dX6_luck_35 : decode cX6_luck 35 = .ok (.iload_n 1, 1) := by decide +kernel
theorem dX6_luck_36 : decode cX6_luck 36 = .ok (.iload_n 2, 1) := by decide +kernel
theorem dX6_luck_37 : decode cX6_luck 37 = .ok (.invokevirtual 257, 3) := by decide +kernel
theorem dX6_luck_40 : decode cX6_luck 40 = .ok (.bipush 10, 2) := by decide +kernel
theorem dX6_luck_42 : decode cX6_luck 42 = .ok (.aload_n 0, 1) := by decide +kernel
theorem dX6_luck_43 : decode cX6_luck 43 = .ok (.getfield 10, 3) := by decide +kernel
theorem dX6_luck_46 : decode cX6_luck 46 = .ok (.invokevirtual 261, 3) := by decide +kernel
theorem dX6_luck_49 : decode cX6_luck 49 = .ok (.invokestatic 263, 3) := by decide +kernel
theorem dX6_luck_52 : decode cX6_luck 52 = .ok (.iload_n 3, 1) := by decide +kernel
theorem dX6_luck_53 : decode cX6_luck 53 = .ok (.invokestatic 266, 3) := by decide +kernel
theorem dX6_luck_56 : decode cX6_luck 56 = .ok (.lreturn, 1) := by decide +kernel
theorem dX6_see_0 : decode cX6_see 0 = .ok (.aload_n 0, 1) := by decide +kernel
theorem dX6_see_1 : decode cX6_see 1 = .ok (.getfield 10, 3) := by decide +kernel
theorem dX6_see_4 : decode cX6_see 4 = .ok (.iload_n 1, 1) := by decide +kernel
theorem dX6_see_5 : decode cX6_see 5 = .ok (.invokevirtual 113, 3) := by decide +kernel
theorem dX6_see_8 : decode cX6_see 8 = .ok (.ifCond .eq 17, 3) := by decide +kernel
theorem dX6_see_11 : decode cX6_see 11 = .ok (.iload_n 2, 1) := by decide +kernel
theorem dX6_see_12 : decode cX6_see 12 = .ok (.invokestatic 141, 3) := by decide +kernel
theorem dX6_see_15 : decode cX6_see 15 = .ok (.ifCond .eq 10, 3) := by decide +kernel
theorem dX6_see_18 : decode cX6_see 18 = .ok (.iload_n 3, 1) := by decide +kernel
theorem dX6_see_19 : decode cX6_see 19 = .ok (.invokestatic 165, 3) := by decide +kernel
theorem dX6_see_22 : decode cX6_see 22 = .ok (.ifCond .ne 5, 3) := by decide +kernel
theorem dX6_see_25 : decode cX6_see 25 = .ok (.iconst (-1), 1) := by decide +kernel
theorem dX6_see_26 : decode cX6_see 26 = .ok (.ireturn, 1) := by decide +kernel
theorem dX6_see_27 : decode cX6_see 27 = .ok (.aload_n 0, 1) := by decide +kernel
theorem dX6_see_28 : decode cX6_see 28 = .ok (.getfield 51, 3) := by decide +kernel
theorem dX6_see_31 : decode cX6_see 31 = .ok (.iload_n 1, 1) := by decide +kernel
theorem dX6_see_32 : decode cX6_see 32 = .ok (.iload_n 2, 1) := by decide +kernel
theorem dX6_see_33 : decode cX6_see 33 = .ok (.iload_n 3, 1) := by decide +kernel
theorem dX6_see_34 : decode cX6_see 34 = .ok (.invokevirtual 270, 3) := by decide +kernel
theorem dX6_see_37 : decode cX6_see 37 = .ok (.ifCond .eq 13, 3) := by decide +kernel
theorem dX6_see_40 : decode cX6_see 40 = .ok (.aload_n 0, 1) := by decide +kernel
theorem dX6_see_41 : decode cX6_see 41 = .ok (.getfield 51, 3) := by decide +kernel
theorem dX6_see_44 : decode cX6_see 44 = .ok (.getfield 90, 3) := by decide +kernel
theorem dX6_see_47 : decode cX6_see 47 = .ok (.goto 5, 3) := by decide +kernel
theorem dX6_see_50 : decode cX6_see 50 = .ok (.bipush (-3), 2) := by decide +kernel
theorem dX6_see_52 : decode cX6_see 52 = .ok (.ireturn, 1) := by decide +kernel
theorem dX6_forget_0 : decode cX6_forget 0 = .ok (.aload_n 0, 1) := by decide +kernel
theorem dX6_forget_1 : decode cX6_forget 1 = .ok (.getfield 51, 3) := by decide +kernel
theorem dX6_forget_4 : decode cX6_forget 4 = .ok (.getfield 90, 3) := by decide +kernel
theorem dX6_forget_7 : decode cX6_forget 7 = .ok (.istore_n 2, 1) := by decide +kernel
theorem dX6_forget_8 : decode cX6_forget 8 = .ok (.iload_n 1, 1) := by decide +kernel
theorem dX6_forget_9 : decode cX6_forget 9 = .ok (.ifCond .lt 8, 3) := by decide +kernel
theorem dX6_forget_12 : decode cX6_forget 12 = .ok (.iload_n 1, 1) := by decide +kernel
theorem dX6_forget_13 : decode cX6_forget 13 = .ok (.iload_n 2, 1) := by decide +kernel
theorem dX6_forget_14 : decode cX6_forget 14 = .ok (.if_icmp .le 5, 3) := by decide +kernel
theorem dX6_forget_17 : decode cX6_forget 17 = .ok (.iconst (-1), 1) := by decide +kernel
theorem dX6_forget_18 : decode cX6_forget 18 = .ok (.ireturn, 1) := by decide +kernel
theorem dX6_forget_19 : decode cX6_forget 19 = .ok (.aload_n 0, 1) := by decide +kernel
theorem dX6_forget_20 : decode cX6_forget 20 = .ok (.getfield 51, 3) := by decide +kernel
theorem dX6_forget_23 : decode cX6_forget 23 = .ok (.iload_n 1, 1) := by decide +kernel
theorem dX6_forget_24 : decode cX6_forget 24 = .ok (.putfield 90, 3) := by decide +kernel
theorem dX6_forget_27 : decode cX6_forget 27 = .ok (.iload_n 2, 1) := by decide +kernel
theorem dX6_forget_28 : decode cX6_forget 28 = .ok (.ireturn, 1) := by decide +kernel
theorem dX6_fits_0 : decode cX6_fits 0 = .ok (.aload_n 0, 1) := by decide +kernel
theorem dX6_fits_1 : decode cX6_fits 1 = .ok (.getfield 10, 3) := by decide +kernel
theorem dX6_fits_4 : decode cX6_fits 4 = .ok (.iload_n 1, 1) := by decide +kernel
theorem dX6_fits_5 : decode cX6_fits 5 = .ok (.invokevirtual 113, 3) := by decide +kernel
theorem dX6_fits_8 : decode cX6_fits 8 = .ok (.ifCond .eq 11, 3) := by decide +kernel
theorem dX6_fits_11 : decode cX6_fits 11 = .ok (.aload_n 0, 1) := by decide +kernel
theorem dX6_fits_12 : decode cX6_fits 12 = .ok (.iload_n 1, 1) := by decide +kernel
theorem dX6_fits_13 : decode cX6_fits 13 = .ok (.invokevirtual 274, 3) := by decide +kernel
theorem dX6_fits_16 : decode cX6_fits 16 = .ok (.goto 4, 3) := by decide +kernel
theorem dX6_fits_19 : decode cX6_fits 19 = .ok (.iconst (-1), 1) := by decide +kernel
theorem dX6_fits_20 : decode cX6_fits 20 = .ok (.ireturn, 1) := by decide +kernel
theorem dX6_look_0 : decode cX6_look 0 = .ok (.aload_n 0, 1) := by decide +kernel
theorem dX6_look_1 : decode cX6_look 1 = .ok (.getfield 10, 3) := by decide +kernel
theorem dX6_look_4 : decode cX6_look 4 = .ok (.iload_n 1, 1) := by decide +kernel
theorem dX6_look_5 : decode cX6_look 5 = .ok (.invokevirtual 113, 3) := by decide +kernel
theorem dX6_look_8 : decode cX6_look 8 = .ok (.ifCond .eq 12, 3) := by decide +kernel
theorem dX6_look_11 : decode cX6_look 11 = .ok (.iload_n 2, 1) := by decide +kernel
theorem dX6_look_12 : decode cX6_look 12 = .ok (.ifCond .lt 8, 3) := by decide +kernel
theorem dX6_look_15 : decode cX6_look 15 = .ok (.iload_n 2, 1) := by decide +kernel
theorem dX6_look_16 : decode cX6_look 16 = .ok (.iconst 1, 1) := by decide +kernel
theorem dX6_look_17 : decode cX6_look 17 = .ok (.if_icmp .le 5, 3) := by decide +kernel
theorem dX6_look_20 : decode cX6_look 20 = .ok (.iconst (-1), 1) := by decide +kernel
theorem dX6_look_21 : decode cX6_look 21 = .ok (.ireturn, 1) := by decide +kernel
theorem dX6_look_22 : decode cX6_look 22 = .ok (.aload_n 0, 1) := by decide +kernel
theorem dX6_look_23 : decode cX6_look 23 = .ok (.iload_n 1, 1) := by decide +kernel
theorem dX6_look_24 : decode cX6_look 24 = .ok (.invokevirtual 274, 3) := by decide +kernel
theorem dX6_look_27 : decode cX6_look 27 = .ok (.istore_n 3, 1) := by decide +kernel
theorem dX6_look_28 : decode cX6_look 28 = .ok (.iload_n 3, 1) := by decide +kernel
theorem dX6_look_29 : decode cX6_look 29 = .ok (.invokestatic 277, 3) := by decide +kernel
theorem dX6_look_32 : decode cX6_look 32 = .ok (.istore 4, 2) := by decide +kernel
theorem dX6_look_34 : decode cX6_look 34 = .ok (.bipush (-4), 2) := by decide +kernel
theorem dX6_look_36 : decode cX6_look 36 = .ok (.istore 5, 2) := by decide +kernel
theorem dX6_look_38 : decode cX6_look 38 = .ok (.iconst 0, 1) := by decide +kernel
theorem dX6_look_39 : decode cX6_look 39 = .ok (.istore 6, 2) := by decide +kernel
theorem dX6_look_41 : decode cX6_look 41 = .ok (.iload 6, 2) := by decide +kernel
theorem dX6_look_43 : decode cX6_look 43 = .ok (.iconst 3, 1) := by decide +kernel
theorem dX6_look_44 : decode cX6_look 44 = .ok (.if_icmp .ge 34, 3) := by decide +kernel
theorem dX6_look_47 : decode cX6_look 47 = .ok (.aload_n 0, 1) := by decide +kernel
theorem dX6_look_48 : decode cX6_look 48 = .ok (.iload_n 1, 1) := by decide +kernel
theorem dX6_look_49 : decode cX6_look 49 = .ok (.iload 6, 2) := by decide +kernel
theorem dX6_look_51 : decode cX6_look 51 = .ok (.iload_n 3, 1) := by decide +kernel
theorem dX6_look_52 : decode cX6_look 52 = .ok (.invokevirtual 282, 3) := by decide +kernel
theorem dX6_look_55 : decode cX6_look 55 = .ok (.istore 7, 2) := by decide +kernel
theorem dX6_look_57 : decode cX6_look 57 = .ok (.iload 7, 2) := by decide +kernel
theorem dX6_look_59 : decode cX6_look 59 = .ok (.iload 4, 2) := by decide +kernel
theorem dX6_look_61 : decode cX6_look 61 = .ok (.if_icmp .ge 11, 3) := by decide +kernel
theorem dX6_look_64 : decode cX6_look 64 = .ok (.iload 7, 2) := by decide +kernel
theorem dX6_look_66 : decode cX6_look 66 = .ok (.istore 4, 2) := by decide +kernel
theorem dX6_look_68 : decode cX6_look 68 = .ok (.iload 6, 2) := by decide +kernel
theorem dX6_look_70 : decode cX6_look 70 = .ok (.istore 5, 2) := by decide +kernel
theorem dX6_look_72 : decode cX6_look 72 = .ok (.iinc 6 1, 3) := by decide +kernel
theorem dX6_look_75 : decode cX6_look 75 = .ok (.goto (-34), 3) := by decide +kernel
theorem dX6_look_78 : decode cX6_look 78 = .ok (.iload_n 2, 1) := by decide +kernel
theorem dX6_look_79 : decode cX6_look 79 = .ok (.ifCond .eq 10, 3) := by decide +kernel
theorem dX6_look_82 : decode cX6_look 82 = .ok (.iload 5, 2) := by decide +kernel
theorem dX6_look_84 : decode cX6_look 84 = .ok (.bipush (-4), 2) := by decide +kernel
theorem dX6_look_86 : decode cX6_look 86 = .ok (.if_icmp .ne 8, 3) := by decide +kernel
theorem dX6_look_89 : decode cX6_look 89 = .ok (.iload 5, 2) := by decide +kernel
theorem dX6_look_91 : decode cX6_look 91 = .ok (.goto 5, 3) := by decide +kernel
theorem dX6_look_94 : decode cX6_look 94 = .ok (.iload 4, 2) := by decide +kernel
theorem dX6_look_96 : decode cX6_look 96 = .ok (.ireturn, 1) := by decide +kernel
theorem dX6_drift_0 : decode cX6_drift 0 = .ok (.iload_n 2, 1) := by decide +kernel
theorem dX6_drift_1 : decode cX6_drift 1 = .ok (.iconst 1, 1) := by decide +kernel
theorem dX6_drift_2 : decode cX6_drift 2 = .ok (.if_icmp .lt 18, 3) := by decide +kernel
theorem dX6_drift_5 : decode cX6_drift 5 = .ok (.iload_n 2, 1) := by decide +kernel
theorem dX6_drift_6 : decode cX6_drift 6 = .ok (.bipush 60, 2) := by decide +kernel
theorem dX6_drift_8 : decode cX6_drift 8 = .ok (.if_icmp .gt 12, 3) := by decide +kernel
theorem dX6_drift_11 : decode cX6_drift 11 = .ok (.iload_n 3, 1) := by decide +kernel
theorem dX6_drift_12 : decode cX6_drift 12 = .ok (.ifCond .lt 8, 3) := by decide +kernel
theorem dX6_drift_15 : decode cX6_drift 15 = .ok (.iload_n 3, 1) := by decide +kernel
theorem dX6_drift_16 : decode cX6_drift 16 = .ok (.iconst 1, 1) := by decide +kernel
theorem dX6_drift_17 : decode cX6_drift 17 = .ok (.if_icmp .le 5, 3) := by decide +kernel
theorem dX6_drift_20 : decode cX6_drift 20 = .ok (.iconst (-1), 1) := by decide +kernel
theorem dX6_drift_21 : decode cX6_drift 21 = .ok (.ireturn, 1) := by decide +kernel
theorem dX6_drift_22 : decode cX6_drift 22 = .ok (.aload_n 0, 1) := by decide +kernel
theorem dX6_drift_23 : decode cX6_drift 23 = .ok (.getfield 10, 3) := by decide +kernel
theorem dX6_drift_26 : decode cX6_drift 26 = .ok (.invokevirtual 261, 3) := by decide +kernel
theorem dX6_drift_29 : decode cX6_drift 29 = .ok (.istore 4, 2) := by decide +kernel
theorem dX6_drift_31 : decode cX6_drift 31 = .ok (.iload 4, 2) := by decide +kernel
theorem dX6_drift_33 : decode cX6_drift 33 = .ok (.iconst 1, 1) := by decide +kernel
theorem dX6_drift_34 : decode cX6_drift 34 = .ok (.if_icmp .ge 6, 3) := by decide +kernel
theorem dX6_drift_37 : decode cX6_drift 37 = .ok (.bipush (-2), 2) := by decide +kernel
theorem dX6_drift_39 : decode cX6_drift 39 = .ok (.ireturn, 1) := by decide +kernel
theorem dX6_drift_40 : decode cX6_drift 40 = .ok (.aload_n 0, 1) := by decide +kernel
theorem dX6_drift_41 : decode cX6_drift 41 = .ok (.getfield 16, 3) := by decide +kernel
theorem dX6_drift_44 : decode cX6_drift 44 = .ok (.aload_n 0, 1) := by decide +kernel
theorem dX6_drift_45 : decode cX6_drift 45 = .ok (.getfield 10, 3) := by decide +kernel
theorem dX6_drift_48 : decode cX6_drift 48 = .ok (.invokevirtual 86, 3) := by decide +kernel
theorem dX6_drift_51 : decode cX6_drift 51 = .ok (.iload_n 1, 1) := by decide +kernel
theorem dX6_drift_52 : decode cX6_drift 52 = .ok (.istore 5, 2) := by decide +kernel
theorem dX6_drift_54 : decode cX6_drift 54 = .ok (.iconst 0, 1) := by decide +kernel
theorem dX6_drift_55 : decode cX6_drift 55 = .ok (.istore 6, 2) := by decide +kernel
theorem dX6_drift_57 : decode cX6_drift 57 = .ok (.iconst 0, 1) := by decide +kernel
theorem dX6_drift_58 : decode cX6_drift 58 = .ok (.istore 7, 2) := by decide +kernel
theorem dX6_drift_60 : decode cX6_drift 60 = .ok (.iload 7, 2) := by decide +kernel
theorem dX6_drift_62 : decode cX6_drift 62 = .ok (.iload_n 2, 1) := by decide +kernel
theorem dX6_drift_63 : decode cX6_drift 63 = .ok (.if_icmp .ge 94, 3) := by decide +kernel
theorem dX6_drift_66 : decode cX6_drift 66 = .ok (.iload 5, 2) := by decide +kernel
theorem dX6_drift_68 : decode cX6_drift 68 = .ok (.invokestatic 286, 3) := by decide +kernel
theorem dX6_drift_71 : decode cX6_drift 71 = .ok (.istore 5, 2) := by decide +kernel
theorem dX6_drift_73 : decode cX6_drift 73 = .ok (.aload_n 0, 1) := by decide +kernel
theorem dX6_drift_74 : decode cX6_drift 74 = .ok (.getfield 16, 3) := by decide +kernel
theorem dX6_drift_77 : decode cX6_drift 77 = .ok (.iload 5, 2) := by decide +kernel
theorem dX6_drift_79 : decode cX6_drift 79 = .ok (.invokestatic 289, 3) := by decide +kernel
theorem dX6_drift_82 : decode cX6_drift 82 = .ok (.iload 4, 2) := by decide +kernel
theorem dX6_drift_84 : decode cX6_drift 84 = .ok (.irem, 1) := by decide +kernel
theorem dX6_drift_85 : decode cX6_drift 85 = .ok (.invokevirtual 292, 3) := by decide +kernel
theorem dX6_drift_88 : decode cX6_drift 88 = .ok (.istore 8, 2) := by decide +kernel
theorem dX6_drift_90 : decode cX6_drift 90 = .ok (.iload 5, 2) := by decide +kernel
theorem dX6_drift_92 : decode cX6_drift 92 = .ok (.invokestatic 286, 3) := by decide +kernel
theorem dX6_drift_95 : decode cX6_drift 95 = .ok (.istore 5, 2) := by decide +kernel
theorem dX6_drift_97 : decode cX6_drift 97 = .ok (.aload_n 0, 1) := by decide +kernel
theorem dX6_drift_98 : decode cX6_drift 98 = .ok (.getfield 16, 3) := by decide +kernel
theorem dX6_drift_101 : decode cX6_drift 101 = .ok (.getfield 128, 3) := by decide +kernel
theorem dX6_drift_104 : decode cX6_drift 104 = .ok (.iload 8, 2) := by decide +kernel
theorem dX6_drift_106 : decode cX6_drift 106 = .ok (.aload_n 0, 1) := by decide +kernel
theorem dX6_drift_107 : decode cX6_drift 107 = .ok (.getfield 16, 3) := by decide +kernel
theorem dX6_drift_110 : decode cX6_drift 110 = .ok (.iload 5, 2) := by decide +kernel
theorem dX6_drift_112 : decode cX6_drift 112 = .ok (.invokestatic 289, 3) := by decide +kernel
theorem dX6_drift_115 : decode cX6_drift 115 = .ok (.iload 4, 2) := by decide +kernel
theorem dX6_drift_117 : decode cX6_drift 117 = .ok (.irem, 1) := by decide +kernel
theorem dX6_drift_118 : decode cX6_drift 118 = .ok (.invokevirtual 292, 3) := by decide +kernel
theorem dX6_drift_121 : decode cX6_drift 121 = .ok (.iastore, 1) := by decide +kernel
theorem dX6_drift_122 : decode cX6_drift 122 = .ok (.iload_n 3, 1) := by decide +kernel
theorem dX6_drift_123 : decode cX6_drift 123 = .ok (.iconst 1, 1) := by decide +kernel
theorem dX6_drift_124 : decode cX6_drift 124 = .ok (.if_icmp .ne 27, 3) := by decide +kernel
theorem dX6_drift_127 : decode cX6_drift 127 = .ok (.aload_n 0, 1) := by decide +kernel
theorem dX6_drift_128 : decode cX6_drift 128 = .ok (.getfield 44, 3) := by decide +kernel
theorem dX6_drift_131 : decode cX6_drift 131 = .ok (.aload_n 0, 1) := by decide +kernel
theorem dX6_drift_132 : decode cX6_drift 132 = .ok (.getfield 16, 3) := by decide +kernel
theorem dX6_drift_135 : decode cX6_drift 135 = .ok (.iconst 0, 1) := by decide +kernel
theorem dX6_drift_136 : decode cX6_drift 136 = .ok (.invokevirtual 201, 3) := by decide +kernel
theorem dX6_drift_139 : decode cX6_drift 139 = .ok (.iload 6, 2) := by decide +kernel
theorem dX6_drift_141 : decode cX6_drift 141 = .ok (.aload_n 0, 1) := by decide +kernel
theorem dX6_drift_142 : decode cX6_drift 142 = .ok (.getfield 44, 3) := by decide +kernel
theorem dX6_drift_145 : decode cX6_drift 145 = .ok (.invokevirtual 211, 3) := by decide +kernel
theorem dX6_drift_148 : decode cX6_drift 148 = .ok (.iadd, 1) := by decide +kernel
theorem dX6_drift_149 : decode cX6_drift 149 = .ok (.istore 6, 2) := by decide +kernel
theorem dX6_drift_151 : decode cX6_drift 151 = .ok (.iinc 7 1, 3) := by decide +kernel
theorem dX6_drift_154 : decode cX6_drift 154 = .ok (.goto (-94), 3) := by decide +kernel
theorem dX6_drift_157 : decode cX6_drift 157 = .ok (.iload_n 3, 1) := by decide +kernel
theorem dX6_drift_158 : decode cX6_drift 158 = .ok (.iconst 1, 1) := by decide +kernel
theorem dX6_drift_159 : decode cX6_drift 159 = .ok (.if_icmp .ne 6, 3) := by decide +kernel
theorem dX6_drift_162 : decode cX6_drift 162 = .ok (.iload 6, 2) := by decide +kernel
theorem dX6_drift_164 : decode cX6_drift 164 = .ok (.ireturn, 1) := by decide +kernel
theorem dX6_drift_165 : decode cX6_drift 165 = .ok (.aload_n 0, 1) := by decide +kernel
theorem dX6_drift_166 : decode cX6_drift 166 = .ok (.getfield 44, 3) := by decide +kernel
theorem dX6_drift_169 : decode cX6_drift 169 = .ok (.aload_n 0, 1) := by decide +kernel
theorem dX6_drift_170 : decode cX6_drift 170 = .ok (.getfield 16, 3) := by decide +kernel
theorem dX6_drift_173 : decode cX6_drift 173 = .ok (.iconst 0, 1) := by decide +kernel
theorem dX6_drift_174 : decode cX6_drift 174 = .ok (.invokevirtual 201, 3) := by decide +kernel
theorem dX6_drift_177 : decode cX6_drift 177 = .ok (.aload_n 0, 1) := by decide +kernel
theorem dX6_drift_178 : decode cX6_drift 178 = .ok (.getfield 44, 3) := by decide +kernel
theorem dX6_drift_181 : decode cX6_drift 181 = .ok (.invokevirtual 208, 3) := by decide +kernel
theorem dX6_drift_184 : decode cX6_drift 184 = .ok (.ireturn, 1) := by decide +kernel
theorem dX6_keep_0 : decode cX6_keep 0 = .ok (.iload_n 1, 1) := by decide +kernel
theorem dX6_keep_1 : decode cX6_keep 1 = .ok (.ifCond .lt 8, 3) := by decide +kernel
theorem dX6_keep_4 : decode cX6_keep 4 = .ok (.iload_n 1, 1) := by decide +kernel
theorem dX6_keep_5 : decode cX6_keep 5 = .ok (.iconst 1, 1) := by decide +kernel
theorem dX6_keep_6 : decode cX6_keep 6 = .ok (.if_icmp .le 5, 3) := by decide +kernel
theorem dX6_keep_9 : decode cX6_keep 9 = .ok (.iconst (-1), 1) := by decide +kernel
theorem dX6_keep_10 : decode cX6_keep 10 = .ok (.ireturn, 1) := by decide +kernel
theorem dX6_keep_11 : decode cX6_keep 11 = .ok (.aload_n 0, 1) := by decide +kernel
theorem dX6_keep_12 : decode cX6_keep 12 = .ok (.iload_n 1, 1) := by decide +kernel
theorem dX6_keep_13 : decode cX6_keep 13 = .ok (.invokevirtual 295, 3) := by decide +kernel
theorem dX6_keep_16 : decode cX6_keep 16 = .ok (.ifCond .eq 7, 3) := by decide +kernel
theorem dX6_keep_19 : decode cX6_keep 19 = .ok (.iconst 1, 1) := by decide +kernel
theorem dX6_keep_20 : decode cX6_keep 20 = .ok (.goto 4, 3) := by decide +kernel
theorem dX6_keep_23 : decode cX6_keep 23 = .ok (.iconst 0, 1) := by decide +kernel
theorem dX6_keep_24 : decode cX6_keep 24 = .ok (.istore_n 2, 1) := by decide +kernel
theorem dX6_keep_25 : decode cX6_keep 25 = .ok (.aload_n 0, 1) := by decide +kernel
theorem dX6_keep_26 : decode cX6_keep 26 = .ok (.iload_n 1, 1) := by decide +kernel
theorem dX6_keep_27 : decode cX6_keep 27 = .ok (.invokevirtual 298, 3) := by decide +kernel
theorem dX6_keep_30 : decode cX6_keep 30 = .ok (.aload_n 0, 1) := by decide +kernel
theorem dX6_keep_31 : decode cX6_keep 31 = .ok (.getfield 10, 3) := by decide +kernel
theorem dX6_keep_34 : decode cX6_keep 34 = .ok (.invokevirtual 86, 3) := by decide +kernel
theorem dX6_keep_37 : decode cX6_keep 37 = .ok (.aload_n 0, 1) := by decide +kernel
theorem dX6_keep_38 : decode cX6_keep 38 = .ok (.dup, 1) := by decide +kernel
theorem dX6_keep_39 : decode cX6_keep 39 = .ok (.getfield 91, 3) := by decide +kernel
theorem dX6_keep_42 : decode cX6_keep 42 = .ok (.iconst 1, 1) := by decide +kernel
theorem dX6_keep_43 : decode cX6_keep 43 = .ok (.iload_n 1, 1) := by decide +kernel
theorem dX6_keep_44 : decode cX6_keep 44 = .ok (.ishl, 1) := by decide +kernel
theorem dX6_keep_45 : decode cX6_keep 45 = .ok (.ior, 1) := by decide +kernel
theorem dX6_keep_46 : decode cX6_keep 46 = .ok (.putfield 91, 3) := by decide +kernel
theorem dX6_keep_49 : decode cX6_keep 49 = .ok (.iload_n 2, 1) := by decide +kernel
theorem dX6_keep_50 : decode cX6_keep 50 = .ok (.ireturn, 1) := by decide +kernel
theorem dX6_back_0 : decode cX6_back 0 = .ok (.iload_n 1, 1) := by decide +kernel
theorem dX6_back_1 : decode cX6_back 1 = .ok (.ifCond .lt 8, 3) := by decide +kernel
theorem dX6_back_4 : decode cX6_back 4 = .ok (.iload_n 1, 1) := by decide +kernel
theorem dX6_back_5 : decode cX6_back 5 = .ok (.iconst 1, 1) := by decide +kernel
theorem dX6_back_6 : decode cX6_back 6 = .ok (.if_icmp .le 5, 3) := by decide +kernel
theorem dX6_back_9 : decode cX6_back 9 = .ok (.iconst (-1), 1) := by decide +kernel
theorem dX6_back_10 : decode cX6_back 10 = .ok (.ireturn, 1) := by decide +kernel
theorem dX6_back_11 : decode cX6_back 11 = .ok (.aload_n 0, 1) := by decide +kernel
theorem dX6_back_12 : decode cX6_back 12 = .ok (.iload_n 1, 1) := by decide +kernel
theorem dX6_back_13 : decode cX6_back 13 = .ok (.invokevirtual 295, 3) := by decide +kernel
theorem dX6_back_16 : decode cX6_back 16 = .ok (.ifCond .ne 6, 3) := by decide +kernel
theorem dX6_back_19 : decode cX6_back 19 = .ok (.bipush (-2), 2) := by decide +kernel
theorem dX6_back_21 : decode cX6_back 21 = .ok (.ireturn, 1) := by decide +kernel
theorem dX6_back_22 : decode cX6_back 22 = .ok (.aload_n 0, 1) := by decide +kernel
theorem dX6_back_23 : decode cX6_back 23 = .ok (.getfield 10, 3) := by decide +kernel
theorem dX6_back_26 : decode cX6_back 26 = .ok (.aload_n 0, 1) := by decide +kernel
theorem dX6_back_27 : decode cX6_back 27 = .ok (.iload_n 1, 1) := by decide +kernel
theorem dX6_back_28 : decode cX6_back 28 = .ok (.invokevirtual 298, 3) := by decide +kernel
theorem dX6_back_31 : decode cX6_back 31 = .ok (.invokevirtual 86, 3) := by decide +kernel
theorem dX6_back_34 : decode cX6_back 34 = .ok (.aload_n 0, 1) := by decide +kernel
theorem dX6_back_35 : decode cX6_back 35 = .ok (.getfield 10, 3) := by decide +kernel
theorem dX6_back_38 : decode cX6_back 38 = .ok (.getfield 110, 3) := by decide +kernel
theorem dX6_back_41 : decode cX6_back 41 = .ok (.ireturn, 1) := by decide +kernel
theorem dX6_sheet_0 : decode cX6_sheet 0 = .ok (.iload_n 1, 1) := by decide +kernel
theorem dX6_sheet_1 : decode cX6_sheet 1 = .ok (.invokestatic 302, 3) := by decide +kernel
theorem dX6_sheet_4 : decode cX6_sheet 4 = .ok (.ifCond .eq 16, 3) := by decide +kernel
theorem dX6_sheet_7 : decode cX6_sheet 7 = .ok (.iload_n 2, 1) := by decide +kernel
theorem dX6_sheet_8 : decode cX6_sheet 8 = .ok (.invokestatic 305, 3) := by decide +kernel
theorem dX6_sheet_11 : decode cX6_sheet 11 = .ok (.ifCond .eq 9, 3) := by decide +kernel
theorem dX6_sheet_14 : decode cX6_sheet 14 = .ok (.iload_n 3, 1) := by decide +kernel
theorem dX6_sheet_15 : decode cX6_sheet 15 = .ok (.bipush 40, 2) := by decide +kernel
theorem dX6_sheet_17 : decode cX6_sheet 17 = .ok (.if_icmp .le 5, 3) := by decide +kernel
theorem dX6_sheet_20 : decode cX6_sheet 20 = .ok (.iconst (-1), 1) := by decide +kernel
theorem dX6_sheet_21 : decode cX6_sheet 21 = .ok (.ireturn, 1) := by decide +kernel
theorem dX6_sheet_22 : decode cX6_sheet 22 = .ok (.iload_n 3, 1) := by decide +kernel
theorem dX6_sheet_23 : decode cX6_sheet 23 = .ok (.ifCond .ge 6, 3) := by decide +kernel
theorem dX6_sheet_26 : decode cX6_sheet 26 = .ok (.bipush (-14), 2) := by decide +kernel
theorem dX6_sheet_28 : decode cX6_sheet 28 = .ok (.ireturn, 1) := by decide +kernel
theorem dX6_sheet_29 : decode cX6_sheet 29 = .ok (.aload_n 0, 1) := by decide +kernel
theorem dX6_sheet_30 : decode cX6_sheet 30 = .ok (.getfield 61, 3) := by decide +kernel
theorem dX6_sheet_33 : decode cX6_sheet 33 = .ok (.iload_n 1, 1) := by decide +kernel
theorem dX6_sheet_34 : decode cX6_sheet 34 = .ok (.aaload, 1) := by decide +kernel
theorem dX6_sheet_35 : decode cX6_sheet 35 = .ok (.iload_n 2, 1) := by decide +kernel
theorem dX6_sheet_36 : decode cX6_sheet 36 = .ok (.iload_n 3, 1) := by decide +kernel
theorem dX6_sheet_37 : decode cX6_sheet 37 = .ok (.invokevirtual 308, 3) := by decide +kernel
theorem dX6_sheet_40 : decode cX6_sheet 40 = .ok (.iconst 1, 1) := by decide +kernel
theorem dX6_sheet_41 : decode cX6_sheet 41 = .ok (.ireturn, 1) := by decide +kernel
theorem dX6_lay_0 : decode cX6_lay 0 = .ok (.iload_n 1, 1) := by decide +kernel
theorem dX6_lay_1 : decode cX6_lay 1 = .ok (.invokestatic 302, 3) := by decide +kernel
theorem dX6_lay_4 : decode cX6_lay 4 = .ok (.ifCond .ne 5, 3) := by decide +kernel
theorem dX6_lay_7 : decode cX6_lay 7 = .ok (.iconst (-1), 1) := by decide +kernel
theorem dX6_lay_8 : decode cX6_lay 8 = .ok (.ireturn, 1) := by decide +kernel
theorem dX6_lay_9 : decode cX6_lay 9 = .ok (.aload_n 0, 1) := by decide +kernel
theorem dX6_lay_10 : decode cX6_lay 10 = .ok (.getfield 61, 3) := by decide +kernel
theorem dX6_lay_13 : decode cX6_lay 13 = .ok (.iload_n 1, 1) := by decide +kernel
theorem dX6_lay_14 : decode cX6_lay 14 = .ok (.aaload, 1) := by decide +kernel
theorem dX6_lay_15 : decode cX6_lay 15 = .ok (.astore 4, 2) := by decide +kernel
theorem dX6_lay_17 : decode cX6_lay 17 = .ok (.aload 4, 2) := by decide +kernel
theorem dX6_lay_19 : decode cX6_lay 19 = .ok (.aload 4, 2) := by decide +kernel
theorem dX6_lay_21 : decode cX6_lay 21 = .ok (.getfield 311, 3) := by decide +kernel
theorem dX6_lay_24 : decode cX6_lay 24 = .ok (.iload_n 2, 1) := by decide +kernel
theorem dX6_lay_25 : decode cX6_lay 25 = .ok (.invokevirtual 314, 3) := by decide +kernel
theorem dX6_lay_28 : decode cX6_lay 28 = .ok (.istore 5, 2) := by decide +kernel
theorem dX6_lay_30 : decode cX6_lay 30 = .ok (.iload 5, 2) := by decide +kernel
theorem dX6_lay_32 : decode cX6_lay 32 = .ok (.ifCond .eq 9, 3) := by decide +kernel
theorem dX6_lay_35 : decode cX6_lay 35 = .ok (.bipush (-10), 2) := by decide +kernel
theorem dX6_lay_37 : decode cX6_lay 37 = .ok (.iload 5, 2) := by decide +kernel
theorem dX6_lay_39 : decode cX6_lay 39 = .ok (.isub, 1) := by decide +kernel
theorem dX6_lay_40 : decode cX6_lay 40 = .ok (.ireturn, 1) := by decide +kernel
theorem dX6_lay_41 : decode cX6_lay 41 = .ok (.aload 4, 2) := by decide +kernel
theorem dX6_lay_43 : decode cX6_lay 43 = .ok (.iload_n 2, 1) := by decide +kernel
theorem dX6_lay_44 : decode cX6_lay 44 = .ok (.iload_n 3, 1) := by decide +kernel
theorem dX6_lay_45 : decode cX6_lay 45 = .ok (.invokevirtual 317, 3) := by decide +kernel
theorem dX6_lay_48 : decode cX6_lay 48 = .ok (.iconst 1, 1) := by decide +kernel
theorem dX6_lay_49 : decode cX6_lay 49 = .ok (.ireturn, 1) := by decide +kernel
theorem dX6_read_0 : decode cX6_read 0 = .ok (.iload_n 1, 1) := by decide +kernel
theorem dX6_read_1 : decode cX6_read 1 = .ok (.invokestatic 302, 3) := by decide +kernel
theorem dX6_read_4 : decode cX6_read 4 = .ok (.ifCond .eq 22, 3) := by decide +kernel
theorem dX6_read_7 : decode cX6_read 7 = .ok (.iload_n 2, 1) := by decide +kernel
theorem dX6_read_8 : decode cX6_read 8 = .ok (.invokestatic 305, 3) := by decide +kernel
theorem dX6_read_11 : decode cX6_read 11 = .ok (.ifCond .eq 15, 3) := by decide +kernel
theorem dX6_read_14 : decode cX6_read 14 = .ok (.iload 4, 2) := by decide +kernel
theorem dX6_read_16 : decode cX6_read 16 = .ok (.ifCond .lt 10, 3) := by decide +kernel
theorem dX6_read_19 : decode cX6_read 19 = .ok (.iload 4, 2) := by decide +kernel
theorem dX6_read_21 : decode cX6_read 21 = .ok (.bipush 20, 2) := by decide +kernel
theorem dX6_read_23 : decode cX6_read 23 = .ok (.if_icmp .le 5, 3) := by decide +kernel
theorem dX6_read_26 : decode cX6_read 26 = .ok (.iconst (-1), 1) := by decide +kernel
theorem dX6_read_27 : decode cX6_read 27 = .ok (.ireturn, 1) := by decide +kernel
theorem dX6_read_28 : decode cX6_read 28 = .ok (.aload_n 0, 1) := by decide +kernel
theorem dX6_read_29 : decode cX6_read 29 = .ok (.getfield 61, 3) := by decide +kernel
theorem dX6_read_32 : decode cX6_read 32 = .ok (.iload_n 1, 1) := by decide +kernel
theorem dX6_read_33 : decode cX6_read 33 = .ok (.aaload, 1) := by decide +kernel
theorem dX6_read_34 : decode cX6_read 34 = .ok (.astore 5, 2) := by decide +kernel
theorem dX6_read_36 : decode cX6_read 36 = .ok (.aload_n 0, 1) := by decide +kernel
theorem dX6_read_37 : decode cX6_read 37 = .ok (.getfield 16, 3) := by decide +kernel
theorem dX6_read_40 : decode cX6_read 40 = .ok (.aload_n 0, 1) := by decide +kernel
theorem dX6_read_41 : decode cX6_read 41 = .ok (.getfield 10, 3) := by decide +kernel
theorem dX6_read_44 : decode cX6_read 44 = .ok (.invokevirtual 86, 3) := by decide +kernel
theorem dX6_read_47 : decode cX6_read 47 = .ok (.iconst 0, 1) := by decide +kernel
theorem dX6_read_48 : decode cX6_read 48 = .ok (.istore 6, 2) := by decide +kernel
theorem dX6_read_50 : decode cX6_read 50 = .ok (.iconst 0, 1) := by decide +kernel
theorem dX6_read_51 : decode cX6_read 51 = .ok (.istore 7, 2) := by decide +kernel
theorem dX6_read_53 : decode cX6_read 53 = .ok (.iconst 0, 1) := by decide +kernel
theorem dX6_read_54 : decode cX6_read 54 = .ok (.istore 8, 2) := by decide +kernel
theorem dX6_read_56 : decode cX6_read 56 = .ok (.iload 8, 2) := by decide +kernel
theorem dX6_read_58 : decode cX6_read 58 = .ok (.iload 4, 2) := by decide +kernel
theorem dX6_read_60 : decode cX6_read 60 = .ok (.if_icmp .ge 102, 3) := by decide +kernel
theorem dX6_read_63 : decode cX6_read 63 = .ok (.iload_n 3, 1) := by decide +kernel
theorem dX6_read_64 : decode cX6_read 64 = .ok (.iconst 2, 1) := by decide +kernel
theorem dX6_read_65 : decode cX6_read 65 = .ok (.iload 8, 2) := by decide +kernel
theorem dX6_read_67 : decode cX6_read 67 = .ok (.imul, 1) := by decide +kernel
theorem dX6_read_68 : decode cX6_read 68 = .ok (.iadd, 1) := by decide +kernel
theorem dX6_read_69 : decode cX6_read 69 = .ok (.istore 9, 2) := by decide +kernel
theorem dX6_read_71 : decode cX6_read 71 = .ok (.aload 5, 2) := by decide +kernel
theorem dX6_read_73 : decode cX6_read 73 = .ok (.iload_n 2, 1) := by decide +kernel
theorem dX6_read_74 : decode cX6_read 74 = .ok (.iload 9, 2) := by decide +kernel
theorem dX6_read_76 : decode cX6_read 76 = .ok (.invokevirtual 319, 3) := by decide +kernel
theorem dX6_read_79 : decode cX6_read 79 = .ok (.istore 6, 2) := by decide +kernel
theorem dX6_read_81 : decode cX6_read 81 = .ok (.iload 6, 2) := by decide +kernel
theorem dX6_read_83 : decode cX6_read 83 = .ok (.ifCond .eq 6, 3) := by decide +kernel
theorem dX6_read_86 : decode cX6_read 86 = .ok (.goto 76, 3) := by decide +kernel
theorem dX6_read_89 : decode cX6_read 89 = .ok (.aload 5, 2) := by decide +kernel
theorem dX6_read_91 : decode cX6_read 91 = .ok (.getfield 322, 3) := by decide +kernel
theorem dX6_read_94 : decode cX6_read 94 = .ok (.iload 9, 2) := by decide +kernel
theorem dX6_read_96 : decode cX6_read 96 = .ok (.iaload, 1) := by decide +kernel
theorem dX6_read_97 : decode cX6_read 97 = .ok (.istore 10, 2) := by decide +kernel
theorem dX6_read_99 : decode cX6_read 99 = .ok (.aload 5, 2) := by decide +kernel
theorem dX6_read_101 : decode cX6_read 101 = .ok (.getfield 322, 3) := by decide +kernel
theorem dX6_read_104 : decode cX6_read 104 = .ok (.iload 9, 2) := by decide +kernel
theorem dX6_read_106 : decode cX6_read 106 = .ok (.iconst 1, 1) := by decide +kernel
theorem dX6_read_107 : decode cX6_read 107 = .ok (.iadd, 1) := by decide +kernel
theorem dX6_read_108 : decode cX6_read 108 = .ok (.iaload, 1) := by decide +kernel
theorem dX6_read_109 : decode cX6_read 109 = .ok (.istore 11, 2) := by decide +kernel
theorem dX6_read_111 : decode cX6_read 111 = .ok (.aload_n 0, 1) := by decide +kernel
theorem dX6_read_112 : decode cX6_read 112 = .ok (.getfield 10, 3) := by decide +kernel
theorem dX6_read_115 : decode cX6_read 115 = .ok (.iload 10, 2) := by decide +kernel
theorem dX6_read_117 : decode cX6_read 117 = .ok (.invokevirtual 113, 3) := by decide +kernel
theorem dX6_read_120 : decode cX6_read 120 = .ok (.ifCond .eq 15, 3) := by decide +kernel
theorem dX6_read_123 : decode cX6_read 123 = .ok (.aload_n 0, 1) := by decide +kernel
theorem dX6_read_124 : decode cX6_read 124 = .ok (.getfield 10, 3) := by decide +kernel
theorem dX6_read_127 : decode cX6_read 127 = .ok (.iload 11, 2) := by decide +kernel
theorem dX6_read_129 : decode cX6_read 129 = .ok (.invokevirtual 113, 3) := by decide +kernel
theorem dX6_read_132 : decode cX6_read 132 = .ok (.ifCond .ne 9, 3) := by decide +kernel
theorem dX6_read_135 : decode cX6_read 135 = .ok (.bipush (-20), 2) := by decide +kernel
theorem dX6_read_137 : decode cX6_read 137 = .ok (.iload 8, 2) := by decide +kernel
theorem dX6_read_139 : decode cX6_read 139 = .ok (.isub, 1) := by decide +kernel
theorem dX6_read_140 : decode cX6_read 140 = .ok (.ireturn, 1) := by decide +kernel
theorem dX6_read_141 : decode cX6_read 141 = .ok (.aload_n 0, 1) := by decide +kernel
theorem dX6_read_142 : decode cX6_read 142 = .ok (.getfield 16, 3) := by decide +kernel
theorem dX6_read_145 : decode cX6_read 145 = .ok (.getfield 128, 3) := by decide +kernel
theorem dX6_read_148 : decode cX6_read 148 = .ok (.iload 10, 2) := by decide +kernel
theorem dX6_read_150 : decode cX6_read 150 = .ok (.iload 11, 2) := by decide +kernel
theorem dX6_read_152 : decode cX6_read 152 = .ok (.iastore, 1) := by decide +kernel
theorem dX6_read_153 : decode cX6_read 153 = .ok (.iinc 7 1, 3) := by decide +kernel
theorem dX6_read_156 : decode cX6_read 156 = .ok (.iinc 8 1, 3) := by decide +kernel
theorem dX6_read_159 : decode cX6_read 159 = .ok (.goto (-103), 3) := by decide +kernel
theorem dX6_read_162 : decode cX6_read 162 = .ok (.aload_n 0, 1) := by decide +kernel
theorem dX6_read_163 : decode cX6_read 163 = .ok (.getfield 10, 3) := by decide +kernel
theorem dX6_read_166 : decode cX6_read 166 = .ok (.aload_n 0, 1) := by decide +kernel
theorem dX6_read_167 : decode cX6_read 167 = .ok (.getfield 16, 3) := by decide +kernel
theorem dX6_read_170 : decode cX6_read 170 = .ok (.invokevirtual 86, 3) := by decide +kernel
theorem dX6_read_173 : decode cX6_read 173 = .ok (.aload_n 0, 1) := by decide +kernel
theorem dX6_read_174 : decode cX6_read 174 = .ok (.iload 6, 2) := by decide +kernel
theorem dX6_read_176 : decode cX6_read 176 = .ok (.putfield 325, 3) := by decide +kernel
theorem dX6_read_179 : decode cX6_read 179 = .ok (.iload 7, 2) := by decide +kernel
theorem dX6_read_181 : decode cX6_read 181 = .ok (.ireturn, 1) := by decide +kernel
theorem dX6_torn_0 : decode cX6_torn 0 = .ok (.aload_n 0, 1) := by decide +kernel
theorem dX6_torn_1 : decode cX6_torn 1 = .ok (.getfield 325, 3) := by decide +kernel
theorem dX6_torn_4 : decode cX6_torn 4 = .ok (.ireturn, 1) := by decide +kernel
theorem dX6_count_0 : decode cX6_count 0 = .ok (.iload_n 1, 1) := by decide +kernel
theorem dX6_count_1 : decode cX6_count 1 = .ok (.tableswitch 106 0 5 #[39, 47, 55, 63, 90, 98], 39) := by decide +kernel
theorem dX6_count_40 : decode cX6_count 40 = .ok (.aload_n 0, 1) := by decide +kernel
theorem dX6_count_41 : decode cX6_count 41 = .ok (.getfield 51, 3) := by decide +kernel
theorem dX6_count_44 : decode cX6_count 44 = .ok (.getfield 90, 3) := by decide +kernel
theorem dX6_count_47 : decode cX6_count 47 = .ok (.ireturn, 1) := by decide +kernel
theorem dX6_count_48 : decode cX6_count 48 = .ok (.aload_n 0, 1) := by decide +kernel
theorem dX6_count_49 : decode cX6_count 49 = .ok (.getfield 91, 3) := by decide +kernel
theorem dX6_count_52 : decode cX6_count 52 = .ok (.invokestatic 277, 3) := by decide +kernel
theorem dX6_count_55 : decode cX6_count 55 = .ok (.ireturn, 1) := by decide +kernel
theorem dX6_count_56 : decode cX6_count 56 = .ok (.aload_n 0, 1) := by decide +kernel
theorem dX6_count_57 : decode cX6_count 57 = .ok (.getfield 28, 3) := by decide +kernel
theorem dX6_count_60 : decode cX6_count 60 = .ok (.getfield 70, 3) := by decide +kernel
theorem dX6_count_63 : decode cX6_count 63 = .ok (.ireturn, 1) := by decide +kernel
theorem dX6_count_64 : decode cX6_count 64 = .ok (.aload_n 0, 1) := by decide +kernel
theorem dX6_count_65 : decode cX6_count 65 = .ok (.getfield 61, 3) := by decide +kernel
theorem dX6_count_68 : decode cX6_count 68 = .ok (.iconst 0, 1) := by decide +kernel
theorem dX6_count_69 : decode cX6_count 69 = .ok (.aaload, 1) := by decide +kernel
theorem dX6_count_70 : decode cX6_count 70 = .ok (.invokevirtual 328, 3) := by decide +kernel
theorem dX6_count_73 : decode cX6_count 73 = .ok (.ifCond .eq 8, 3) := by decide +kernel
theorem dX6_count_76 : decode cX6_count 76 = .ok (.bipush (-4), 2) := by decide +kernel
theorem dX6_count_78 : decode cX6_count 78 = .ok (.goto 12, 3) := by decide +kernel
theorem dX6_count_81 : decode cX6_count 81 = .ok (.aload_n 0, 1) := by decide +kernel
theorem dX6_count_82 : decode cX6_count 82 = .ok (.getfield 61, 3) := by decide +kernel
theorem dX6_count_85 : decode cX6_count 85 = .ok (.iconst 0, 1) := by decide +kernel
theorem dX6_count_86 : decode cX6_count 86 = .ok (.aaload, 1) := by decide +kernel
theorem dX6_count_87 : decode cX6_count 87 = .ok (.getfield 331, 3) := by decide +kernel
theorem dX6_count_90 : decode cX6_count 90 = .ok (.ireturn, 1) := by decide +kernel
theorem dX6_count_91 : decode cX6_count 91 = .ok (.aload_n 0, 1) := by decide +kernel
theorem dX6_count_92 : decode cX6_count 92 = .ok (.getfield 10, 3) := by decide +kernel
theorem dX6_count_95 : decode cX6_count 95 = .ok (.invokevirtual 195, 3) := by decide +kernel
theorem dX6_count_98 : decode cX6_count 98 = .ok (.ireturn, 1) := by decide +kernel
theorem dX6_count_99 : decode cX6_count 99 = .ok (.aload_n 0, 1) := by decide +kernel
theorem dX6_count_100 : decode cX6_count 100 = .ok (.getfield 10, 3) := by decide +kernel
theorem dX6_count_103 : decode cX6_count 103 = .ok (.invokevirtual 332, 3) := by decide +kernel
theorem dX6_count_106 : decode cX6_count 106 = .ok (.ireturn, 1) := by decide +kernel
theorem dX6_count_107 : decode cX6_count 107 = .ok (.iconst (-1), 1) := by decide +kernel
theorem dX6_count_108 : decode cX6_count 108 = .ok (.ireturn, 1) := by decide +kernel
theorem dX6_orNone_0 : decode cX6_orNone 0 = .ok (.iload_n 0, 1) := by decide +kernel
theorem dX6_orNone_1 : decode cX6_orNone 1 = .ok (.iconst (-1), 1) := by decide +kernel
theorem dX6_orNone_2 : decode cX6_orNone 2 = .ok (.if_icmp .ne 8, 3) := by decide +kernel
theorem dX6_orNone_5 : decode cX6_orNone 5 = .ok (.bipush (-4), 2) := by decide +kernel
theorem dX6_orNone_7 : decode cX6_orNone 7 = .ok (.goto 4, 3) := by decide +kernel
theorem dX6_orNone_10 : decode cX6_orNone 10 = .ok (.iload_n 0, 1) := by decide +kernel
theorem dX6_orNone_11 : decode cX6_orNone 11 = .ok (.ireturn, 1) := by decide +kernel
theorem dX6_isTrait_0 : decode cX6_isTrait 0 = .ok (.iload_n 0, 1) := by decide +kernel
theorem dX6_isTrait_1 : decode cX6_isTrait 1 = .ok (.ifCond .lt 12, 3) := by decide +kernel
theorem dX6_isTrait_4 : decode cX6_isTrait 4 = .ok (.iload_n 0, 1) := by decide +kernel
theorem dX6_isTrait_5 : decode cX6_isTrait 5 = .ok (.iconst 2, 1) := by decide +kernel
theorem dX6_isTrait_6 : decode cX6_isTrait 6 = .ok (.if_icmp .gt 7, 3) := by decide +kernel
theorem dX6_isTrait_9 : decode cX6_isTrait 9 = .ok (.iconst 1, 1) := by decide +kernel
theorem dX6_isTrait_10 : decode cX6_isTrait 10 = .ok (.goto 4, 3) := by decide +kernel
theorem dX6_isTrait_13 : decode cX6_isTrait 13 = .ok (.iconst 0, 1) := by decide +kernel
theorem dX6_isTrait_14 : decode cX6_isTrait 14 = .ok (.ireturn, 1) := by decide +kernel
theorem dX6_isStrokes_0 : decode cX6_isStrokes 0 = .ok (.iload_n 0, 1) := by decide +kernel
theorem dX6_isStrokes_1 : decode cX6_isStrokes 1 = .ok (.ifCond .lt 13, 3) := by decide +kernel
theorem dX6_isStrokes_4 : decode cX6_isStrokes 4 = .ok (.iload_n 0, 1) := by decide +kernel
theorem dX6_isStrokes_5 : decode cX6_isStrokes 5 = .ok (.bipush 9, 2) := by decide +kernel
theorem dX6_isStrokes_7 : decode cX6_isStrokes 7 = .ok (.if_icmp .gt 7, 3) := by decide +kernel
theorem dX6_isStrokes_10 : decode cX6_isStrokes 10 = .ok (.iconst 1, 1) := by decide +kernel
theorem dX6_isStrokes_11 : decode cX6_isStrokes 11 = .ok (.goto 4, 3) := by decide +kernel
theorem dX6_isStrokes_14 : decode cX6_isStrokes 14 = .ok (.iconst 0, 1) := by decide +kernel
theorem dX6_isStrokes_15 : decode cX6_isStrokes 15 = .ok (.ireturn, 1) := by decide +kernel
theorem dX6_isSheet_0 : decode cX6_isSheet 0 = .ok (.iload_n 0, 1) := by decide +kernel
theorem dX6_isSheet_1 : decode cX6_isSheet 1 = .ok (.ifCond .lt 12, 3) := by decide +kernel
theorem dX6_isSheet_4 : decode cX6_isSheet 4 = .ok (.iload_n 0, 1) := by decide +kernel
theorem dX6_isSheet_5 : decode cX6_isSheet 5 = .ok (.iconst 4, 1) := by decide +kernel
theorem dX6_isSheet_6 : decode cX6_isSheet 6 = .ok (.if_icmp .ge 7, 3) := by decide +kernel
theorem dX6_isSheet_9 : decode cX6_isSheet 9 = .ok (.iconst 1, 1) := by decide +kernel
theorem dX6_isSheet_10 : decode cX6_isSheet 10 = .ok (.goto 4, 3) := by decide +kernel
theorem dX6_isSheet_13 : decode cX6_isSheet 13 = .ok (.iconst 0, 1) := by decide +kernel
theorem dX6_isSheet_14 : decode cX6_isSheet 14 = .ok (.ireturn, 1) := by decide +kernel
theorem dX6_isLane_0 : decode cX6_isLane 0 = .ok (.iload_n 0, 1) := by decide +kernel
theorem dX6_isLane_1 : decode cX6_isLane 1 = .ok (.ifCond .lt 12, 3) := by decide +kernel
theorem dX6_isLane_4 : decode cX6_isLane 4 = .ok (.iload_n 0, 1) := by decide +kernel
theorem dX6_isLane_5 : decode cX6_isLane 5 = .ok (.iconst 3, 1) := by decide +kernel
theorem dX6_isLane_6 : decode cX6_isLane 6 = .ok (.if_icmp .ge 7, 3) := by decide +kernel
theorem dX6_isLane_9 : decode cX6_isLane 9 = .ok (.iconst 1, 1) := by decide +kernel
theorem dX6_isLane_10 : decode cX6_isLane 10 = .ok (.goto 4, 3) := by decide +kernel
theorem dX6_isLane_13 : decode cX6_isLane 13 = .ok (.iconst 0, 1) := by decide +kernel
theorem dX6_isLane_14 : decode cX6_isLane 14 = .ok (.ireturn, 1) := by decide +kernel
theorem dX6_replace_0 : decode cX6_replace 0 = .ok (.iload_n 3, 1) := by decide +kernel
theorem dX6_replace_1 : decode cX6_replace 1 = .ok (.ifCond .eq 13, 3) := by decide +kernel
theorem dX6_replace_4 : decode cX6_replace 4 = .ok (.iload_n 1, 1) := by decide +kernel
theorem dX6_replace_5 : decode cX6_replace 5 = .ok (.ifCond .lt 9, 3) := by decide +kernel
theorem dX6_replace_8 : decode cX6_replace 8 = .ok (.iload_n 1, 1) := by decide +kernel
theorem dX6_replace_9 : decode cX6_replace 9 = .ok (.aload_n 0, 1) := by decide +kernel
theorem dX6_replace_10 : decode cX6_replace 10 = .ok (.arraylength, 1) := by decide +kernel
theorem dX6_replace_11 : decode cX6_replace 11 = .ok (.if_icmp .lt 5, 3) := by decide +kernel
theorem dX6_replace_14 : decode cX6_replace 14 = .ok (.iconst (-1), 1) := by decide +kernel
theorem dX6_replace_15 : decode cX6_replace 15 = .ok (.ireturn, 1) := by decide +kernel
theorem dX6_replace_16 : decode cX6_replace 16 = .ok (.aload_n 0, 1) := by decide +kernel
theorem dX6_replace_17 : decode cX6_replace 17 = .ok (.iload_n 1, 1) := by decide +kernel
theorem dX6_replace_18 : decode cX6_replace 18 = .ok (.iaload, 1) := by decide +kernel
theorem dX6_replace_19 : decode cX6_replace 19 = .ok (.istore 4, 2) := by decide +kernel
theorem dX6_replace_21 : decode cX6_replace 21 = .ok (.aload_n 0, 1) := by decide +kernel
theorem dX6_replace_22 : decode cX6_replace 22 = .ok (.iload_n 1, 1) := by decide +kernel
theorem dX6_replace_23 : decode cX6_replace 23 = .ok (.iload_n 2, 1) := by decide +kernel
theorem dX6_replace_24 : decode cX6_replace 24 = .ok (.iastore, 1) := by decide +kernel
theorem dX6_replace_25 : decode cX6_replace 25 = .ok (.iload 4, 2) := by decide +kernel
theorem dX6_replace_27 : decode cX6_replace 27 = .ok (.ireturn, 1) := by decide +kernel
theorem dX6_likesIfSwapped_0 : decode cX6_likesIfSwapped 0 = .ok (.aload_n 0, 1) := by decide +kernel
theorem dX6_likesIfSwapped_1 : decode cX6_likesIfSwapped 1 = .ok (.getfield 16, 3) := by decide +kernel
theorem dX6_likesIfSwapped_4 : decode cX6_likesIfSwapped 4 = .ok (.iload_n 1, 1) := by decide +kernel
theorem dX6_likesIfSwapped_5 : decode cX6_likesIfSwapped 5 = .ok (.iload_n 2, 1) := by decide +kernel
theorem dX6_likesIfSwapped_6 : decode cX6_likesIfSwapped 6 = .ok (.invokevirtual 335, 3) := by decide +kernel
theorem dX6_likesIfSwapped_9 : decode cX6_likesIfSwapped 9 = .ok (.aload_n 0, 1) := by decide +kernel
theorem dX6_likesIfSwapped_10 : decode cX6_likesIfSwapped 10 = .ok (.getfield 44, 3) := by decide +kernel
theorem dX6_likesIfSwapped_13 : decode cX6_likesIfSwapped 13 = .ok (.aload_n 0, 1) := by decide +kernel
theorem dX6_likesIfSwapped_14 : decode cX6_likesIfSwapped 14 = .ok (.getfield 16, 3) := by decide +kernel
theorem dX6_likesIfSwapped_17 : decode cX6_likesIfSwapped 17 = .ok (.iconst 0, 1) := by decide +kernel
theorem dX6_likesIfSwapped_18 : decode cX6_likesIfSwapped 18 = .ok (.invokevirtual 201, 3) := by decide +kernel
theorem dX6_likesIfSwapped_21 : decode cX6_likesIfSwapped 21 = .ok (.aload_n 0, 1) := by decide +kernel
theorem dX6_likesIfSwapped_22 : decode cX6_likesIfSwapped 22 = .ok (.getfield 16, 3) := by decide +kernel
theorem dX6_likesIfSwapped_25 : decode cX6_likesIfSwapped 25 = .ok (.iload_n 1, 1) := by decide +kernel
theorem dX6_likesIfSwapped_26 : decode cX6_likesIfSwapped 26 = .ok (.iload_n 2, 1) := by decide +kernel
theorem dX6_likesIfSwapped_27 : decode cX6_likesIfSwapped 27 = .ok (.invokevirtual 335, 3) := by decide +kernel
theorem dX6_likesIfSwapped_30 : decode cX6_likesIfSwapped 30 = .ok (.aload_n 0, 1) := by decide +kernel
theorem dX6_likesIfSwapped_31 : decode cX6_likesIfSwapped 31 = .ok (.getfield 44, 3) := by decide +kernel
theorem dX6_likesIfSwapped_34 : decode cX6_likesIfSwapped 34 = .ok (.invokevirtual 211, 3) := by decide +kernel
theorem dX6_likesIfSwapped_37 : decode cX6_likesIfSwapped 37 = .ok (.ireturn, 1) := by decide +kernel
theorem dX6_stolenSum_0 : decode cX6_stolenSum 0 = .ok (.aload_n 0, 1) := by decide +kernel
theorem dX6_stolenSum_1 : decode cX6_stolenSum 1 = .ok (.getfield 44, 3) := by decide +kernel
theorem dX6_stolenSum_4 : decode cX6_stolenSum 4 = .ok (.aload_n 0, 1) := by decide +kernel
theorem dX6_stolenSum_5 : decode cX6_stolenSum 5 = .ok (.getfield 10, 3) := by decide +kernel
theorem dX6_stolenSum_8 : decode cX6_stolenSum 8 = .ok (.invokevirtual 152, 3) := by decide +kernel
theorem dX6_stolenSum_11 : decode cX6_stolenSum 11 = .ok (.aload_n 0, 1) := by decide +kernel
theorem dX6_stolenSum_12 : decode cX6_stolenSum 12 = .ok (.getfield 44, 3) := by decide +kernel
theorem dX6_stolenSum_15 : decode cX6_stolenSum 15 = .ok (.getfield 236, 3) := by decide +kernel
theorem dX6_stolenSum_18 : decode cX6_stolenSum 18 = .ok (.istore_n 3, 1) := by decide +kernel
theorem dX6_stolenSum_19 : decode cX6_stolenSum 19 = .ok (.lconst 0, 1) := by decide +kernel
theorem dX6_stolenSum_20 : decode cX6_stolenSum 20 = .ok (.lstore 4, 2) := by decide +kernel
theorem dX6_stolenSum_22 : decode cX6_stolenSum 22 = .ok (.iconst 0, 1) := by decide +kernel
theorem dX6_stolenSum_23 : decode cX6_stolenSum 23 = .ok (.istore 6, 2) := by decide +kernel
theorem dX6_stolenSum_25 : decode cX6_stolenSum 25 = .ok (.iload 6, 2) := by decide +kernel
theorem dX6_stolenSum_27 : decode cX6_stolenSum 27 = .ok (.sipush 256, 3) := by decide +kernel
theorem dX6_stolenSum_30 : decode cX6_stolenSum 30 = .ok (.if_icmp .ge 122, 3) := by decide +kernel
theorem dX6_stolenSum_33 : decode cX6_stolenSum 33 = .ok (.iload 6, 2) := by decide +kernel
theorem dX6_stolenSum_35 : decode cX6_stolenSum 35 = .ok (.iload_n 3, 1) := by decide +kernel
theorem dX6_stolenSum_36 : decode cX6_stolenSum 36 = .ok (.iconst (-1), 1) := by decide +kernel
theorem dX6_stolenSum_37 : decode cX6_stolenSum 37 = .ok (.ixor, 1) := by decide +kernel
theorem dX6_stolenSum_38 : decode cX6_stolenSum 38 = .ok (.iand, 1) := by decide +kernel
theorem dX6_stolenSum_39 : decode cX6_stolenSum 39 = .ok (.ifCond .eq 6, 3) := by decide +kernel
theorem dX6_stolenSum_42 : decode cX6_stolenSum 42 = .ok (.goto 104, 3) := by decide +kernel
theorem dX6_stolenSum_45 : decode cX6_stolenSum 45 = .ok (.iload 6, 2) := by decide +kernel
theorem dX6_stolenSum_47 : decode cX6_stolenSum 47 = .ok (.invokestatic 277, 3) := by decide +kernel
theorem dX6_stolenSum_50 : decode cX6_stolenSum 50 = .ok (.istore 7, 2) := by decide +kernel
theorem dX6_stolenSum_52 : decode cX6_stolenSum 52 = .ok (.iload_n 1, 1) := by decide +kernel
theorem dX6_stolenSum_53 : decode cX6_stolenSum 53 = .ok (.iload 7, 2) := by decide +kernel
theorem dX6_stolenSum_55 : decode cX6_stolenSum 55 = .ok (.invokestatic 263, 3) := by decide +kernel
theorem dX6_stolenSum_58 : decode cX6_stolenSum 58 = .ok (.bipush 10, 2) := by decide +kernel
theorem dX6_stolenSum_60 : decode cX6_stolenSum 60 = .ok (.iload_n 1, 1) := by decide +kernel
theorem dX6_stolenSum_61 : decode cX6_stolenSum 61 = .ok (.isub, 1) := by decide +kernel
theorem dX6_stolenSum_62 : decode cX6_stolenSum 62 = .ok (.aload_n 0, 1) := by decide +kernel
theorem dX6_stolenSum_63 : decode cX6_stolenSum 63 = .ok (.getfield 10, 3) := by decide +kernel
theorem dX6_stolenSum_66 : decode cX6_stolenSum 66 = .ok (.invokevirtual 261, 3) := by decide +kernel
theorem dX6_stolenSum_69 : decode cX6_stolenSum 69 = .ok (.iload 7, 2) := by decide +kernel
theorem dX6_stolenSum_71 : decode cX6_stolenSum 71 = .ok (.isub, 1) := by decide +kernel
theorem dX6_stolenSum_72 : decode cX6_stolenSum 72 = .ok (.invokestatic 263, 3) := by decide +kernel
theorem dX6_stolenSum_75 : decode cX6_stolenSum 75 = .ok (.lmul, 1) := by decide +kernel
theorem dX6_stolenSum_76 : decode cX6_stolenSum 76 = .ok (.lstore 8, 2) := by decide +kernel
theorem dX6_stolenSum_78 : decode cX6_stolenSum 78 = .ok (.lload 8, 2) := by decide +kernel
theorem dX6_stolenSum_80 : decode cX6_stolenSum 80 = .ok (.lconst 0, 1) := by decide +kernel
theorem dX6_stolenSum_81 : decode cX6_stolenSum 81 = .ok (.lcmp, 1) := by decide +kernel
theorem dX6_stolenSum_82 : decode cX6_stolenSum 82 = .ok (.ifCond .le 64, 3) := by decide +kernel
theorem dX6_stolenSum_85 : decode cX6_stolenSum 85 = .ok (.aload_n 0, 1) := by decide +kernel
theorem dX6_stolenSum_86 : decode cX6_stolenSum 86 = .ok (.getfield 44, 3) := by decide +kernel
theorem dX6_stolenSum_89 : decode cX6_stolenSum 89 = .ok (.iload_n 3, 1) := by decide +kernel
theorem dX6_stolenSum_90 : decode cX6_stolenSum 90 = .ok (.iload 6, 2) := by decide +kernel
theorem dX6_stolenSum_92 : decode cX6_stolenSum 92 = .ok (.iconst (-1), 1) := by decide +kernel
theorem dX6_stolenSum_93 : decode cX6_stolenSum 93 = .ok (.ixor, 1) := by decide +kernel
theorem dX6_stolenSum_94 : decode cX6_stolenSum 94 = .ok (.iand, 1) := by decide +kernel
theorem dX6_stolenSum_95 : decode cX6_stolenSum 95 = .ok (.bipush 15, 2) := by decide +kernel
theorem dX6_stolenSum_97 : decode cX6_stolenSum 97 = .ok (.iand, 1) := by decide +kernel
theorem dX6_stolenSum_98 : decode cX6_stolenSum 98 = .ok (.iload_n 3, 1) := by decide +kernel
theorem dX6_stolenSum_99 : decode cX6_stolenSum 99 = .ok (.iload 6, 2) := by decide +kernel
theorem dX6_stolenSum_101 : decode cX6_stolenSum 101 = .ok (.iconst (-1), 1) := by decide +kernel
theorem dX6_stolenSum_102 : decode cX6_stolenSum 102 = .ok (.ixor, 1) := by decide +kernel
theorem dX6_stolenSum_103 : decode cX6_stolenSum 103 = .ok (.iand, 1) := by decide +kernel
theorem dX6_stolenSum_104 : decode cX6_stolenSum 104 = .ok (.sipush 240, 3) := by decide +kernel
theorem dX6_stolenSum_107 : decode cX6_stolenSum 107 = .ok (.iand, 1) := by decide +kernel
theorem dX6_stolenSum_108 : decode cX6_stolenSum 108 = .ok (.invokevirtual 338, 3) := by decide +kernel
theorem dX6_stolenSum_111 : decode cX6_stolenSum 111 = .ok (.lload 4, 2) := by decide +kernel
theorem dX6_stolenSum_113 : decode cX6_stolenSum 113 = .ok (.lload 8, 2) := by decide +kernel
theorem dX6_stolenSum_115 : decode cX6_stolenSum 115 = .ok (.iload_n 2, 1) := by decide +kernel
theorem dX6_stolenSum_116 : decode cX6_stolenSum 116 = .ok (.iconst (-1), 1) := by decide +kernel
theorem dX6_stolenSum_117 : decode cX6_stolenSum 117 = .ok (.if_icmp .ne 13, 3) := by decide +kernel
theorem dX6_stolenSum_120 : decode cX6_stolenSum 120 = .ok (.aload_n 0, 1) := by decide +kernel
theorem dX6_stolenSum_121 : decode cX6_stolenSum 121 = .ok (.getfield 44, 3) := by decide +kernel
theorem dX6_stolenSum_124 : decode cX6_stolenSum 124 = .ok (.invokevirtual 208, 3) := by decide +kernel
theorem dX6_stolenSum_127 : decode cX6_stolenSum 127 = .ok (.goto 14, 3) := by decide +kernel
theorem dX6_stolenSum_130 : decode cX6_stolenSum 130 = .ok (.aload_n 0, 1) := by decide +kernel
theorem dX6_stolenSum_131 : decode cX6_stolenSum 131 = .ok (.getfield 44, 3) := by decide +kernel
theorem dX6_stolenSum_134 : decode cX6_stolenSum 134 = .ok (.invokevirtual 239, 3) := by decide +kernel
theorem dX6_stolenSum_137 : decode cX6_stolenSum 137 = .ok (.iload_n 2, 1) := by decide +kernel
theorem dX6_stolenSum_138 : decode cX6_stolenSum 138 = .ok (.ishr, 1) := by decide +kernel
theorem dX6_stolenSum_139 : decode cX6_stolenSum 139 = .ok (.iconst 1, 1) := by decide +kernel
theorem dX6_stolenSum_140 : decode cX6_stolenSum 140 = .ok (.iand, 1) := by decide +kernel
theorem dX6_stolenSum_141 : decode cX6_stolenSum 141 = .ok (.i2l, 1) := by decide +kernel
theorem dX6_stolenSum_142 : decode cX6_stolenSum 142 = .ok (.lmul, 1) := by decide +kernel
theorem dX6_stolenSum_143 : decode cX6_stolenSum 143 = .ok (.ladd, 1) := by decide +kernel
theorem dX6_stolenSum_144 : decode cX6_stolenSum 144 = .ok (.lstore 4, 2) := by decide +kernel
theorem dX6_stolenSum_146 : decode cX6_stolenSum 146 = .ok (.iinc 6 1, 3) := by decide +kernel
theorem dX6_stolenSum_149 : decode cX6_stolenSum 149 = .ok (.goto (-124), 3) := by decide +kernel
theorem dX6_stolenSum_152 : decode cX6_stolenSum 152 = .ok (.lload 4, 2) := by decide +kernel
theorem dX6_stolenSum_154 : decode cX6_stolenSum 154 = .ok (.lreturn, 1) := by decide +kernel
theorem dX6_power_0 : decode cX6_power 0 = .ok (.lconst 1, 1) := by decide +kernel
theorem dX6_power_1 : decode cX6_power 1 = .ok (.lstore_n 2, 1) := by decide +kernel
theorem dX6_power_2 : decode cX6_power 2 = .ok (.iconst 0, 1) := by decide +kernel
theorem dX6_power_3 : decode cX6_power 3 = .ok (.istore 4, 2) := by decide +kernel
theorem dX6_power_5 : decode cX6_power 5 = .ok (.iload 4, 2) := by decide +kernel
theorem dX6_power_7 : decode cX6_power 7 = .ok (.iload_n 1, 1) := by decide +kernel
theorem dX6_power_8 : decode cX6_power 8 = .ok (.if_icmp .ge 14, 3) := by decide +kernel
theorem dX6_power_11 : decode cX6_power 11 = .ok (.lload_n 2, 1) := by decide +kernel
theorem dX6_power_12 : decode cX6_power 12 = .ok (.iload_n 0, 1) := by decide +kernel
theorem dX6_power_13 : decode cX6_power 13 = .ok (.i2l, 1) := by decide +kernel
theorem dX6_power_14 : decode cX6_power 14 = .ok (.lmul, 1) := by decide +kernel
theorem dX6_power_15 : decode cX6_power 15 = .ok (.lstore_n 2, 1) := by decide +kernel
theorem dX6_power_16 : decode cX6_power 16 = .ok (.iinc 4 1, 3) := by decide +kernel
theorem dX6_power_19 : decode cX6_power 19 = .ok (.goto (-14), 3) := by decide +kernel
theorem dX6_power_22 : decode cX6_power 22 = .ok (.lload_n 2, 1) := by decide +kernel
theorem dX6_power_23 : decode cX6_power 23 = .ok (.lreturn, 1) := by decide +kernel
theorem dX6_lowestTerms_0 : decode cX6_lowestTerms 0 = .ok (.lload_n 0, 1) := by decide +kernel
theorem dX6_lowestTerms_1 : decode cX6_lowestTerms 1 = .ok (.lload_n 2, 1) := by decide +kernel
theorem dX6_lowestTerms_2 : decode cX6_lowestTerms 2 = .ok (.invokestatic 341, 3) := by decide +kernel
theorem dX6_lowestTerms_5 : decode cX6_lowestTerms 5 = .ok (.lstore 5, 2) := by decide +kernel
theorem dX6_lowestTerms_7 : decode cX6_lowestTerms 7 = .ok (.lload 5, 2) := by decide +kernel
theorem dX6_lowestTerms_9 : decode cX6_lowestTerms 9 = .ok (.lconst 1, 1) := by decide +kernel
theorem dX6_lowestTerms_10 : decode cX6_lowestTerms 10 = .ok (.lcmp, 1) := by decide +kernel
theorem dX6_lowestTerms_11 : decode cX6_lowestTerms 11 = .ok (.ifCond .ge 7, 3) := by decide +kernel
theorem dX6_lowestTerms_14 : decode cX6_lowestTerms 14 = .ok (.ldc2_w 255, 3) := by decide +kernel
theorem dX6_lowestTerms_17 : decode cX6_lowestTerms 17 = .ok (.lreturn, 1) := by decide +kernel
theorem dX6_lowestTerms_18 : decode cX6_lowestTerms 18 = .ok (.iload 4, 2) := by decide +kernel
theorem dX6_lowestTerms_20 : decode cX6_lowestTerms 20 = .ok (.ifCond .ne 10, 3) := by decide +kernel
theorem dX6_lowestTerms_23 : decode cX6_lowestTerms 23 = .ok (.lload_n 0, 1) := by decide +kernel
theorem dX6_lowestTerms_24 : decode cX6_lowestTerms 24 = .ok (.lload 5, 2) := by decide +kernel
theorem dX6_lowestTerms_26 : decode cX6_lowestTerms 26 = .ok (.ldiv, 1) := by decide +kernel
theorem dX6_lowestTerms_27 : decode cX6_lowestTerms 27 = .ok (.goto 7, 3) := by decide +kernel
theorem dX6_lowestTerms_30 : decode cX6_lowestTerms 30 = .ok (.lload_n 2, 1) := by decide +kernel
theorem dX6_lowestTerms_31 : decode cX6_lowestTerms 31 = .ok (.lload 5, 2) := by decide +kernel
theorem dX6_lowestTerms_33 : decode cX6_lowestTerms 33 = .ok (.ldiv, 1) := by decide +kernel
theorem dX6_lowestTerms_34 : decode cX6_lowestTerms 34 = .ok (.lreturn, 1) := by decide +kernel
theorem dX6_commonDivisor_0 : decode cX6_commonDivisor 0 = .ok (.lload_n 0, 1) := by decide +kernel
theorem dX6_commonDivisor_1 : decode cX6_commonDivisor 1 = .ok (.lstore 4, 2) := by decide +kernel
theorem dX6_commonDivisor_3 : decode cX6_commonDivisor 3 = .ok (.lload_n 2, 1) := by decide +kernel
theorem dX6_commonDivisor_4 : decode cX6_commonDivisor 4 = .ok (.lstore 6, 2) := by decide +kernel
theorem dX6_commonDivisor_6 : decode cX6_commonDivisor 6 = .ok (.iconst 0, 1) := by decide +kernel
theorem dX6_commonDivisor_7 : decode cX6_commonDivisor 7 = .ok (.istore 8, 2) := by decide +kernel
theorem dX6_commonDivisor_9 : decode cX6_commonDivisor 9 = .ok (.iload 8, 2) := by decide +kernel
theorem dX6_commonDivisor_11 : decode cX6_commonDivisor 11 = .ok (.bipush 100, 2) := by decide +kernel
theorem dX6_commonDivisor_13 : decode cX6_commonDivisor 13 = .ok (.if_icmp .ge 31, 3) := by decide +kernel
theorem dX6_commonDivisor_16 : decode cX6_commonDivisor 16 = .ok (.lload 6, 2) := by decide +kernel
theorem dX6_commonDivisor_18 : decode cX6_commonDivisor 18 = .ok (.lconst 0, 1) := by decide +kernel
theorem dX6_commonDivisor_19 : decode cX6_commonDivisor 19 = .ok (.lcmp, 1) := by decide +kernel
theorem dX6_commonDivisor_20 : decode cX6_commonDivisor 20 = .ok (.ifCond .eq 24, 3) := by decide +kernel
theorem dX6_commonDivisor_23 : decode cX6_commonDivisor 23 = .ok (.lload 4, 2) := by decide +kernel
theorem dX6_commonDivisor_25 : decode cX6_commonDivisor 25 = .ok (.lload 6, 2) := by decide +kernel
theorem dX6_commonDivisor_27 : decode cX6_commonDivisor 27 = .ok (.lrem, 1) := by decide +kernel
theorem dX6_commonDivisor_28 : decode cX6_commonDivisor 28 = .ok (.lstore 9, 2) := by decide +kernel
theorem dX6_commonDivisor_30 : decode cX6_commonDivisor 30 = .ok (.lload 6, 2) := by decide +kernel
theorem dX6_commonDivisor_32 : decode cX6_commonDivisor 32 = .ok (.lstore 4, 2) := by decide +kernel
theorem dX6_commonDivisor_34 : decode cX6_commonDivisor 34 = .ok (.lload 9, 2) := by decide +kernel
theorem dX6_commonDivisor_36 : decode cX6_commonDivisor 36 = .ok (.lstore 6, 2) := by decide +kernel
theorem dX6_commonDivisor_38 : decode cX6_commonDivisor 38 = .ok (.iinc 8 1, 3) := by decide +kernel
theorem dX6_commonDivisor_41 : decode cX6_commonDivisor 41 = .ok (.goto (-32), 3) := by decide +kernel
theorem dX6_commonDivisor_44 : decode cX6_commonDivisor 44 = .ok (.lload 4, 2) := by decide +kernel
theorem dX6_commonDivisor_46 : decode cX6_commonDivisor 46 = .ok (.lreturn, 1) := by decide +kernel
theorem dX6_fittingPens_0 : decode cX6_fittingPens 0 = .ok (.aload_n 0, 1) := by decide +kernel
theorem dX6_fittingPens_1 : decode cX6_fittingPens 1 = .ok (.getfield 16, 3) := by decide +kernel
theorem dX6_fittingPens_4 : decode cX6_fittingPens 4 = .ok (.aload_n 0, 1) := by decide +kernel
theorem dX6_fittingPens_5 : decode cX6_fittingPens 5 = .ok (.getfield 10, 3) := by decide +kernel
theorem dX6_fittingPens_8 : decode cX6_fittingPens 8 = .ok (.invokevirtual 86, 3) := by decide +kernel
theorem dX6_fittingPens_11 : decode cX6_fittingPens 11 = .ok (.iconst 0, 1) := by decide +kernel
theorem dX6_fittingPens_12 : decode cX6_fittingPens 12 = .ok (.istore_n 2, 1) := by decide +kernel
theorem dX6_fittingPens_13 : decode cX6_fittingPens 13 = .ok (.iconst 0, 1) := by decide +kernel
theorem dX6_fittingPens_14 : decode cX6_fittingPens 14 = .ok (.istore_n 3, 1) := by decide +kernel
theorem dX6_fittingPens_15 : decode cX6_fittingPens 15 = .ok (.iload_n 3, 1) := by decide +kernel
theorem dX6_fittingPens_16 : decode cX6_fittingPens 16 = .ok (.bipush 8, 2) := by decide +kernel
theorem dX6_fittingPens_18 : decode cX6_fittingPens 18 = .ok (.if_icmp .ge 54, 3) := by decide +kernel
theorem dX6_fittingPens_21 : decode cX6_fittingPens 21 = .ok (.aload_n 0, 1) := by decide +kernel
theorem dX6_fittingPens_22 : decode cX6_fittingPens 22 = .ok (.getfield 10, 3) := by decide +kernel
theorem dX6_fittingPens_25 : decode cX6_fittingPens 25 = .ok (.iload_n 3, 1) := by decide +kernel
theorem dX6_fittingPens_26 : decode cX6_fittingPens 26 = .ok (.invokevirtual 113, 3) := by decide +kernel
theorem dX6_fittingPens_29 : decode cX6_fittingPens 29 = .ok (.ifCond .ne 6, 3) := by decide +kernel
theorem dX6_fittingPens_32 : decode cX6_fittingPens 32 = .ok (.goto 34, 3) := by decide +kernel
theorem dX6_fittingPens_35 : decode cX6_fittingPens 35 = .ok (.aload_n 0, 1) := by decide +kernel
theorem dX6_fittingPens_36 : decode cX6_fittingPens 36 = .ok (.getfield 16, 3) := by decide +kernel
theorem dX6_fittingPens_39 : decode cX6_fittingPens 39 = .ok (.getfield 128, 3) := by decide +kernel
theorem dX6_fittingPens_42 : decode cX6_fittingPens 42 = .ok (.iload_n 1, 1) := by decide +kernel
theorem dX6_fittingPens_43 : decode cX6_fittingPens 43 = .ok (.iload_n 3, 1) := by decide +kernel
theorem dX6_fittingPens_44 : decode cX6_fittingPens 44 = .ok (.iastore, 1) := by decide +kernel
theorem dX6_fittingPens_45 : decode cX6_fittingPens 45 = .ok (.aload_n 0, 1) := by decide +kernel
theorem dX6_fittingPens_46 : decode cX6_fittingPens 46 = .ok (.getfield 51, 3) := by decide +kernel
theorem dX6_fittingPens_49 : decode cX6_fittingPens 49 = .ok (.aload_n 0, 1) := by decide +kernel
theorem dX6_fittingPens_50 : decode cX6_fittingPens 50 = .ok (.getfield 16, 3) := by decide +kernel
theorem dX6_fittingPens_53 : decode cX6_fittingPens 53 = .ok (.iload_n 1, 1) := by decide +kernel
theorem dX6_fittingPens_54 : decode cX6_fittingPens 54 = .ok (.invokevirtual 345, 3) := by decide +kernel
theorem dX6_fittingPens_57 : decode cX6_fittingPens 57 = .ok (.ifCond .eq 9, 3) := by decide +kernel
theorem dX6_fittingPens_60 : decode cX6_fittingPens 60 = .ok (.iload_n 2, 1) := by decide +kernel
theorem dX6_fittingPens_61 : decode cX6_fittingPens 61 = .ok (.iconst 1, 1) := by decide +kernel
theorem dX6_fittingPens_62 : decode cX6_fittingPens 62 = .ok (.iload_n 3, 1) := by decide +kernel
theorem dX6_fittingPens_63 : decode cX6_fittingPens 63 = .ok (.ishl, 1) := by decide +kernel
theorem dX6_fittingPens_64 : decode cX6_fittingPens 64 = .ok (.ior, 1) := by decide +kernel
theorem dX6_fittingPens_65 : decode cX6_fittingPens 65 = .ok (.istore_n 2, 1) := by decide +kernel
theorem dX6_fittingPens_66 : decode cX6_fittingPens 66 = .ok (.iinc 3 1, 3) := by decide +kernel
theorem dX6_fittingPens_69 : decode cX6_fittingPens 69 = .ok (.goto (-54), 3) := by decide +kernel
theorem dX6_fittingPens_72 : decode cX6_fittingPens 72 = .ok (.iload_n 2, 1) := by decide +kernel
theorem dX6_fittingPens_73 : decode cX6_fittingPens 73 = .ok (.ireturn, 1) := by decide +kernel
theorem dX6_leftAtWorst_0 : decode cX6_leftAtWorst 0 = .ok (.aload_n 0, 1) := by decide +kernel
theorem dX6_leftAtWorst_1 : decode cX6_leftAtWorst 1 = .ok (.getfield 16, 3) := by decide +kernel
theorem dX6_leftAtWorst_4 : decode cX6_leftAtWorst 4 = .ok (.aload_n 0, 1) := by decide +kernel
theorem dX6_leftAtWorst_5 : decode cX6_leftAtWorst 5 = .ok (.getfield 10, 3) := by decide +kernel
theorem dX6_leftAtWorst_8 : decode cX6_leftAtWorst 8 = .ok (.invokevirtual 86, 3) := by decide +kernel
theorem dX6_leftAtWorst_11 : decode cX6_leftAtWorst 11 = .ok (.aload_n 0, 1) := by decide +kernel
theorem dX6_leftAtWorst_12 : decode cX6_leftAtWorst 12 = .ok (.getfield 55, 3) := by decide +kernel
theorem dX6_leftAtWorst_15 : decode cX6_leftAtWorst 15 = .ok (.iconst 0, 1) := by decide +kernel
theorem dX6_leftAtWorst_16 : decode cX6_leftAtWorst 16 = .ok (.invokestatic 349, 3) := by decide +kernel
theorem dX6_leftAtWorst_19 : decode cX6_leftAtWorst 19 = .ok (.iconst 0, 1) := by decide +kernel
theorem dX6_leftAtWorst_20 : decode cX6_leftAtWorst 20 = .ok (.istore 4, 2) := by decide +kernel
theorem dX6_leftAtWorst_22 : decode cX6_leftAtWorst 22 = .ok (.iconst 0, 1) := by decide +kernel
theorem dX6_leftAtWorst_23 : decode cX6_leftAtWorst 23 = .ok (.istore 5, 2) := by decide +kernel
theorem dX6_leftAtWorst_25 : decode cX6_leftAtWorst 25 = .ok (.iload 5, 2) := by decide +kernel
theorem dX6_leftAtWorst_27 : decode cX6_leftAtWorst 27 = .ok (.bipush 8, 2) := by decide +kernel
theorem dX6_leftAtWorst_29 : decode cX6_leftAtWorst 29 = .ok (.if_icmp .ge 76, 3) := by decide +kernel
theorem dX6_leftAtWorst_32 : decode cX6_leftAtWorst 32 = .ok (.iload_n 3, 1) := by decide +kernel
theorem dX6_leftAtWorst_33 : decode cX6_leftAtWorst 33 = .ok (.iload 5, 2) := by decide +kernel
theorem dX6_leftAtWorst_35 : decode cX6_leftAtWorst 35 = .ok (.ishr, 1) := by decide +kernel
theorem dX6_leftAtWorst_36 : decode cX6_leftAtWorst 36 = .ok (.iconst 1, 1) := by decide +kernel
theorem dX6_leftAtWorst_37 : decode cX6_leftAtWorst 37 = .ok (.iand, 1) := by decide +kernel
theorem dX6_leftAtWorst_38 : decode cX6_leftAtWorst 38 = .ok (.ifCond .ne 6, 3) := by decide +kernel
theorem dX6_leftAtWorst_41 : decode cX6_leftAtWorst 41 = .ok (.goto 58, 3) := by decide +kernel
theorem dX6_leftAtWorst_44 : decode cX6_leftAtWorst 44 = .ok (.aload_n 0, 1) := by decide +kernel
theorem dX6_leftAtWorst_45 : decode cX6_leftAtWorst 45 = .ok (.getfield 16, 3) := by decide +kernel
theorem dX6_leftAtWorst_48 : decode cX6_leftAtWorst 48 = .ok (.getfield 128, 3) := by decide +kernel
theorem dX6_leftAtWorst_51 : decode cX6_leftAtWorst 51 = .ok (.iload_n 1, 1) := by decide +kernel
theorem dX6_leftAtWorst_52 : decode cX6_leftAtWorst 52 = .ok (.iload 5, 2) := by decide +kernel
theorem dX6_leftAtWorst_54 : decode cX6_leftAtWorst 54 = .ok (.iastore, 1) := by decide +kernel
theorem dX6_leftAtWorst_55 : decode cX6_leftAtWorst 55 = .ok (.aload_n 0, 1) := by decide +kernel
theorem dX6_leftAtWorst_56 : decode cX6_leftAtWorst 56 = .ok (.getfield 16, 3) := by decide +kernel
theorem dX6_leftAtWorst_59 : decode cX6_leftAtWorst 59 = .ok (.iload_n 1, 1) := by decide +kernel
theorem dX6_leftAtWorst_60 : decode cX6_leftAtWorst 60 = .ok (.iload_n 2, 1) := by decide +kernel
theorem dX6_leftAtWorst_61 : decode cX6_leftAtWorst 61 = .ok (.invokevirtual 144, 3) := by decide +kernel
theorem dX6_leftAtWorst_64 : decode cX6_leftAtWorst 64 = .ok (.istore 6, 2) := by decide +kernel
theorem dX6_leftAtWorst_66 : decode cX6_leftAtWorst 66 = .ok (.iload 6, 2) := by decide +kernel
theorem dX6_leftAtWorst_68 : decode cX6_leftAtWorst 68 = .ok (.invokestatic 165, 3) := by decide +kernel
theorem dX6_leftAtWorst_71 : decode cX6_leftAtWorst 71 = .ok (.ifCond .eq 28, 3) := by decide +kernel
theorem dX6_leftAtWorst_74 : decode cX6_leftAtWorst 74 = .ok (.aload_n 0, 1) := by decide +kernel
theorem dX6_leftAtWorst_75 : decode cX6_leftAtWorst 75 = .ok (.getfield 55, 3) := by decide +kernel
theorem dX6_leftAtWorst_78 : decode cX6_leftAtWorst 78 = .ok (.iload 6, 2) := by decide +kernel
theorem dX6_leftAtWorst_80 : decode cX6_leftAtWorst 80 = .ok (.dup2, 1) := by decide +kernel
theorem dX6_leftAtWorst_81 : decode cX6_leftAtWorst 81 = .ok (.iaload, 1) := by decide +kernel
theorem dX6_leftAtWorst_82 : decode cX6_leftAtWorst 82 = .ok (.iconst 1, 1) := by decide +kernel
theorem dX6_leftAtWorst_83 : decode cX6_leftAtWorst 83 = .ok (.iadd, 1) := by decide +kernel
theorem dX6_leftAtWorst_84 : decode cX6_leftAtWorst 84 = .ok (.iastore, 1) := by decide +kernel
theorem dX6_leftAtWorst_85 : decode cX6_leftAtWorst 85 = .ok (.iload 4, 2) := by decide +kernel
theorem dX6_leftAtWorst_87 : decode cX6_leftAtWorst 87 = .ok (.aload_n 0, 1) := by decide +kernel
theorem dX6_leftAtWorst_88 : decode cX6_leftAtWorst 88 = .ok (.getfield 55, 3) := by decide +kernel
theorem dX6_leftAtWorst_91 : decode cX6_leftAtWorst 91 = .ok (.iload 6, 2) := by decide +kernel
theorem dX6_leftAtWorst_93 : decode cX6_leftAtWorst 93 = .ok (.iaload, 1) := by decide +kernel
theorem dX6_leftAtWorst_94 : decode cX6_leftAtWorst 94 = .ok (.invokestatic 355, 3) := by decide +kernel
theorem dX6_leftAtWorst_97 : decode cX6_leftAtWorst 97 = .ok (.istore 4, 2) := by decide +kernel
theorem dX6_leftAtWorst_99 : decode cX6_leftAtWorst 99 = .ok (.iinc 5 1, 3) := by decide +kernel
theorem dX6_leftAtWorst_102 : decode cX6_leftAtWorst 102 = .ok (.goto (-77), 3) := by decide +kernel
theorem dX6_leftAtWorst_105 : decode cX6_leftAtWorst 105 = .ok (.iload 4, 2) := by decide +kernel
theorem dX6_leftAtWorst_107 : decode cX6_leftAtWorst 107 = .ok (.ireturn, 1) := by decide +kernel
theorem dX6_nextSeed_0 : decode cX6_nextSeed 0 = .ok (.iload_n 0, 1) := by decide +kernel
theorem dX6_nextSeed_1 : decode cX6_nextSeed 1 = .ok (.ldc_w 360, 3) := by decide +kernel
theorem dX6_nextSeed_4 : decode cX6_nextSeed 4 = .ok (.imul, 1) := by decide +kernel
theorem dX6_nextSeed_5 : decode cX6_nextSeed 5 = .ok (.sipush 12345, 3) := by decide +kernel
theorem dX6_nextSeed_8 : decode cX6_nextSeed 8 = .ok (.iadd, 1) := by decide +kernel
theorem dX6_nextSeed_9 : decode cX6_nextSeed 9 = .ok (.ireturn, 1) := by decide +kernel
theorem dX6_drawn_0 : decode cX6_drawn 0 = .ok (.iload_n 0, 1) := by decide +kernel
theorem dX6_drawn_1 : decode cX6_drawn 1 = .ok (.bipush 16, 2) := by decide +kernel
theorem dX6_drawn_3 : decode cX6_drawn 3 = .ok (.iushr, 1) := by decide +kernel
theorem dX6_drawn_4 : decode cX6_drawn 4 = .ok (.sipush 32767, 3) := by decide +kernel
theorem dX6_drawn_7 : decode cX6_drawn 7 = .ok (.iand, 1) := by decide +kernel
theorem dX6_drawn_8 : decode cX6_drawn 8 = .ok (.ireturn, 1) := by decide +kernel
theorem dX6_hasImage_0 : decode cX6_hasImage 0 = .ok (.aload_n 0, 1) := by decide +kernel
theorem dX6_hasImage_1 : decode cX6_hasImage 1 = .ok (.getfield 91, 3) := by decide +kernel
theorem dX6_hasImage_4 : decode cX6_hasImage 4 = .ok (.iload_n 1, 1) := by decide +kernel
theorem dX6_hasImage_5 : decode cX6_hasImage 5 = .ok (.ishr, 1) := by decide +kernel
theorem dX6_hasImage_6 : decode cX6_hasImage 6 = .ok (.iconst 1, 1) := by decide +kernel
theorem dX6_hasImage_7 : decode cX6_hasImage 7 = .ok (.iand, 1) := by decide +kernel
theorem dX6_hasImage_8 : decode cX6_hasImage 8 = .ok (.iconst 1, 1) := by decide +kernel
theorem dX6_hasImage_9 : decode cX6_hasImage 9 = .ok (.if_icmp .ne 7, 3) := by decide +kernel
theorem dX6_hasImage_12 : decode cX6_hasImage 12 = .ok (.iconst 1, 1) := by decide +kernel
theorem dX6_hasImage_13 : decode cX6_hasImage 13 = .ok (.goto 4, 3) := by decide +kernel
theorem dX6_hasImage_16 : decode cX6_hasImage 16 = .ok (.iconst 0, 1) := by decide +kernel
theorem dX6_hasImage_17 : decode cX6_hasImage 17 = .ok (.ireturn, 1) := by decide +kernel
theorem dX6_imageOf_0 : decode cX6_imageOf 0 = .ok (.iload_n 1, 1) := by decide +kernel
theorem dX6_imageOf_1 : decode cX6_imageOf 1 = .ok (.ifCond .ne 10, 3) := by decide +kernel
theorem dX6_imageOf_4 : decode cX6_imageOf 4 = .ok (.aload_n 0, 1) := by decide +kernel
theorem dX6_imageOf_5 : decode cX6_imageOf 5 = .ok (.getfield 19, 3) := by decide +kernel
theorem dX6_imageOf_8 : decode cX6_imageOf 8 = .ok (.goto 7, 3) := by decide +kernel
theorem dX6_imageOf_11 : decode cX6_imageOf 11 = .ok (.aload_n 0, 1) := by decide +kernel
theorem dX6_imageOf_12 : decode cX6_imageOf 12 = .ok (.getfield 22, 3) := by decide +kernel
theorem dX6_imageOf_15 : decode cX6_imageOf 15 = .ok (.areturn, 1) := by decide +kernel
