theorem dX0_init_0 : decode cX0_init 0 = .ok (.aload_n 0, 1) := by decide +kernel
theorem dX0_init_1 : decode cX0_init 1 = .ok (.invokespecial 3, 3) := by decide +kernel
theorem dX0_init_4 : decode cX0_init 4 = .ok (.aload_n 0, 1) := by decide +kernel
theorem dX0_init_5 : decode cX0_init 5 = .ok (.bipush 8, 2) := by decide +kernel
theorem dX0_init_7 : decode cX0_init 7 = .ok (.newarray .int, 2) := by decide +kernel
theorem dX0_init_9 : decode cX0_init 9 = .ok (.putfield 9, 3) := by decide +kernel
theorem dX0_init_12 : decode cX0_init 12 = .ok (.aload_n 0, 1) := by decide +kernel
theorem dX0_init_13 : decode cX0_init 13 = .ok (.bipush 8, 2) := by decide +kernel
theorem dX0_init_15 : decode cX0_init 15 = .ok (.newarray .int, 2) := by decide +kernel
theorem dX0_init_17 : decode cX0_init 17 = .ok (.putfield 15, 3) := by decide +kernel
theorem dX0_init_20 : decode cX0_init 20 = .ok (.aload_n 0, 1) := by decide +kernel
theorem dX0_init_21 : decode cX0_init 21 = .ok (.bipush 8, 2) := by decide +kernel
theorem dX0_init_23 : decode cX0_init 23 = .ok (.newarray .int, 2) := by decide +kernel
theorem dX0_init_25 : decode cX0_init 25 = .ok (.putfield 18, 3) := by decide +kernel
theorem dX0_init_28 : decode cX0_init 28 = .ok (.aload_n 0, 1) := by decide +kernel
theorem dX0_init_29 : decode cX0_init 29 = .ok (.bipush 64, 2) := by decide +kernel
theorem dX0_init_31 : decode cX0_init 31 = .ok (.newarray .int, 2) := by decide +kernel
theorem dX0_init_33 : decode cX0_init 33 = .ok (.putfield 21, 3) := by decide +kernel
theorem dX0_init_36 : decode cX0_init 36 = .ok (.aload_n 0, 1) := by decide +kernel
theorem dX0_init_37 : decode cX0_init 37 = .ok (.bipush 64, 2) := by decide +kernel
theorem dX0_init_39 : decode cX0_init 39 = .ok (.newarray .int, 2) := by decide +kernel
theorem dX0_init_41 : decode cX0_init 41 = .ok (.putfield 24, 3) := by decide +kernel
theorem dX0_init_44 : decode cX0_init 44 = .ok (.aload_n 0, 1) := by decide +kernel
theorem dX0_init_45 : decode cX0_init 45 = .ok (.bipush 8, 2) := by decide +kernel
theorem dX0_init_47 : decode cX0_init 47 = .ok (.newarray .int, 2) := by decide +kernel
theorem dX0_init_49 : decode cX0_init 49 = .ok (.putfield 27, 3) := by decide +kernel
theorem dX0_init_52 : decode cX0_init 52 = .ok (.aload_n 0, 1) := by decide +kernel
theorem dX0_init_53 : decode cX0_init 53 = .ok (.bipush 8, 2) := by decide +kernel
theorem dX0_init_55 : decode cX0_init 55 = .ok (.newarray .int, 2) := by decide +kernel
theorem dX0_init_57 : decode cX0_init 57 = .ok (.putfield 30, 3) := by decide +kernel
theorem dX0_init_60 : decode cX0_init 60 = .ok (.aload_n 0, 1) := by decide +kernel
theorem dX0_init_61 : decode cX0_init 61 = .ok (.bipush 8, 2) := by decide +kernel
theorem dX0_init_63 : decode cX0_init 63 = .ok (.newarray .int, 2) := by decide +kernel
theorem dX0_init_65 : decode cX0_init 65 = .ok (.putfield 33, 3) := by decide +kernel
theorem dX0_init_68 : decode cX0_init 68 = .ok (.return_, 1) := by decide +kernel
theorem dX0_weigh_0 : decode cX0_weigh 0 = .ok (.aload_n 0, 1) := by decide +kernel
theorem dX0_weigh_1 : decode cX0_weigh 1 = .ok (.aload_n 1, 1) := by decide +kernel
theorem dX0_weigh_2 : decode cX0_weigh 2 = .ok (.invokevirtual 36, 3) := by decide +kernel
theorem dX0_weigh_5 : decode cX0_weigh 5 = .ok (.putfield 42, 3) := by decide +kernel
theorem dX0_weigh_8 : decode cX0_weigh 8 = .ok (.aload_n 0, 1) := by decide +kernel
theorem dX0_weigh_9 : decode cX0_weigh 9 = .ok (.getfield 24, 3) := by decide +kernel
theorem dX0_weigh_12 : decode cX0_weigh 12 = .ok (.bipush (-2), 2) := by decide +kernel
theorem dX0_weigh_14 : decode cX0_weigh 14 = .ok (.invokestatic 46, 3) := by decide +kernel
theorem dX0_weigh_17 : decode cX0_weigh 17 = .ok (.iconst 0, 1) := by decide +kernel
theorem dX0_weigh_18 : decode cX0_weigh 18 = .ok (.istore_n 2, 1) := by decide +kernel
theorem dX0_weigh_19 : decode cX0_weigh 19 = .ok (.iload_n 2, 1) := by decide +kernel
theorem dX0_weigh_20 : decode cX0_weigh 20 = .ok (.bipush 8, 2) := by decide +kernel
theorem dX0_weigh_22 : decode cX0_weigh 22 = .ok (.if_icmp .ge 53, 3) := by decide +kernel
theorem dX0_weigh_25 : decode cX0_weigh 25 = .ok (.aload_n 1, 1) := by decide +kernel
theorem dX0_weigh_26 : decode cX0_weigh 26 = .ok (.iload_n 2, 1) := by decide +kernel
theorem dX0_weigh_27 : decode cX0_weigh 27 = .ok (.invokevirtual 52, 3) := by decide +kernel
theorem dX0_weigh_30 : decode cX0_weigh 30 = .ok (.ifCond .eq 39, 3) := by decide +kernel
theorem dX0_weigh_33 : decode cX0_weigh 33 = .ok (.aload_n 0, 1) := by decide +kernel
theorem dX0_weigh_34 : decode cX0_weigh 34 = .ok (.getfield 9, 3) := by decide +kernel
theorem dX0_weigh_37 : decode cX0_weigh 37 = .ok (.iload_n 2, 1) := by decide +kernel
theorem dX0_weigh_38 : decode cX0_weigh 38 = .ok (.aload_n 1, 1) := by decide +kernel
theorem dX0_weigh_39 : decode cX0_weigh 39 = .ok (.iload_n 2, 1) := by decide +kernel
theorem dX0_weigh_40 : decode cX0_weigh 40 = .ok (.iconst 0, 1) := by decide +kernel
theorem dX0_weigh_41 : decode cX0_weigh 41 = .ok (.invokevirtual 56, 3) := by decide +kernel
theorem dX0_weigh_44 : decode cX0_weigh 44 = .ok (.iastore, 1) := by decide +kernel
theorem dX0_weigh_45 : decode cX0_weigh 45 = .ok (.aload_n 0, 1) := by decide +kernel
theorem dX0_weigh_46 : decode cX0_weigh 46 = .ok (.getfield 15, 3) := by decide +kernel
theorem dX0_weigh_49 : decode cX0_weigh 49 = .ok (.iload_n 2, 1) := by decide +kernel
theorem dX0_weigh_50 : decode cX0_weigh 50 = .ok (.aload_n 1, 1) := by decide +kernel
theorem dX0_weigh_51 : decode cX0_weigh 51 = .ok (.iload_n 2, 1) := by decide +kernel
theorem dX0_weigh_52 : decode cX0_weigh 52 = .ok (.iconst 1, 1) := by decide +kernel
theorem dX0_weigh_53 : decode cX0_weigh 53 = .ok (.invokevirtual 56, 3) := by decide +kernel
theorem dX0_weigh_56 : decode cX0_weigh 56 = .ok (.iastore, 1) := by decide +kernel
theorem dX0_weigh_57 : decode cX0_weigh 57 = .ok (.aload_n 0, 1) := by decide +kernel
theorem dX0_weigh_58 : decode cX0_weigh 58 = .ok (.getfield 18, 3) := by decide +kernel
theorem dX0_weigh_61 : decode cX0_weigh 61 = .ok (.iload_n 2, 1) := by decide +kernel
theorem dX0_weigh_62 : decode cX0_weigh 62 = .ok (.aload_n 1, 1) := by decide +kernel
theorem dX0_weigh_63 : decode cX0_weigh 63 = .ok (.iload_n 2, 1) := by decide +kernel
theorem dX0_weigh_64 : decode cX0_weigh 64 = .ok (.iconst 2, 1) := by decide +kernel
theorem dX0_weigh_65 : decode cX0_weigh 65 = .ok (.invokevirtual 56, 3) := by decide +kernel
theorem dX0_weigh_68 : decode cX0_weigh 68 = .ok (.iastore, 1) := by decide +kernel
theorem dX0_weigh_69 : decode cX0_weigh 69 = .ok (.iinc 2 1, 3) := by decide +kernel
theorem dX0_weigh_72 : decode cX0_weigh 72 = .ok (.goto (-53), 3) := by decide +kernel
theorem dX0_weigh_75 : decode cX0_weigh 75 = .ok (.iconst 0, 1) := by decide +kernel
theorem dX0_weigh_76 : decode cX0_weigh 76 = .ok (.istore_n 2, 1) := by decide +kernel
theorem dX0_weigh_77 : decode cX0_weigh 77 = .ok (.iload_n 2, 1) := by decide +kernel
theorem dX0_weigh_78 : decode cX0_weigh 78 = .ok (.aload_n 1, 1) := by decide +kernel
theorem dX0_weigh_79 : decode cX0_weigh 79 = .ok (.getfield 60, 3) := by decide +kernel
theorem dX0_weigh_82 : decode cX0_weigh 82 = .ok (.if_icmp .ge 41, 3) := by decide +kernel
theorem dX0_weigh_85 : decode cX0_weigh 85 = .ok (.iconst 4, 1) := by decide +kernel
theorem dX0_weigh_86 : decode cX0_weigh 86 = .ok (.istore_n 3, 1) := by decide +kernel
theorem dX0_weigh_87 : decode cX0_weigh 87 = .ok (.iload_n 3, 1) := by decide +kernel
theorem dX0_weigh_88 : decode cX0_weigh 88 = .ok (.iconst 4, 1) := by decide +kernel
theorem dX0_weigh_89 : decode cX0_weigh 89 = .ok (.aload_n 1, 1) := by decide +kernel
theorem dX0_weigh_90 : decode cX0_weigh 90 = .ok (.getfield 63, 3) := by decide +kernel
theorem dX0_weigh_93 : decode cX0_weigh 93 = .ok (.iadd, 1) := by decide +kernel
theorem dX0_weigh_94 : decode cX0_weigh 94 = .ok (.if_icmp .ge 23, 3) := by decide +kernel
theorem dX0_weigh_97 : decode cX0_weigh 97 = .ok (.aload_n 0, 1) := by decide +kernel
theorem dX0_weigh_98 : decode cX0_weigh 98 = .ok (.aload_n 1, 1) := by decide +kernel
theorem dX0_weigh_99 : decode cX0_weigh 99 = .ok (.iload_n 2, 1) := by decide +kernel
theorem dX0_weigh_100 : decode cX0_weigh 100 = .ok (.iload_n 3, 1) := by decide +kernel
theorem dX0_weigh_101 : decode cX0_weigh 101 = .ok (.invokevirtual 66, 3) := by decide +kernel
theorem dX0_weigh_104 : decode cX0_weigh 104 = .ok (.aload_n 0, 1) := by decide +kernel
theorem dX0_weigh_105 : decode cX0_weigh 105 = .ok (.aload_n 1, 1) := by decide +kernel
theorem dX0_weigh_106 : decode cX0_weigh 106 = .ok (.iload_n 3, 1) := by decide +kernel
theorem dX0_weigh_107 : decode cX0_weigh 107 = .ok (.iload_n 2, 1) := by decide +kernel
theorem dX0_weigh_108 : decode cX0_weigh 108 = .ok (.invokevirtual 66, 3) := by decide +kernel
theorem dX0_weigh_111 : decode cX0_weigh 111 = .ok (.iinc 3 1, 3) := by decide +kernel
theorem dX0_weigh_114 : decode cX0_weigh 114 = .ok (.goto (-27), 3) := by decide +kernel
theorem dX0_weigh_117 : decode cX0_weigh 117 = .ok (.iinc 2 1, 3) := by decide +kernel
theorem dX0_weigh_120 : decode cX0_weigh 120 = .ok (.goto (-43), 3) := by decide +kernel
theorem dX0_weigh_123 : decode cX0_weigh 123 = .ok (.return_, 1) := by decide +kernel
theorem dX0_weighOne_0 : decode cX0_weighOne 0 = .ok (.iload_n 2, 1) := by decide +kernel
theorem dX0_weighOne_1 : decode cX0_weighOne 1 = .ok (.bipush 8, 2) := by decide +kernel
theorem dX0_weighOne_3 : decode cX0_weighOne 3 = .ok (.imul, 1) := by decide +kernel
theorem dX0_weighOne_4 : decode cX0_weighOne 4 = .ok (.iload_n 3, 1) := by decide +kernel
theorem dX0_weighOne_5 : decode cX0_weighOne 5 = .ok (.iadd, 1) := by decide +kernel
theorem dX0_weighOne_6 : decode cX0_weighOne 6 = .ok (.istore 4, 2) := by decide +kernel
theorem dX0_weighOne_8 : decode cX0_weighOne 8 = .ok (.aload_n 0, 1) := by decide +kernel
theorem dX0_weighOne_9 : decode cX0_weighOne 9 = .ok (.getfield 21, 3) := by decide +kernel
theorem dX0_weighOne_12 : decode cX0_weighOne 12 = .ok (.iload 4, 2) := by decide +kernel
theorem dX0_weighOne_14 : decode cX0_weighOne 14 = .ok (.aload_n 0, 1) := by decide +kernel
theorem dX0_weighOne_15 : decode cX0_weighOne 15 = .ok (.aload_n 1, 1) := by decide +kernel
theorem dX0_weighOne_16 : decode cX0_weighOne 16 = .ok (.iload_n 2, 1) := by decide +kernel
theorem dX0_weighOne_17 : decode cX0_weighOne 17 = .ok (.iload_n 3, 1) := by decide +kernel
theorem dX0_weighOne_18 : decode cX0_weighOne 18 = .ok (.invokevirtual 70, 3) := by decide +kernel
theorem dX0_weighOne_21 : decode cX0_weighOne 21 = .ok (.iastore, 1) := by decide +kernel
theorem dX0_weighOne_22 : decode cX0_weighOne 22 = .ok (.aload_n 1, 1) := by decide +kernel
theorem dX0_weighOne_23 : decode cX0_weighOne 23 = .ok (.iload_n 2, 1) := by decide +kernel
theorem dX0_weighOne_24 : decode cX0_weighOne 24 = .ok (.iload_n 3, 1) := by decide +kernel
theorem dX0_weighOne_25 : decode cX0_weighOne 25 = .ok (.invokevirtual 74, 3) := by decide +kernel
theorem dX0_weighOne_28 : decode cX0_weighOne 28 = .ok (.ifCond .ne 27, 3) := by decide +kernel
theorem dX0_weighOne_31 : decode cX0_weighOne 31 = .ok (.aload_n 0, 1) := by decide +kernel
theorem dX0_weighOne_32 : decode cX0_weighOne 32 = .ok (.getfield 24, 3) := by decide +kernel
theorem dX0_weighOne_35 : decode cX0_weighOne 35 = .ok (.iload 4, 2) := by decide +kernel
theorem dX0_weighOne_37 : decode cX0_weighOne 37 = .ok (.aload_n 0, 1) := by decide +kernel
theorem dX0_weighOne_38 : decode cX0_weighOne 38 = .ok (.getfield 21, 3) := by decide +kernel
theorem dX0_weighOne_41 : decode cX0_weighOne 41 = .ok (.iload 4, 2) := by decide +kernel
theorem dX0_weighOne_43 : decode cX0_weighOne 43 = .ok (.iaload, 1) := by decide +kernel
theorem dX0_weighOne_44 : decode cX0_weighOne 44 = .ok (.bipush 8, 2) := by decide +kernel
theorem dX0_weighOne_46 : decode cX0_weighOne 46 = .ok (.imul, 1) := by decide +kernel
theorem dX0_weighOne_47 : decode cX0_weighOne 47 = .ok (.bipush 8, 2) := by decide +kernel
theorem dX0_weighOne_49 : decode cX0_weighOne 49 = .ok (.iadd, 1) := by decide +kernel
theorem dX0_weighOne_50 : decode cX0_weighOne 50 = .ok (.iconst 1, 1) := by decide +kernel
theorem dX0_weighOne_51 : decode cX0_weighOne 51 = .ok (.isub, 1) := by decide +kernel
theorem dX0_weighOne_52 : decode cX0_weighOne 52 = .ok (.iload_n 3, 1) := by decide +kernel
theorem dX0_weighOne_53 : decode cX0_weighOne 53 = .ok (.isub, 1) := by decide +kernel
theorem dX0_weighOne_54 : decode cX0_weighOne 54 = .ok (.iastore, 1) := by decide +kernel
theorem dX0_weighOne_55 : decode cX0_weighOne 55 = .ok (.return_, 1) := by decide +kernel
theorem dX0_likingIn_0 : decode cX0_likingIn 0 = .ok (.aload_n 0, 1) := by decide +kernel
theorem dX0_likingIn_1 : decode cX0_likingIn 1 = .ok (.getfield 9, 3) := by decide +kernel
theorem dX0_likingIn_4 : decode cX0_likingIn 4 = .ok (.iload_n 3, 1) := by decide +kernel
theorem dX0_likingIn_5 : decode cX0_likingIn 5 = .ok (.iaload, 1) := by decide +kernel
theorem dX0_likingIn_6 : decode cX0_likingIn 6 = .ok (.aload_n 0, 1) := by decide +kernel
theorem dX0_likingIn_7 : decode cX0_likingIn 7 = .ok (.getfield 15, 3) := by decide +kernel
theorem dX0_likingIn_10 : decode cX0_likingIn 10 = .ok (.iload_n 3, 1) := by decide +kernel
theorem dX0_likingIn_11 : decode cX0_likingIn 11 = .ok (.iaload, 1) := by decide +kernel
theorem dX0_likingIn_12 : decode cX0_likingIn 12 = .ok (.iadd, 1) := by decide +kernel
theorem dX0_likingIn_13 : decode cX0_likingIn 13 = .ok (.istore 4, 2) := by decide +kernel
theorem dX0_likingIn_15 : decode cX0_likingIn 15 = .ok (.aload_n 1, 1) := by decide +kernel
theorem dX0_likingIn_16 : decode cX0_likingIn 16 = .ok (.getfield 78, 3) := by decide +kernel
theorem dX0_likingIn_19 : decode cX0_likingIn 19 = .ok (.iload_n 2, 1) := by decide +kernel
theorem dX0_likingIn_20 : decode cX0_likingIn 20 = .ok (.iaload, 1) := by decide +kernel
theorem dX0_likingIn_21 : decode cX0_likingIn 21 = .ok (.iconst 2, 1) := by decide +kernel
theorem dX0_likingIn_22 : decode cX0_likingIn 22 = .ok (.if_icmp .ne 6, 3) := by decide +kernel
theorem dX0_likingIn_25 : decode cX0_likingIn 25 = .ok (.iload 4, 2) := by decide +kernel
theorem dX0_likingIn_27 : decode cX0_likingIn 27 = .ok (.ireturn, 1) := by decide +kernel
theorem dX0_likingIn_28 : decode cX0_likingIn 28 = .ok (.aload_n 1, 1) := by decide +kernel
theorem dX0_likingIn_29 : decode cX0_likingIn 29 = .ok (.getfield 78, 3) := by decide +kernel
theorem dX0_likingIn_32 : decode cX0_likingIn 32 = .ok (.iload_n 2, 1) := by decide +kernel
theorem dX0_likingIn_33 : decode cX0_likingIn 33 = .ok (.iaload, 1) := by decide +kernel
theorem dX0_likingIn_34 : decode cX0_likingIn 34 = .ok (.iconst 3, 1) := by decide +kernel
theorem dX0_likingIn_35 : decode cX0_likingIn 35 = .ok (.if_icmp .ne 9, 3) := by decide +kernel
theorem dX0_likingIn_38 : decode cX0_likingIn 38 = .ok (.bipush 20, 2) := by decide +kernel
theorem dX0_likingIn_40 : decode cX0_likingIn 40 = .ok (.iload 4, 2) := by decide +kernel
theorem dX0_likingIn_42 : decode cX0_likingIn 42 = .ok (.isub, 1) := by decide +kernel
theorem dX0_likingIn_43 : decode cX0_likingIn 43 = .ok (.ireturn, 1) := by decide +kernel
theorem dX0_likingIn_44 : decode cX0_likingIn 44 = .ok (.bipush 20, 2) := by decide +kernel
theorem dX0_likingIn_46 : decode cX0_likingIn 46 = .ok (.aload_n 0, 1) := by decide +kernel
theorem dX0_likingIn_47 : decode cX0_likingIn 47 = .ok (.getfield 9, 3) := by decide +kernel
theorem dX0_likingIn_50 : decode cX0_likingIn 50 = .ok (.iload_n 3, 1) := by decide +kernel
theorem dX0_likingIn_51 : decode cX0_likingIn 51 = .ok (.iaload, 1) := by decide +kernel
theorem dX0_likingIn_52 : decode cX0_likingIn 52 = .ok (.aload_n 1, 1) := by decide +kernel
theorem dX0_likingIn_53 : decode cX0_likingIn 53 = .ok (.getfield 81, 3) := by decide +kernel
theorem dX0_likingIn_56 : decode cX0_likingIn 56 = .ok (.iload_n 2, 1) := by decide +kernel
theorem dX0_likingIn_57 : decode cX0_likingIn 57 = .ok (.iaload, 1) := by decide +kernel
theorem dX0_likingIn_58 : decode cX0_likingIn 58 = .ok (.isub, 1) := by decide +kernel
theorem dX0_likingIn_59 : decode cX0_likingIn 59 = .ok (.invokestatic 84, 3) := by decide +kernel
theorem dX0_likingIn_62 : decode cX0_likingIn 62 = .ok (.isub, 1) := by decide +kernel
theorem dX0_likingIn_63 : decode cX0_likingIn 63 = .ok (.aload_n 0, 1) := by decide +kernel
theorem dX0_likingIn_64 : decode cX0_likingIn 64 = .ok (.getfield 15, 3) := by decide +kernel
theorem dX0_likingIn_67 : decode cX0_likingIn 67 = .ok (.iload_n 3, 1) := by decide +kernel
theorem dX0_likingIn_68 : decode cX0_likingIn 68 = .ok (.iaload, 1) := by decide +kernel
theorem dX0_likingIn_69 : decode cX0_likingIn 69 = .ok (.aload_n 1, 1) := by decide +kernel
theorem dX0_likingIn_70 : decode cX0_likingIn 70 = .ok (.getfield 90, 3) := by decide +kernel
theorem dX0_likingIn_73 : decode cX0_likingIn 73 = .ok (.iload_n 2, 1) := by decide +kernel
theorem dX0_likingIn_74 : decode cX0_likingIn 74 = .ok (.iaload, 1) := by decide +kernel
theorem dX0_likingIn_75 : decode cX0_likingIn 75 = .ok (.isub, 1) := by decide +kernel
theorem dX0_likingIn_76 : decode cX0_likingIn 76 = .ok (.invokestatic 84, 3) := by decide +kernel
theorem dX0_likingIn_79 : decode cX0_likingIn 79 = .ok (.isub, 1) := by decide +kernel
theorem dX0_likingIn_80 : decode cX0_likingIn 80 = .ok (.istore 5, 2) := by decide +kernel
theorem dX0_likingIn_82 : decode cX0_likingIn 82 = .ok (.aload_n 1, 1) := by decide +kernel
theorem dX0_likingIn_83 : decode cX0_likingIn 83 = .ok (.getfield 78, 3) := by decide +kernel
theorem dX0_likingIn_86 : decode cX0_likingIn 86 = .ok (.iload_n 2, 1) := by decide +kernel
theorem dX0_likingIn_87 : decode cX0_likingIn 87 = .ok (.iaload, 1) := by decide +kernel
theorem dX0_likingIn_88 : decode cX0_likingIn 88 = .ok (.iconst 1, 1) := by decide +kernel
theorem dX0_likingIn_89 : decode cX0_likingIn 89 = .ok (.if_icmp .ne 25, 3) := by decide +kernel
theorem dX0_likingIn_92 : decode cX0_likingIn 92 = .ok (.aload_n 0, 1) := by decide +kernel
theorem dX0_likingIn_93 : decode cX0_likingIn 93 = .ok (.getfield 18, 3) := by decide +kernel
theorem dX0_likingIn_96 : decode cX0_likingIn 96 = .ok (.iload_n 3, 1) := by decide +kernel
theorem dX0_likingIn_97 : decode cX0_likingIn 97 = .ok (.iaload, 1) := by decide +kernel
theorem dX0_likingIn_98 : decode cX0_likingIn 98 = .ok (.aload_n 1, 1) := by decide +kernel
theorem dX0_likingIn_99 : decode cX0_likingIn 99 = .ok (.getfield 93, 3) := by decide +kernel
theorem dX0_likingIn_102 : decode cX0_likingIn 102 = .ok (.iload_n 2, 1) := by decide +kernel
theorem dX0_likingIn_103 : decode cX0_likingIn 103 = .ok (.iaload, 1) := by decide +kernel
theorem dX0_likingIn_104 : decode cX0_likingIn 104 = .ok (.if_icmp .ne 10, 3) := by decide +kernel
theorem dX0_likingIn_107 : decode cX0_likingIn 107 = .ok (.iload 5, 2) := by decide +kernel
theorem dX0_likingIn_109 : decode cX0_likingIn 109 = .ok (.iconst 3, 1) := by decide +kernel
theorem dX0_likingIn_110 : decode cX0_likingIn 110 = .ok (.iadd, 1) := by decide +kernel
theorem dX0_likingIn_111 : decode cX0_likingIn 111 = .ok (.goto 5, 3) := by decide +kernel
theorem dX0_likingIn_114 : decode cX0_likingIn 114 = .ok (.iload 5, 2) := by decide +kernel
theorem dX0_likingIn_116 : decode cX0_likingIn 116 = .ok (.ireturn, 1) := by decide +kernel
theorem dX0_liking_0 : decode cX0_liking 0 = .ok (.aload_n 0, 1) := by decide +kernel
theorem dX0_liking_1 : decode cX0_liking 1 = .ok (.getfield 21, 3) := by decide +kernel
theorem dX0_liking_4 : decode cX0_liking 4 = .ok (.iload_n 1, 1) := by decide +kernel
theorem dX0_liking_5 : decode cX0_liking 5 = .ok (.bipush 8, 2) := by decide +kernel
theorem dX0_liking_7 : decode cX0_liking 7 = .ok (.imul, 1) := by decide +kernel
theorem dX0_liking_8 : decode cX0_liking 8 = .ok (.iload_n 2, 1) := by decide +kernel
theorem dX0_liking_9 : decode cX0_liking 9 = .ok (.iadd, 1) := by decide +kernel
theorem dX0_liking_10 : decode cX0_liking 10 = .ok (.iaload, 1) := by decide +kernel
theorem dX0_liking_11 : decode cX0_liking 11 = .ok (.ireturn, 1) := by decide +kernel
theorem dX0_wishFor_0 : decode cX0_wishFor 0 = .ok (.iload_n 2, 1) := by decide +kernel
theorem dX0_wishFor_1 : decode cX0_wishFor 1 = .ok (.iconst (-1), 1) := by decide +kernel
theorem dX0_wishFor_2 : decode cX0_wishFor 2 = .ok (.if_icmp .ne 7, 3) := by decide +kernel
theorem dX0_wishFor_5 : decode cX0_wishFor 5 = .ok (.iconst (-1), 1) := by decide +kernel
theorem dX0_wishFor_6 : decode cX0_wishFor 6 = .ok (.goto 14, 3) := by decide +kernel
theorem dX0_wishFor_9 : decode cX0_wishFor 9 = .ok (.aload_n 0, 1) := by decide +kernel
theorem dX0_wishFor_10 : decode cX0_wishFor 10 = .ok (.getfield 24, 3) := by decide +kernel
theorem dX0_wishFor_13 : decode cX0_wishFor 13 = .ok (.iload_n 1, 1) := by decide +kernel
theorem dX0_wishFor_14 : decode cX0_wishFor 14 = .ok (.bipush 8, 2) := by decide +kernel
theorem dX0_wishFor_16 : decode cX0_wishFor 16 = .ok (.imul, 1) := by decide +kernel
theorem dX0_wishFor_17 : decode cX0_wishFor 17 = .ok (.iload_n 2, 1) := by decide +kernel
theorem dX0_wishFor_18 : decode cX0_wishFor 18 = .ok (.iadd, 1) := by decide +kernel
theorem dX0_wishFor_19 : decode cX0_wishFor 19 = .ok (.iaload, 1) := by decide +kernel
theorem dX0_wishFor_20 : decode cX0_wishFor 20 = .ok (.ireturn, 1) := by decide +kernel
theorem dX0_choiceOf_0 : decode cX0_choiceOf 0 = .ok (.iconst 0, 1) := by decide +kernel
theorem dX0_choiceOf_1 : decode cX0_choiceOf 1 = .ok (.istore_n 3, 1) := by decide +kernel
theorem dX0_choiceOf_2 : decode cX0_choiceOf 2 = .ok (.iload_n 3, 1) := by decide +kernel
theorem dX0_choiceOf_3 : decode cX0_choiceOf 3 = .ok (.bipush 8, 2) := by decide +kernel
theorem dX0_choiceOf_5 : decode cX0_choiceOf 5 = .ok (.if_icmp .ge 36, 3) := by decide +kernel
theorem dX0_choiceOf_8 : decode cX0_choiceOf 8 = .ok (.aload_n 0, 1) := by decide +kernel
theorem dX0_choiceOf_9 : decode cX0_choiceOf 9 = .ok (.iload_n 1, 1) := by decide +kernel
theorem dX0_choiceOf_10 : decode cX0_choiceOf 10 = .ok (.iload_n 3, 1) := by decide +kernel
theorem dX0_choiceOf_11 : decode cX0_choiceOf 11 = .ok (.invokevirtual 96, 3) := by decide +kernel
theorem dX0_choiceOf_14 : decode cX0_choiceOf 14 = .ok (.iconst (-1), 1) := by decide +kernel
theorem dX0_choiceOf_15 : decode cX0_choiceOf 15 = .ok (.if_icmp .le 20, 3) := by decide +kernel
theorem dX0_choiceOf_18 : decode cX0_choiceOf 18 = .ok (.aload_n 0, 1) := by decide +kernel
theorem dX0_choiceOf_19 : decode cX0_choiceOf 19 = .ok (.iload_n 1, 1) := by decide +kernel
theorem dX0_choiceOf_20 : decode cX0_choiceOf 20 = .ok (.aload_n 0, 1) := by decide +kernel
theorem dX0_choiceOf_21 : decode cX0_choiceOf 21 = .ok (.iload_n 1, 1) := by decide +kernel
theorem dX0_choiceOf_22 : decode cX0_choiceOf 22 = .ok (.iload_n 3, 1) := by decide +kernel
theorem dX0_choiceOf_23 : decode cX0_choiceOf 23 = .ok (.invokevirtual 96, 3) := by decide +kernel
theorem dX0_choiceOf_26 : decode cX0_choiceOf 26 = .ok (.invokevirtual 99, 3) := by decide +kernel
theorem dX0_choiceOf_29 : decode cX0_choiceOf 29 = .ok (.iload_n 2, 1) := by decide +kernel
theorem dX0_choiceOf_30 : decode cX0_choiceOf 30 = .ok (.if_icmp .ne 5, 3) := by decide +kernel
theorem dX0_choiceOf_33 : decode cX0_choiceOf 33 = .ok (.iload_n 3, 1) := by decide +kernel
theorem dX0_choiceOf_34 : decode cX0_choiceOf 34 = .ok (.ireturn, 1) := by decide +kernel
theorem dX0_choiceOf_35 : decode cX0_choiceOf 35 = .ok (.iinc 3 1, 3) := by decide +kernel
theorem dX0_choiceOf_38 : decode cX0_choiceOf 38 = .ok (.goto (-36), 3) := by decide +kernel
theorem dX0_choiceOf_41 : decode cX0_choiceOf 41 = .ok (.iconst (-1), 1) := by decide +kernel
theorem dX0_choiceOf_42 : decode cX0_choiceOf 42 = .ok (.ireturn, 1) := by decide +kernel
theorem dX0_countAbove_0 : decode cX0_countAbove 0 = .ok (.iconst 0, 1) := by decide +kernel
theorem dX0_countAbove_1 : decode cX0_countAbove 1 = .ok (.istore_n 3, 1) := by decide +kernel
theorem dX0_countAbove_2 : decode cX0_countAbove 2 = .ok (.iconst 0, 1) := by decide +kernel
theorem dX0_countAbove_3 : decode cX0_countAbove 3 = .ok (.istore 4, 2) := by decide +kernel
theorem dX0_countAbove_5 : decode cX0_countAbove 5 = .ok (.iload 4, 2) := by decide +kernel
theorem dX0_countAbove_7 : decode cX0_countAbove 7 = .ok (.bipush 8, 2) := by decide +kernel
theorem dX0_countAbove_9 : decode cX0_countAbove 9 = .ok (.if_icmp .ge 23, 3) := by decide +kernel
theorem dX0_countAbove_12 : decode cX0_countAbove 12 = .ok (.aload_n 0, 1) := by decide +kernel
theorem dX0_countAbove_13 : decode cX0_countAbove 13 = .ok (.iload_n 1, 1) := by decide +kernel
theorem dX0_countAbove_14 : decode cX0_countAbove 14 = .ok (.iload 4, 2) := by decide +kernel
theorem dX0_countAbove_16 : decode cX0_countAbove 16 = .ok (.invokevirtual 96, 3) := by decide +kernel
theorem dX0_countAbove_19 : decode cX0_countAbove 19 = .ok (.iload_n 2, 1) := by decide +kernel
theorem dX0_countAbove_20 : decode cX0_countAbove 20 = .ok (.if_icmp .le 6, 3) := by decide +kernel
theorem dX0_countAbove_23 : decode cX0_countAbove 23 = .ok (.iinc 3 1, 3) := by decide +kernel
theorem dX0_countAbove_26 : decode cX0_countAbove 26 = .ok (.iinc 4 1, 3) := by decide +kernel
theorem dX0_countAbove_29 : decode cX0_countAbove 29 = .ok (.goto (-24), 3) := by decide +kernel
theorem dX0_countAbove_32 : decode cX0_countAbove 32 = .ok (.iload_n 3, 1) := by decide +kernel
theorem dX0_countAbove_33 : decode cX0_countAbove 33 = .ok (.ireturn, 1) := by decide +kernel
theorem dX0_court_0 : decode cX0_court 0 = .ok (.aload_n 0, 1) := by decide +kernel
theorem dX0_court_1 : decode cX0_court 1 = .ok (.aload_n 1, 1) := by decide +kernel
theorem dX0_court_2 : decode cX0_court 2 = .ok (.invokevirtual 102, 3) := by decide +kernel
theorem dX0_court_5 : decode cX0_court 5 = .ok (.aload_n 0, 1) := by decide +kernel
theorem dX0_court_6 : decode cX0_court 6 = .ok (.getfield 42, 3) := by decide +kernel
theorem dX0_court_9 : decode cX0_court 9 = .ok (.bipush 15, 2) := by decide +kernel
theorem dX0_court_11 : decode cX0_court 11 = .ok (.iand, 1) := by decide +kernel
theorem dX0_court_12 : decode cX0_court 12 = .ok (.istore_n 3, 1) := by decide +kernel
theorem dX0_court_13 : decode cX0_court 13 = .ok (.aload_n 0, 1) := by decide +kernel
theorem dX0_court_14 : decode cX0_court 14 = .ok (.getfield 42, 3) := by decide +kernel
theorem dX0_court_17 : decode cX0_court 17 = .ok (.sipush 240, 3) := by decide +kernel
theorem dX0_court_20 : decode cX0_court 20 = .ok (.iand, 1) := by decide +kernel
theorem dX0_court_21 : decode cX0_court 21 = .ok (.istore 4, 2) := by decide +kernel
theorem dX0_court_23 : decode cX0_court 23 = .ok (.iload_n 2, 1) := by decide +kernel
theorem dX0_court_24 : decode cX0_court 24 = .ok (.ifCond .ne 13, 3) := by decide +kernel
theorem dX0_court_27 : decode cX0_court 27 = .ok (.aload_n 0, 1) := by decide +kernel
theorem dX0_court_28 : decode cX0_court 28 = .ok (.iload_n 3, 1) := by decide +kernel
theorem dX0_court_29 : decode cX0_court 29 = .ok (.iload 4, 2) := by decide +kernel
theorem dX0_court_31 : decode cX0_court 31 = .ok (.invokevirtual 106, 3) := by decide +kernel
theorem dX0_court_34 : decode cX0_court 34 = .ok (.goto 10, 3) := by decide +kernel
theorem dX0_court_37 : decode cX0_court 37 = .ok (.aload_n 0, 1) := by decide +kernel
theorem dX0_court_38 : decode cX0_court 38 = .ok (.iload 4, 2) := by decide +kernel
theorem dX0_court_40 : decode cX0_court 40 = .ok (.iload_n 3, 1) := by decide +kernel
theorem dX0_court_41 : decode cX0_court 41 = .ok (.invokevirtual 106, 3) := by decide +kernel
theorem dX0_court_44 : decode cX0_court 44 = .ok (.return_, 1) := by decide +kernel
theorem dX0_ask_0 : decode cX0_ask 0 = .ok (.aload_n 0, 1) := by decide +kernel
theorem dX0_ask_1 : decode cX0_ask 1 = .ok (.getfield 27, 3) := by decide +kernel
theorem dX0_ask_4 : decode cX0_ask 4 = .ok (.iconst (-1), 1) := by decide +kernel
theorem dX0_ask_5 : decode cX0_ask 5 = .ok (.invokestatic 46, 3) := by decide +kernel
theorem dX0_ask_8 : decode cX0_ask 8 = .ok (.aload_n 0, 1) := by decide +kernel
theorem dX0_ask_9 : decode cX0_ask 9 = .ok (.getfield 30, 3) := by decide +kernel
theorem dX0_ask_12 : decode cX0_ask 12 = .ok (.iload_n 2, 1) := by decide +kernel
theorem dX0_ask_13 : decode cX0_ask 13 = .ok (.invokestatic 46, 3) := by decide +kernel
theorem dX0_ask_16 : decode cX0_ask 16 = .ok (.iconst 0, 1) := by decide +kernel
theorem dX0_ask_17 : decode cX0_ask 17 = .ok (.istore_n 3, 1) := by decide +kernel
theorem dX0_ask_18 : decode cX0_ask 18 = .ok (.iload_n 3, 1) := by decide +kernel
theorem dX0_ask_19 : decode cX0_ask 19 = .ok (.sipush 1000, 3) := by decide +kernel
theorem dX0_ask_22 : decode cX0_ask 22 = .ok (.if_icmp .ge 17, 3) := by decide +kernel
theorem dX0_ask_25 : decode cX0_ask 25 = .ok (.aload_n 0, 1) := by decide +kernel
theorem dX0_ask_26 : decode cX0_ask 26 = .ok (.iload_n 1, 1) := by decide +kernel
theorem dX0_ask_27 : decode cX0_ask 27 = .ok (.invokevirtual 110, 3) := by decide +kernel
theorem dX0_ask_30 : decode cX0_ask 30 = .ok (.ifCond .eq 9, 3) := by decide +kernel
theorem dX0_ask_33 : decode cX0_ask 33 = .ok (.iinc 3 1, 3) := by decide +kernel
theorem dX0_ask_36 : decode cX0_ask 36 = .ok (.goto (-18), 3) := by decide +kernel
theorem dX0_ask_39 : decode cX0_ask 39 = .ok (.return_, 1) := by decide +kernel
theorem dX0_firstAsks_0 : decode cX0_firstAsks 0 = .ok (.iconst 0, 1) := by decide +kernel
theorem dX0_firstAsks_1 : decode cX0_firstAsks 1 = .ok (.istore_n 2, 1) := by decide +kernel
theorem dX0_firstAsks_2 : decode cX0_firstAsks 2 = .ok (.iload_n 2, 1) := by decide +kernel
theorem dX0_firstAsks_3 : decode cX0_firstAsks 3 = .ok (.bipush 8, 2) := by decide +kernel
theorem dX0_firstAsks_5 : decode cX0_firstAsks 5 = .ok (.if_icmp .ge 69, 3) := by decide +kernel
theorem dX0_firstAsks_8 : decode cX0_firstAsks 8 = .ok (.iload_n 1, 1) := by decide +kernel
theorem dX0_firstAsks_9 : decode cX0_firstAsks 9 = .ok (.iload_n 2, 1) := by decide +kernel
theorem dX0_firstAsks_10 : decode cX0_firstAsks 10 = .ok (.ishr, 1) := by decide +kernel
theorem dX0_firstAsks_11 : decode cX0_firstAsks 11 = .ok (.iconst 1, 1) := by decide +kernel
theorem dX0_firstAsks_12 : decode cX0_firstAsks 12 = .ok (.iand, 1) := by decide +kernel
theorem dX0_firstAsks_13 : decode cX0_firstAsks 13 = .ok (.ifCond .eq 55, 3) := by decide +kernel
theorem dX0_firstAsks_16 : decode cX0_firstAsks 16 = .ok (.aload_n 0, 1) := by decide +kernel
theorem dX0_firstAsks_17 : decode cX0_firstAsks 17 = .ok (.getfield 27, 3) := by decide +kernel
theorem dX0_firstAsks_20 : decode cX0_firstAsks 20 = .ok (.iload_n 2, 1) := by decide +kernel
theorem dX0_firstAsks_21 : decode cX0_firstAsks 21 = .ok (.iaload, 1) := by decide +kernel
theorem dX0_firstAsks_22 : decode cX0_firstAsks 22 = .ok (.iconst (-1), 1) := by decide +kernel
theorem dX0_firstAsks_23 : decode cX0_firstAsks 23 = .ok (.if_icmp .eq 6, 3) := by decide +kernel
theorem dX0_firstAsks_26 : decode cX0_firstAsks 26 = .ok (.goto 42, 3) := by decide +kernel
theorem dX0_firstAsks_29 : decode cX0_firstAsks 29 = .ok (.aload_n 0, 1) := by decide +kernel
theorem dX0_firstAsks_30 : decode cX0_firstAsks 30 = .ok (.iload_n 2, 1) := by decide +kernel
theorem dX0_firstAsks_31 : decode cX0_firstAsks 31 = .ok (.aload_n 0, 1) := by decide +kernel
theorem dX0_firstAsks_32 : decode cX0_firstAsks 32 = .ok (.getfield 30, 3) := by decide +kernel
theorem dX0_firstAsks_35 : decode cX0_firstAsks 35 = .ok (.iload_n 2, 1) := by decide +kernel
theorem dX0_firstAsks_36 : decode cX0_firstAsks 36 = .ok (.iaload, 1) := by decide +kernel
theorem dX0_firstAsks_37 : decode cX0_firstAsks 37 = .ok (.invokevirtual 113, 3) := by decide +kernel
theorem dX0_firstAsks_40 : decode cX0_firstAsks 40 = .ok (.istore_n 3, 1) := by decide +kernel
theorem dX0_firstAsks_41 : decode cX0_firstAsks 41 = .ok (.iload_n 3, 1) := by decide +kernel
theorem dX0_firstAsks_42 : decode cX0_firstAsks 42 = .ok (.iconst (-1), 1) := by decide +kernel
theorem dX0_firstAsks_43 : decode cX0_firstAsks 43 = .ok (.if_icmp .eq 25, 3) := by decide +kernel
theorem dX0_firstAsks_46 : decode cX0_firstAsks 46 = .ok (.aload_n 0, 1) := by decide +kernel
theorem dX0_firstAsks_47 : decode cX0_firstAsks 47 = .ok (.getfield 30, 3) := by decide +kernel
theorem dX0_firstAsks_50 : decode cX0_firstAsks 50 = .ok (.iload_n 2, 1) := by decide +kernel
theorem dX0_firstAsks_51 : decode cX0_firstAsks 51 = .ok (.dup2, 1) := by decide +kernel
theorem dX0_firstAsks_52 : decode cX0_firstAsks 52 = .ok (.iaload, 1) := by decide +kernel
theorem dX0_firstAsks_53 : decode cX0_firstAsks 53 = .ok (.iconst 1, 1) := by decide +kernel
theorem dX0_firstAsks_54 : decode cX0_firstAsks 54 = .ok (.iload_n 3, 1) := by decide +kernel
theorem dX0_firstAsks_55 : decode cX0_firstAsks 55 = .ok (.ishl, 1) := by decide +kernel
theorem dX0_firstAsks_56 : decode cX0_firstAsks 56 = .ok (.iconst (-1), 1) := by decide +kernel
theorem dX0_firstAsks_57 : decode cX0_firstAsks 57 = .ok (.ixor, 1) := by decide +kernel
theorem dX0_firstAsks_58 : decode cX0_firstAsks 58 = .ok (.iand, 1) := by decide +kernel
theorem dX0_firstAsks_59 : decode cX0_firstAsks 59 = .ok (.iastore, 1) := by decide +kernel
theorem dX0_firstAsks_60 : decode cX0_firstAsks 60 = .ok (.aload_n 0, 1) := by decide +kernel
theorem dX0_firstAsks_61 : decode cX0_firstAsks 61 = .ok (.iload_n 2, 1) := by decide +kernel
theorem dX0_firstAsks_62 : decode cX0_firstAsks 62 = .ok (.iload_n 3, 1) := by decide +kernel
theorem dX0_firstAsks_63 : decode cX0_firstAsks 63 = .ok (.invokevirtual 116, 3) := by decide +kernel
theorem dX0_firstAsks_66 : decode cX0_firstAsks 66 = .ok (.iconst 1, 1) := by decide +kernel
theorem dX0_firstAsks_67 : decode cX0_firstAsks 67 = .ok (.ireturn, 1) := by decide +kernel
theorem dX0_firstAsks_68 : decode cX0_firstAsks 68 = .ok (.iinc 2 1, 3) := by decide +kernel
theorem dX0_firstAsks_71 : decode cX0_firstAsks 71 = .ok (.goto (-69), 3) := by decide +kernel
theorem dX0_firstAsks_74 : decode cX0_firstAsks 74 = .ok (.iconst 0, 1) := by decide +kernel
theorem dX0_firstAsks_75 : decode cX0_firstAsks 75 = .ok (.ireturn, 1) := by decide +kernel
theorem dX0_dearest_0 : decode cX0_dearest 0 = .ok (.iconst (-1), 1) := by decide +kernel
theorem dX0_dearest_1 : decode cX0_dearest 1 = .ok (.istore_n 3, 1) := by decide +kernel
theorem dX0_dearest_2 : decode cX0_dearest 2 = .ok (.iconst (-1), 1) := by decide +kernel
theorem dX0_dearest_3 : decode cX0_dearest 3 = .ok (.istore 4, 2) := by decide +kernel
theorem dX0_dearest_5 : decode cX0_dearest 5 = .ok (.iload_n 1, 1) := by decide +kernel
theorem dX0_dearest_6 : decode cX0_dearest 6 = .ok (.iconst 4, 1) := by decide +kernel
theorem dX0_dearest_7 : decode cX0_dearest 7 = .ok (.if_icmp .ge 7, 3) := by decide +kernel
theorem dX0_dearest_10 : decode cX0_dearest 10 = .ok (.iconst 4, 1) := by decide +kernel
theorem dX0_dearest_11 : decode cX0_dearest 11 = .ok (.goto 4, 3) := by decide +kernel
theorem dX0_dearest_14 : decode cX0_dearest 14 = .ok (.iconst 0, 1) := by decide +kernel
theorem dX0_dearest_15 : decode cX0_dearest 15 = .ok (.istore 5, 2) := by decide +kernel
theorem dX0_dearest_17 : decode cX0_dearest 17 = .ok (.iload 5, 2) := by decide +kernel
theorem dX0_dearest_19 : decode cX0_dearest 19 = .ok (.istore 6, 2) := by decide +kernel
theorem dX0_dearest_21 : decode cX0_dearest 21 = .ok (.iload 6, 2) := by decide +kernel
theorem dX0_dearest_23 : decode cX0_dearest 23 = .ok (.iload 5, 2) := by decide +kernel
theorem dX0_dearest_25 : decode cX0_dearest 25 = .ok (.iconst 4, 1) := by decide +kernel
theorem dX0_dearest_26 : decode cX0_dearest 26 = .ok (.iadd, 1) := by decide +kernel
theorem dX0_dearest_27 : decode cX0_dearest 27 = .ok (.if_icmp .ge 53, 3) := by decide +kernel
theorem dX0_dearest_30 : decode cX0_dearest 30 = .ok (.iload_n 2, 1) := by decide +kernel
theorem dX0_dearest_31 : decode cX0_dearest 31 = .ok (.iload 6, 2) := by decide +kernel
theorem dX0_dearest_33 : decode cX0_dearest 33 = .ok (.ishr, 1) := by decide +kernel
theorem dX0_dearest_34 : decode cX0_dearest 34 = .ok (.iconst 1, 1) := by decide +kernel
theorem dX0_dearest_35 : decode cX0_dearest 35 = .ok (.iand, 1) := by decide +kernel
theorem dX0_dearest_36 : decode cX0_dearest 36 = .ok (.iconst 1, 1) := by decide +kernel
theorem dX0_dearest_37 : decode cX0_dearest 37 = .ok (.if_icmp .ne 37, 3) := by decide +kernel
theorem dX0_dearest_40 : decode cX0_dearest 40 = .ok (.aload_n 0, 1) := by decide +kernel
theorem dX0_dearest_41 : decode cX0_dearest 41 = .ok (.getfield 24, 3) := by decide +kernel
theorem dX0_dearest_44 : decode cX0_dearest 44 = .ok (.iload_n 1, 1) := by decide +kernel
theorem dX0_dearest_45 : decode cX0_dearest 45 = .ok (.bipush 8, 2) := by decide +kernel
theorem dX0_dearest_47 : decode cX0_dearest 47 = .ok (.imul, 1) := by decide +kernel
theorem dX0_dearest_48 : decode cX0_dearest 48 = .ok (.iload 6, 2) := by decide +kernel
theorem dX0_dearest_50 : decode cX0_dearest 50 = .ok (.iadd, 1) := by decide +kernel
theorem dX0_dearest_51 : decode cX0_dearest 51 = .ok (.iaload, 1) := by decide +kernel
theorem dX0_dearest_52 : decode cX0_dearest 52 = .ok (.iload 4, 2) := by decide +kernel
theorem dX0_dearest_54 : decode cX0_dearest 54 = .ok (.if_icmp .le 20, 3) := by decide +kernel
theorem dX0_dearest_57 : decode cX0_dearest 57 = .ok (.iload 6, 2) := by decide +kernel
theorem dX0_dearest_59 : decode cX0_dearest 59 = .ok (.istore_n 3, 1) := by decide +kernel
theorem dX0_dearest_60 : decode cX0_dearest 60 = .ok (.aload_n 0, 1) := by decide +kernel
theorem dX0_dearest_61 : decode cX0_dearest 61 = .ok (.getfield 24, 3) := by decide +kernel
theorem dX0_dearest_64 : decode cX0_dearest 64 = .ok (.iload_n 1, 1) := by decide +kernel
theorem dX0_dearest_65 : decode cX0_dearest 65 = .ok (.bipush 8, 2) := by decide +kernel
theorem dX0_dearest_67 : decode cX0_dearest 67 = .ok (.imul, 1) := by decide +kernel
theorem dX0_dearest_68 : decode cX0_dearest 68 = .ok (.iload 6, 2) := by decide +kernel
theorem dX0_dearest_70 : decode cX0_dearest 70 = .ok (.iadd, 1) := by decide +kernel
theorem dX0_dearest_71 : decode cX0_dearest 71 = .ok (.iaload, 1) := by decide +kernel
theorem dX0_dearest_72 : decode cX0_dearest 72 = .ok (.istore 4, 2) := by decide +kernel
theorem dX0_dearest_74 : decode cX0_dearest 74 = .ok (.iinc 6 1, 3) := by decide +kernel
theorem dX0_dearest_77 : decode cX0_dearest 77 = .ok (.goto (-56), 3) := by decide +kernel
theorem dX0_dearest_80 : decode cX0_dearest 80 = .ok (.iload_n 3, 1) := by decide +kernel
theorem dX0_dearest_81 : decode cX0_dearest 81 = .ok (.ireturn, 1) := by decide +kernel
theorem dX0_answer_0 : decode cX0_answer 0 = .ok (.aload_n 0, 1) := by decide +kernel
theorem dX0_answer_1 : decode cX0_answer 1 = .ok (.getfield 27, 3) := by decide +kernel
theorem dX0_answer_4 : decode cX0_answer 4 = .ok (.iload_n 2, 1) := by decide +kernel
theorem dX0_answer_5 : decode cX0_answer 5 = .ok (.iaload, 1) := by decide +kernel
theorem dX0_answer_6 : decode cX0_answer 6 = .ok (.istore_n 3, 1) := by decide +kernel
theorem dX0_answer_7 : decode cX0_answer 7 = .ok (.aload_n 0, 1) := by decide +kernel
theorem dX0_answer_8 : decode cX0_answer 8 = .ok (.iload_n 2, 1) := by decide +kernel
theorem dX0_answer_9 : decode cX0_answer 9 = .ok (.iload_n 1, 1) := by decide +kernel
theorem dX0_answer_10 : decode cX0_answer 10 = .ok (.invokevirtual 96, 3) := by decide +kernel
theorem dX0_answer_13 : decode cX0_answer 13 = .ok (.aload_n 0, 1) := by decide +kernel
theorem dX0_answer_14 : decode cX0_answer 14 = .ok (.iload_n 2, 1) := by decide +kernel
theorem dX0_answer_15 : decode cX0_answer 15 = .ok (.iload_n 3, 1) := by decide +kernel
theorem dX0_answer_16 : decode cX0_answer 16 = .ok (.invokevirtual 96, 3) := by decide +kernel
theorem dX0_answer_19 : decode cX0_answer 19 = .ok (.if_icmp .le 29, 3) := by decide +kernel
theorem dX0_answer_22 : decode cX0_answer 22 = .ok (.iload_n 3, 1) := by decide +kernel
theorem dX0_answer_23 : decode cX0_answer 23 = .ok (.iconst (-1), 1) := by decide +kernel
theorem dX0_answer_24 : decode cX0_answer 24 = .ok (.if_icmp .eq 10, 3) := by decide +kernel
theorem dX0_answer_27 : decode cX0_answer 27 = .ok (.aload_n 0, 1) := by decide +kernel
theorem dX0_answer_28 : decode cX0_answer 28 = .ok (.getfield 27, 3) := by decide +kernel
theorem dX0_answer_31 : decode cX0_answer 31 = .ok (.iload_n 3, 1) := by decide +kernel
theorem dX0_answer_32 : decode cX0_answer 32 = .ok (.iconst (-1), 1) := by decide +kernel
theorem dX0_answer_33 : decode cX0_answer 33 = .ok (.iastore, 1) := by decide +kernel
theorem dX0_answer_34 : decode cX0_answer 34 = .ok (.aload_n 0, 1) := by decide +kernel
theorem dX0_answer_35 : decode cX0_answer 35 = .ok (.getfield 27, 3) := by decide +kernel
theorem dX0_answer_38 : decode cX0_answer 38 = .ok (.iload_n 1, 1) := by decide +kernel
theorem dX0_answer_39 : decode cX0_answer 39 = .ok (.iload_n 2, 1) := by decide +kernel
theorem dX0_answer_40 : decode cX0_answer 40 = .ok (.iastore, 1) := by decide +kernel
theorem dX0_answer_41 : decode cX0_answer 41 = .ok (.aload_n 0, 1) := by decide +kernel
theorem dX0_answer_42 : decode cX0_answer 42 = .ok (.getfield 27, 3) := by decide +kernel
theorem dX0_answer_45 : decode cX0_answer 45 = .ok (.iload_n 2, 1) := by decide +kernel
theorem dX0_answer_46 : decode cX0_answer 46 = .ok (.iload_n 1, 1) := by decide +kernel
theorem dX0_answer_47 : decode cX0_answer 47 = .ok (.iastore, 1) := by decide +kernel
theorem dX0_answer_48 : decode cX0_answer 48 = .ok (.return_, 1) := by decide +kernel
theorem dX0_matedBits_0 : decode cX0_matedBits 0 = .ok (.iconst 0, 1) := by decide +kernel
theorem dX0_matedBits_1 : decode cX0_matedBits 1 = .ok (.istore_n 1, 1) := by decide +kernel
theorem dX0_matedBits_2 : decode cX0_matedBits 2 = .ok (.iconst 0, 1) := by decide +kernel
theorem dX0_matedBits_3 : decode cX0_matedBits 3 = .ok (.istore_n 2, 1) := by decide +kernel
theorem dX0_matedBits_4 : decode cX0_matedBits 4 = .ok (.iload_n 2, 1) := by decide +kernel
theorem dX0_matedBits_5 : decode cX0_matedBits 5 = .ok (.bipush 8, 2) := by decide +kernel
theorem dX0_matedBits_7 : decode cX0_matedBits 7 = .ok (.if_icmp .ge 25, 3) := by decide +kernel
theorem dX0_matedBits_10 : decode cX0_matedBits 10 = .ok (.aload_n 0, 1) := by decide +kernel
theorem dX0_matedBits_11 : decode cX0_matedBits 11 = .ok (.getfield 27, 3) := by decide +kernel
theorem dX0_matedBits_14 : decode cX0_matedBits 14 = .ok (.iload_n 2, 1) := by decide +kernel
theorem dX0_matedBits_15 : decode cX0_matedBits 15 = .ok (.iaload, 1) := by decide +kernel
theorem dX0_matedBits_16 : decode cX0_matedBits 16 = .ok (.iconst (-1), 1) := by decide +kernel
theorem dX0_matedBits_17 : decode cX0_matedBits 17 = .ok (.if_icmp .eq 9, 3) := by decide +kernel
theorem dX0_matedBits_20 : decode cX0_matedBits 20 = .ok (.iload_n 1, 1) := by decide +kernel
theorem dX0_matedBits_21 : decode cX0_matedBits 21 = .ok (.iconst 1, 1) := by decide +kernel
theorem dX0_matedBits_22 : decode cX0_matedBits 22 = .ok (.iload_n 2, 1) := by decide +kernel
theorem dX0_matedBits_23 : decode cX0_matedBits 23 = .ok (.ishl, 1) := by decide +kernel
theorem dX0_matedBits_24 : decode cX0_matedBits 24 = .ok (.ior, 1) := by decide +kernel
theorem dX0_matedBits_25 : decode cX0_matedBits 25 = .ok (.istore_n 1, 1) := by decide +kernel
theorem dX0_matedBits_26 : decode cX0_matedBits 26 = .ok (.iinc 2 1, 3) := by decide +kernel
theorem dX0_matedBits_29 : decode cX0_matedBits 29 = .ok (.goto (-25), 3) := by decide +kernel
theorem dX0_matedBits_32 : decode cX0_matedBits 32 = .ok (.iload_n 1, 1) := by decide +kernel
theorem dX0_matedBits_33 : decode cX0_matedBits 33 = .ok (.ireturn, 1) := by decide +kernel
theorem dX0_pairs_0 : decode cX0_pairs 0 = .ok (.aload_n 0, 1) := by decide +kernel
theorem dX0_pairs_1 : decode cX0_pairs 1 = .ok (.invokevirtual 119, 3) := by decide +kernel
theorem dX0_pairs_4 : decode cX0_pairs 4 = .ok (.bipush 15, 2) := by decide +kernel
theorem dX0_pairs_6 : decode cX0_pairs 6 = .ok (.iand, 1) := by decide +kernel
theorem dX0_pairs_7 : decode cX0_pairs 7 = .ok (.invokestatic 122, 3) := by decide +kernel
theorem dX0_pairs_10 : decode cX0_pairs 10 = .ok (.ireturn, 1) := by decide +kernel
theorem dX0_allLikes_0 : decode cX0_allLikes 0 = .ok (.iconst 0, 1) := by decide +kernel
theorem dX0_allLikes_1 : decode cX0_allLikes 1 = .ok (.istore_n 1, 1) := by decide +kernel
theorem dX0_allLikes_2 : decode cX0_allLikes 2 = .ok (.iconst 0, 1) := by decide +kernel
theorem dX0_allLikes_3 : decode cX0_allLikes 3 = .ok (.istore_n 2, 1) := by decide +kernel
theorem dX0_allLikes_4 : decode cX0_allLikes 4 = .ok (.iload_n 2, 1) := by decide +kernel
theorem dX0_allLikes_5 : decode cX0_allLikes 5 = .ok (.bipush 8, 2) := by decide +kernel
theorem dX0_allLikes_7 : decode cX0_allLikes 7 = .ok (.if_icmp .ge 33, 3) := by decide +kernel
theorem dX0_allLikes_10 : decode cX0_allLikes 10 = .ok (.aload_n 0, 1) := by decide +kernel
theorem dX0_allLikes_11 : decode cX0_allLikes 11 = .ok (.getfield 27, 3) := by decide +kernel
theorem dX0_allLikes_14 : decode cX0_allLikes 14 = .ok (.iload_n 2, 1) := by decide +kernel
theorem dX0_allLikes_15 : decode cX0_allLikes 15 = .ok (.iaload, 1) := by decide +kernel
theorem dX0_allLikes_16 : decode cX0_allLikes 16 = .ok (.iconst (-1), 1) := by decide +kernel
theorem dX0_allLikes_17 : decode cX0_allLikes 17 = .ok (.if_icmp .eq 17, 3) := by decide +kernel
theorem dX0_allLikes_20 : decode cX0_allLikes 20 = .ok (.iload_n 1, 1) := by decide +kernel
theorem dX0_allLikes_21 : decode cX0_allLikes 21 = .ok (.aload_n 0, 1) := by decide +kernel
theorem dX0_allLikes_22 : decode cX0_allLikes 22 = .ok (.iload_n 2, 1) := by decide +kernel
theorem dX0_allLikes_23 : decode cX0_allLikes 23 = .ok (.aload_n 0, 1) := by decide +kernel
theorem dX0_allLikes_24 : decode cX0_allLikes 24 = .ok (.getfield 27, 3) := by decide +kernel
theorem dX0_allLikes_27 : decode cX0_allLikes 27 = .ok (.iload_n 2, 1) := by decide +kernel
theorem dX0_allLikes_28 : decode cX0_allLikes 28 = .ok (.iaload, 1) := by decide +kernel
theorem dX0_allLikes_29 : decode cX0_allLikes 29 = .ok (.invokevirtual 127, 3) := by decide +kernel
theorem dX0_allLikes_32 : decode cX0_allLikes 32 = .ok (.iadd, 1) := by decide +kernel
theorem dX0_allLikes_33 : decode cX0_allLikes 33 = .ok (.istore_n 1, 1) := by decide +kernel
theorem dX0_allLikes_34 : decode cX0_allLikes 34 = .ok (.iinc 2 1, 3) := by decide +kernel
theorem dX0_allLikes_37 : decode cX0_allLikes 37 = .ok (.goto (-33), 3) := by decide +kernel
theorem dX0_allLikes_40 : decode cX0_allLikes 40 = .ok (.iload_n 1, 1) := by decide +kernel
theorem dX0_allLikes_41 : decode cX0_allLikes 41 = .ok (.ireturn, 1) := by decide +kernel
theorem dX0_setMates_0 : decode cX0_setMates 0 = .ok (.aload_n 1, 1) := by decide +kernel
theorem dX0_setMates_1 : decode cX0_setMates 1 = .ok (.iconst 0, 1) := by decide +kernel
theorem dX0_setMates_2 : decode cX0_setMates 2 = .ok (.aload_n 0, 1) := by decide +kernel
theorem dX0_setMates_3 : decode cX0_setMates 3 = .ok (.getfield 27, 3) := by decide +kernel
theorem dX0_setMates_6 : decode cX0_setMates 6 = .ok (.iconst 0, 1) := by decide +kernel
theorem dX0_setMates_7 : decode cX0_setMates 7 = .ok (.aload_n 1, 1) := by decide +kernel
theorem dX0_setMates_8 : decode cX0_setMates 8 = .ok (.arraylength, 1) := by decide +kernel
theorem dX0_setMates_9 : decode cX0_setMates 9 = .ok (.bipush 8, 2) := by decide +kernel
theorem dX0_setMates_11 : decode cX0_setMates 11 = .ok (.invokestatic 130, 3) := by decide +kernel
theorem dX0_setMates_14 : decode cX0_setMates 14 = .ok (.invokestatic 133, 3) := by decide +kernel
theorem dX0_setMates_17 : decode cX0_setMates 17 = .ok (.return_, 1) := by decide +kernel
theorem dX0_quarrelOver_0 : decode cX0_quarrelOver 0 = .ok (.aload_n 0, 1) := by decide +kernel
theorem dX0_quarrelOver_1 : decode cX0_quarrelOver 1 = .ok (.iload_n 1, 1) := by decide +kernel
theorem dX0_quarrelOver_2 : decode cX0_quarrelOver 2 = .ok (.iload_n 2, 1) := by decide +kernel
theorem dX0_quarrelOver_3 : decode cX0_quarrelOver 3 = .ok (.invokevirtual 96, 3) := by decide +kernel
theorem dX0_quarrelOver_6 : decode cX0_quarrelOver 6 = .ok (.aload_n 0, 1) := by decide +kernel
theorem dX0_quarrelOver_7 : decode cX0_quarrelOver 7 = .ok (.iload_n 1, 1) := by decide +kernel
theorem dX0_quarrelOver_8 : decode cX0_quarrelOver 8 = .ok (.aload_n 0, 1) := by decide +kernel
theorem dX0_quarrelOver_9 : decode cX0_quarrelOver 9 = .ok (.getfield 27, 3) := by decide +kernel
theorem dX0_quarrelOver_12 : decode cX0_quarrelOver 12 = .ok (.iload_n 1, 1) := by decide +kernel
theorem dX0_quarrelOver_13 : decode cX0_quarrelOver 13 = .ok (.iaload, 1) := by decide +kernel
theorem dX0_quarrelOver_14 : decode cX0_quarrelOver 14 = .ok (.invokevirtual 96, 3) := by decide +kernel
theorem dX0_quarrelOver_17 : decode cX0_quarrelOver 17 = .ok (.if_icmp .le 27, 3) := by decide +kernel
theorem dX0_quarrelOver_20 : decode cX0_quarrelOver 20 = .ok (.aload_n 0, 1) := by decide +kernel
theorem dX0_quarrelOver_21 : decode cX0_quarrelOver 21 = .ok (.iload_n 2, 1) := by decide +kernel
theorem dX0_quarrelOver_22 : decode cX0_quarrelOver 22 = .ok (.iload_n 1, 1) := by decide +kernel
theorem dX0_quarrelOver_23 : decode cX0_quarrelOver 23 = .ok (.invokevirtual 96, 3) := by decide +kernel
theorem dX0_quarrelOver_26 : decode cX0_quarrelOver 26 = .ok (.aload_n 0, 1) := by decide +kernel
theorem dX0_quarrelOver_27 : decode cX0_quarrelOver 27 = .ok (.iload_n 2, 1) := by decide +kernel
theorem dX0_quarrelOver_28 : decode cX0_quarrelOver 28 = .ok (.aload_n 0, 1) := by decide +kernel
theorem dX0_quarrelOver_29 : decode cX0_quarrelOver 29 = .ok (.getfield 27, 3) := by decide +kernel
theorem dX0_quarrelOver_32 : decode cX0_quarrelOver 32 = .ok (.iload_n 2, 1) := by decide +kernel
theorem dX0_quarrelOver_33 : decode cX0_quarrelOver 33 = .ok (.iaload, 1) := by decide +kernel
theorem dX0_quarrelOver_34 : decode cX0_quarrelOver 34 = .ok (.invokevirtual 96, 3) := by decide +kernel
theorem dX0_quarrelOver_37 : decode cX0_quarrelOver 37 = .ok (.if_icmp .le 7, 3) := by decide +kernel
theorem dX0_quarrelOver_40 : decode cX0_quarrelOver 40 = .ok (.iconst 1, 1) := by decide +kernel
theorem dX0_quarrelOver_41 : decode cX0_quarrelOver 41 = .ok (.goto 4, 3) := by decide +kernel
theorem dX0_quarrelOver_44 : decode cX0_quarrelOver 44 = .ok (.iconst 0, 1) := by decide +kernel
theorem dX0_quarrelOver_45 : decode cX0_quarrelOver 45 = .ok (.ireturn, 1) := by decide +kernel
theorem dX0_quarrels_0 : decode cX0_quarrels 0 = .ok (.iconst 0, 1) := by decide +kernel
theorem dX0_quarrels_1 : decode cX0_quarrels 1 = .ok (.istore_n 1, 1) := by decide +kernel
theorem dX0_quarrels_2 : decode cX0_quarrels 2 = .ok (.iconst 0, 1) := by decide +kernel
theorem dX0_quarrels_3 : decode cX0_quarrels 3 = .ok (.istore_n 2, 1) := by decide +kernel
theorem dX0_quarrels_4 : decode cX0_quarrels 4 = .ok (.iload_n 2, 1) := by decide +kernel
theorem dX0_quarrels_5 : decode cX0_quarrels 5 = .ok (.iconst 4, 1) := by decide +kernel
theorem dX0_quarrels_6 : decode cX0_quarrels 6 = .ok (.if_icmp .ge 35, 3) := by decide +kernel
theorem dX0_quarrels_9 : decode cX0_quarrels 9 = .ok (.iconst 4, 1) := by decide +kernel
theorem dX0_quarrels_10 : decode cX0_quarrels 10 = .ok (.istore_n 3, 1) := by decide +kernel
theorem dX0_quarrels_11 : decode cX0_quarrels 11 = .ok (.iload_n 3, 1) := by decide +kernel
theorem dX0_quarrels_12 : decode cX0_quarrels 12 = .ok (.bipush 8, 2) := by decide +kernel
theorem dX0_quarrels_14 : decode cX0_quarrels 14 = .ok (.if_icmp .ge 21, 3) := by decide +kernel
theorem dX0_quarrels_17 : decode cX0_quarrels 17 = .ok (.aload_n 0, 1) := by decide +kernel
theorem dX0_quarrels_18 : decode cX0_quarrels 18 = .ok (.iload_n 2, 1) := by decide +kernel
theorem dX0_quarrels_19 : decode cX0_quarrels 19 = .ok (.iload_n 3, 1) := by decide +kernel
theorem dX0_quarrels_20 : decode cX0_quarrels 20 = .ok (.invokevirtual 139, 3) := by decide +kernel
theorem dX0_quarrels_23 : decode cX0_quarrels 23 = .ok (.ifCond .eq 6, 3) := by decide +kernel
theorem dX0_quarrels_26 : decode cX0_quarrels 26 = .ok (.iinc 1 1, 3) := by decide +kernel
theorem dX0_quarrels_29 : decode cX0_quarrels 29 = .ok (.iinc 3 1, 3) := by decide +kernel
theorem dX0_quarrels_32 : decode cX0_quarrels 32 = .ok (.goto (-21), 3) := by decide +kernel
theorem dX0_quarrels_35 : decode cX0_quarrels 35 = .ok (.iinc 2 1, 3) := by decide +kernel
theorem dX0_quarrels_38 : decode cX0_quarrels 38 = .ok (.goto (-34), 3) := by decide +kernel
theorem dX0_quarrels_41 : decode cX0_quarrels 41 = .ok (.iload_n 1, 1) := by decide +kernel
theorem dX0_quarrels_42 : decode cX0_quarrels 42 = .ok (.ireturn, 1) := by decide +kernel
theorem dX0_firstQuarrel_0 : decode cX0_firstQuarrel 0 = .ok (.iconst 0, 1) := by decide +kernel
theorem dX0_firstQuarrel_1 : decode cX0_firstQuarrel 1 = .ok (.istore_n 1, 1) := by decide +kernel
theorem dX0_firstQuarrel_2 : decode cX0_firstQuarrel 2 = .ok (.iload_n 1, 1) := by decide +kernel
theorem dX0_firstQuarrel_3 : decode cX0_firstQuarrel 3 = .ok (.iconst 4, 1) := by decide +kernel
theorem dX0_firstQuarrel_4 : decode cX0_firstQuarrel 4 = .ok (.if_icmp .ge 39, 3) := by decide +kernel
theorem dX0_firstQuarrel_7 : decode cX0_firstQuarrel 7 = .ok (.iconst 4, 1) := by decide +kernel
theorem dX0_firstQuarrel_8 : decode cX0_firstQuarrel 8 = .ok (.istore_n 2, 1) := by decide +kernel
theorem dX0_firstQuarrel_9 : decode cX0_firstQuarrel 9 = .ok (.iload_n 2, 1) := by decide +kernel
theorem dX0_firstQuarrel_10 : decode cX0_firstQuarrel 10 = .ok (.bipush 8, 2) := by decide +kernel
theorem dX0_firstQuarrel_12 : decode cX0_firstQuarrel 12 = .ok (.if_icmp .ge 25, 3) := by decide +kernel
theorem dX0_firstQuarrel_15 : decode cX0_firstQuarrel 15 = .ok (.aload_n 0, 1) := by decide +kernel
theorem dX0_firstQuarrel_16 : decode cX0_firstQuarrel 16 = .ok (.iload_n 1, 1) := by decide +kernel
theorem dX0_firstQuarrel_17 : decode cX0_firstQuarrel 17 = .ok (.iload_n 2, 1) := by decide +kernel
theorem dX0_firstQuarrel_18 : decode cX0_firstQuarrel 18 = .ok (.invokevirtual 139, 3) := by decide +kernel
theorem dX0_firstQuarrel_21 : decode cX0_firstQuarrel 21 = .ok (.ifCond .eq 10, 3) := by decide +kernel
theorem dX0_firstQuarrel_24 : decode cX0_firstQuarrel 24 = .ok (.bipush 10, 2) := by decide +kernel
theorem dX0_firstQuarrel_26 : decode cX0_firstQuarrel 26 = .ok (.iload_n 1, 1) := by decide +kernel
theorem dX0_firstQuarrel_27 : decode cX0_firstQuarrel 27 = .ok (.imul, 1) := by decide +kernel
theorem dX0_firstQuarrel_28 : decode cX0_firstQuarrel 28 = .ok (.iload_n 2, 1) := by decide +kernel
theorem dX0_firstQuarrel_29 : decode cX0_firstQuarrel 29 = .ok (.iadd, 1) := by decide +kernel
theorem dX0_firstQuarrel_30 : decode cX0_firstQuarrel 30 = .ok (.ireturn, 1) := by decide +kernel
theorem dX0_firstQuarrel_31 : decode cX0_firstQuarrel 31 = .ok (.iinc 2 1, 3) := by decide +kernel
theorem dX0_firstQuarrel_34 : decode cX0_firstQuarrel 34 = .ok (.goto (-25), 3) := by decide +kernel
theorem dX0_firstQuarrel_37 : decode cX0_firstQuarrel 37 = .ok (.iinc 1 1, 3) := by decide +kernel
theorem dX0_firstQuarrel_40 : decode cX0_firstQuarrel 40 = .ok (.goto (-38), 3) := by decide +kernel
theorem dX0_firstQuarrel_43 : decode cX0_firstQuarrel 43 = .ok (.iconst (-1), 1) := by decide +kernel
theorem dX0_firstQuarrel_44 : decode cX0_firstQuarrel 44 = .ok (.ireturn, 1) := by decide +kernel
theorem dX0_toNextPairs_0 : decode cX0_toNextPairs 0 = .ok (.iconst 3, 1) := by decide +kernel
theorem dX0_toNextPairs_1 : decode cX0_toNextPairs 1 = .ok (.istore_n 1, 1) := by decide +kernel
theorem dX0_toNextPairs_2 : decode cX0_toNextPairs 2 = .ok (.iload_n 1, 1) := by decide +kernel
theorem dX0_toNextPairs_3 : decode cX0_toNextPairs 3 = .ok (.ifCond .lt 96, 3) := by decide +kernel
theorem dX0_toNextPairs_6 : decode cX0_toNextPairs 6 = .ok (.aload_n 0, 1) := by decide +kernel
theorem dX0_toNextPairs_7 : decode cX0_toNextPairs 7 = .ok (.getfield 27, 3) := by decide +kernel
theorem dX0_toNextPairs_10 : decode cX0_toNextPairs 10 = .ok (.iload_n 1, 1) := by decide +kernel
theorem dX0_toNextPairs_11 : decode cX0_toNextPairs 11 = .ok (.iaload, 1) := by decide +kernel
theorem dX0_toNextPairs_12 : decode cX0_toNextPairs 12 = .ok (.istore_n 2, 1) := by decide +kernel
theorem dX0_toNextPairs_13 : decode cX0_toNextPairs 13 = .ok (.iload_n 2, 1) := by decide +kernel
theorem dX0_toNextPairs_14 : decode cX0_toNextPairs 14 = .ok (.iconst (-1), 1) := by decide +kernel
theorem dX0_toNextPairs_15 : decode cX0_toNextPairs 15 = .ok (.if_icmp .eq 17, 3) := by decide +kernel
theorem dX0_toNextPairs_18 : decode cX0_toNextPairs 18 = .ok (.aload_n 0, 1) := by decide +kernel
theorem dX0_toNextPairs_19 : decode cX0_toNextPairs 19 = .ok (.getfield 27, 3) := by decide +kernel
theorem dX0_toNextPairs_22 : decode cX0_toNextPairs 22 = .ok (.iload_n 2, 1) := by decide +kernel
theorem dX0_toNextPairs_23 : decode cX0_toNextPairs 23 = .ok (.iconst (-1), 1) := by decide +kernel
theorem dX0_toNextPairs_24 : decode cX0_toNextPairs 24 = .ok (.iastore, 1) := by decide +kernel
theorem dX0_toNextPairs_25 : decode cX0_toNextPairs 25 = .ok (.aload_n 0, 1) := by decide +kernel
theorem dX0_toNextPairs_26 : decode cX0_toNextPairs 26 = .ok (.getfield 27, 3) := by decide +kernel
theorem dX0_toNextPairs_29 : decode cX0_toNextPairs 29 = .ok (.iload_n 1, 1) := by decide +kernel
theorem dX0_toNextPairs_30 : decode cX0_toNextPairs 30 = .ok (.iconst (-1), 1) := by decide +kernel
theorem dX0_toNextPairs_31 : decode cX0_toNextPairs 31 = .ok (.iastore, 1) := by decide +kernel
theorem dX0_toNextPairs_32 : decode cX0_toNextPairs 32 = .ok (.iload_n 2, 1) := by decide +kernel
theorem dX0_toNextPairs_33 : decode cX0_toNextPairs 33 = .ok (.iconst (-1), 1) := by decide +kernel
theorem dX0_toNextPairs_34 : decode cX0_toNextPairs 34 = .ok (.if_icmp .ne 7, 3) := by decide +kernel
theorem dX0_toNextPairs_37 : decode cX0_toNextPairs 37 = .ok (.iconst 4, 1) := by decide +kernel
theorem dX0_toNextPairs_38 : decode cX0_toNextPairs 38 = .ok (.goto 6, 3) := by decide +kernel
theorem dX0_toNextPairs_41 : decode cX0_toNextPairs 41 = .ok (.iload_n 2, 1) := by decide +kernel
theorem dX0_toNextPairs_42 : decode cX0_toNextPairs 42 = .ok (.iconst 1, 1) := by decide +kernel
theorem dX0_toNextPairs_43 : decode cX0_toNextPairs 43 = .ok (.iadd, 1) := by decide +kernel
theorem dX0_toNextPairs_44 : decode cX0_toNextPairs 44 = .ok (.istore_n 3, 1) := by decide +kernel
theorem dX0_toNextPairs_45 : decode cX0_toNextPairs 45 = .ok (.iload_n 3, 1) := by decide +kernel
theorem dX0_toNextPairs_46 : decode cX0_toNextPairs 46 = .ok (.bipush 8, 2) := by decide +kernel
theorem dX0_toNextPairs_48 : decode cX0_toNextPairs 48 = .ok (.if_icmp .ge 45, 3) := by decide +kernel
theorem dX0_toNextPairs_51 : decode cX0_toNextPairs 51 = .ok (.aload_n 0, 1) := by decide +kernel
theorem dX0_toNextPairs_52 : decode cX0_toNextPairs 52 = .ok (.getfield 27, 3) := by decide +kernel
theorem dX0_toNextPairs_55 : decode cX0_toNextPairs 55 = .ok (.iload_n 3, 1) := by decide +kernel
theorem dX0_toNextPairs_56 : decode cX0_toNextPairs 56 = .ok (.iaload, 1) := by decide +kernel
theorem dX0_toNextPairs_57 : decode cX0_toNextPairs 57 = .ok (.iconst (-1), 1) := by decide +kernel
theorem dX0_toNextPairs_58 : decode cX0_toNextPairs 58 = .ok (.if_icmp .ne 29, 3) := by decide +kernel
theorem dX0_toNextPairs_61 : decode cX0_toNextPairs 61 = .ok (.aload_n 0, 1) := by decide +kernel
theorem dX0_toNextPairs_62 : decode cX0_toNextPairs 62 = .ok (.iload_n 1, 1) := by decide +kernel
theorem dX0_toNextPairs_63 : decode cX0_toNextPairs 63 = .ok (.iload_n 3, 1) := by decide +kernel
theorem dX0_toNextPairs_64 : decode cX0_toNextPairs 64 = .ok (.invokevirtual 96, 3) := by decide +kernel
theorem dX0_toNextPairs_67 : decode cX0_toNextPairs 67 = .ok (.iconst (-1), 1) := by decide +kernel
theorem dX0_toNextPairs_68 : decode cX0_toNextPairs 68 = .ok (.if_icmp .le 19, 3) := by decide +kernel
theorem dX0_toNextPairs_71 : decode cX0_toNextPairs 71 = .ok (.aload_n 0, 1) := by decide +kernel
theorem dX0_toNextPairs_72 : decode cX0_toNextPairs 72 = .ok (.getfield 27, 3) := by decide +kernel
theorem dX0_toNextPairs_75 : decode cX0_toNextPairs 75 = .ok (.iload_n 1, 1) := by decide +kernel
theorem dX0_toNextPairs_76 : decode cX0_toNextPairs 76 = .ok (.iload_n 3, 1) := by decide +kernel
theorem dX0_toNextPairs_77 : decode cX0_toNextPairs 77 = .ok (.iastore, 1) := by decide +kernel
theorem dX0_toNextPairs_78 : decode cX0_toNextPairs 78 = .ok (.aload_n 0, 1) := by decide +kernel
theorem dX0_toNextPairs_79 : decode cX0_toNextPairs 79 = .ok (.getfield 27, 3) := by decide +kernel
theorem dX0_toNextPairs_82 : decode cX0_toNextPairs 82 = .ok (.iload_n 3, 1) := by decide +kernel
theorem dX0_toNextPairs_83 : decode cX0_toNextPairs 83 = .ok (.iload_n 1, 1) := by decide +kernel
theorem dX0_toNextPairs_84 : decode cX0_toNextPairs 84 = .ok (.iastore, 1) := by decide +kernel
theorem dX0_toNextPairs_85 : decode cX0_toNextPairs 85 = .ok (.iconst 1, 1) := by decide +kernel
theorem dX0_toNextPairs_86 : decode cX0_toNextPairs 86 = .ok (.ireturn, 1) := by decide +kernel
theorem dX0_toNextPairs_87 : decode cX0_toNextPairs 87 = .ok (.iinc 3 1, 3) := by decide +kernel
theorem dX0_toNextPairs_90 : decode cX0_toNextPairs 90 = .ok (.goto (-45), 3) := by decide +kernel
theorem dX0_toNextPairs_93 : decode cX0_toNextPairs 93 = .ok (.iinc 1 (-1), 3) := by decide +kernel
theorem dX0_toNextPairs_96 : decode cX0_toNextPairs 96 = .ok (.goto (-94), 3) := by decide +kernel
theorem dX0_toNextPairs_99 : decode cX0_toNextPairs 99 = .ok (.iconst 0, 1) := by decide +kernel
theorem dX0_toNextPairs_100 : decode cX0_toNextPairs 100 = .ok (.ireturn, 1) := by decide +kernel
theorem dX0_countHolding_0 : decode cX0_countHolding 0 = .ok (.aload_n 0, 1) := by decide +kernel
theorem dX0_countHolding_1 : decode cX0_countHolding 1 = .ok (.iconst (-1), 1) := by decide +kernel
theorem dX0_countHolding_2 : decode cX0_countHolding 2 = .ok (.iconst (-1), 1) := by decide +kernel
theorem dX0_countHolding_3 : decode cX0_countHolding 3 = .ok (.invokevirtual 142, 3) := by decide +kernel
theorem dX0_countHolding_6 : decode cX0_countHolding 6 = .ok (.ireturn, 1) := by decide +kernel
theorem dX0_countHoldingWith_0 : decode cX0_countHoldingWith 0 = .ok (.aload_n 0, 1) := by decide +kernel
theorem dX0_countHoldingWith_1 : decode cX0_countHoldingWith 1 = .ok (.getfield 27, 3) := by decide +kernel
theorem dX0_countHoldingWith_4 : decode cX0_countHoldingWith 4 = .ok (.iconst (-1), 1) := by decide +kernel
theorem dX0_countHoldingWith_5 : decode cX0_countHoldingWith 5 = .ok (.invokestatic 46, 3) := by decide +kernel
theorem dX0_countHoldingWith_8 : decode cX0_countHoldingWith 8 = .ok (.iconst 0, 1) := by decide +kernel
theorem dX0_countHoldingWith_9 : decode cX0_countHoldingWith 9 = .ok (.istore_n 3, 1) := by decide +kernel
theorem dX0_countHoldingWith_10 : decode cX0_countHoldingWith 10 = .ok (.iconst 1, 1) := by decide +kernel
theorem dX0_countHoldingWith_11 : decode cX0_countHoldingWith 11 = .ok (.istore 4, 2) := by decide +kernel
theorem dX0_countHoldingWith_13 : decode cX0_countHoldingWith 13 = .ok (.iconst 0, 1) := by decide +kernel
theorem dX0_countHoldingWith_14 : decode cX0_countHoldingWith 14 = .ok (.istore 5, 2) := by decide +kernel
theorem dX0_countHoldingWith_16 : decode cX0_countHoldingWith 16 = .ok (.iload 5, 2) := by decide +kernel
theorem dX0_countHoldingWith_18 : decode cX0_countHoldingWith 18 = .ok (.sipush 10000, 3) := by decide +kernel
theorem dX0_countHoldingWith_21 : decode cX0_countHoldingWith 21 = .ok (.if_icmp .ge 58, 3) := by decide +kernel
theorem dX0_countHoldingWith_24 : decode cX0_countHoldingWith 24 = .ok (.iload 4, 2) := by decide +kernel
theorem dX0_countHoldingWith_26 : decode cX0_countHoldingWith 26 = .ok (.ifCond .eq 53, 3) := by decide +kernel
theorem dX0_countHoldingWith_29 : decode cX0_countHoldingWith 29 = .ok (.iload_n 1, 1) := by decide +kernel
theorem dX0_countHoldingWith_30 : decode cX0_countHoldingWith 30 = .ok (.iconst (-1), 1) := by decide +kernel
theorem dX0_countHoldingWith_31 : decode cX0_countHoldingWith 31 = .ok (.if_icmp .eq 13, 3) := by decide +kernel
theorem dX0_countHoldingWith_34 : decode cX0_countHoldingWith 34 = .ok (.aload_n 0, 1) := by decide +kernel
theorem dX0_countHoldingWith_35 : decode cX0_countHoldingWith 35 = .ok (.getfield 27, 3) := by decide +kernel
theorem dX0_countHoldingWith_38 : decode cX0_countHoldingWith 38 = .ok (.iload_n 1, 1) := by decide +kernel
theorem dX0_countHoldingWith_39 : decode cX0_countHoldingWith 39 = .ok (.iaload, 1) := by decide +kernel
theorem dX0_countHoldingWith_40 : decode cX0_countHoldingWith 40 = .ok (.iload_n 2, 1) := by decide +kernel
theorem dX0_countHoldingWith_41 : decode cX0_countHoldingWith 41 = .ok (.if_icmp .ne 7, 3) := by decide +kernel
theorem dX0_countHoldingWith_44 : decode cX0_countHoldingWith 44 = .ok (.iconst 1, 1) := by decide +kernel
theorem dX0_countHoldingWith_45 : decode cX0_countHoldingWith 45 = .ok (.goto 4, 3) := by decide +kernel
theorem dX0_countHoldingWith_48 : decode cX0_countHoldingWith 48 = .ok (.iconst 0, 1) := by decide +kernel
theorem dX0_countHoldingWith_49 : decode cX0_countHoldingWith 49 = .ok (.istore 6, 2) := by decide +kernel
theorem dX0_countHoldingWith_51 : decode cX0_countHoldingWith 51 = .ok (.iload 6, 2) := by decide +kernel
theorem dX0_countHoldingWith_53 : decode cX0_countHoldingWith 53 = .ok (.ifCond .eq 14, 3) := by decide +kernel
theorem dX0_countHoldingWith_56 : decode cX0_countHoldingWith 56 = .ok (.aload_n 0, 1) := by decide +kernel
theorem dX0_countHoldingWith_57 : decode cX0_countHoldingWith 57 = .ok (.invokevirtual 145, 3) := by decide +kernel
theorem dX0_countHoldingWith_60 : decode cX0_countHoldingWith 60 = .ok (.iconst (-1), 1) := by decide +kernel
theorem dX0_countHoldingWith_61 : decode cX0_countHoldingWith 61 = .ok (.if_icmp .ne 6, 3) := by decide +kernel
theorem dX0_countHoldingWith_64 : decode cX0_countHoldingWith 64 = .ok (.iinc 3 1, 3) := by decide +kernel
theorem dX0_countHoldingWith_67 : decode cX0_countHoldingWith 67 = .ok (.aload_n 0, 1) := by decide +kernel
theorem dX0_countHoldingWith_68 : decode cX0_countHoldingWith 68 = .ok (.invokevirtual 148, 3) := by decide +kernel
theorem dX0_countHoldingWith_71 : decode cX0_countHoldingWith 71 = .ok (.istore 4, 2) := by decide +kernel
theorem dX0_countHoldingWith_73 : decode cX0_countHoldingWith 73 = .ok (.iinc 5 1, 3) := by decide +kernel
theorem dX0_countHoldingWith_76 : decode cX0_countHoldingWith 76 = .ok (.goto (-60), 3) := by decide +kernel
theorem dX0_countHoldingWith_79 : decode cX0_countHoldingWith 79 = .ok (.iload_n 3, 1) := by decide +kernel
theorem dX0_countHoldingWith_80 : decode cX0_countHoldingWith 80 = .ok (.ireturn, 1) := by decide +kernel
theorem dX0_findMost_0 : decode cX0_findMost 0 = .ok (.aload_n 0, 1) := by decide +kernel
theorem dX0_findMost_1 : decode cX0_findMost 1 = .ok (.getfield 27, 3) := by decide +kernel
theorem dX0_findMost_4 : decode cX0_findMost 4 = .ok (.iconst (-1), 1) := by decide +kernel
theorem dX0_findMost_5 : decode cX0_findMost 5 = .ok (.invokestatic 46, 3) := by decide +kernel
theorem dX0_findMost_8 : decode cX0_findMost 8 = .ok (.aload_n 0, 1) := by decide +kernel
theorem dX0_findMost_9 : decode cX0_findMost 9 = .ok (.getfield 33, 3) := by decide +kernel
theorem dX0_findMost_12 : decode cX0_findMost 12 = .ok (.iconst (-1), 1) := by decide +kernel
theorem dX0_findMost_13 : decode cX0_findMost 13 = .ok (.invokestatic 46, 3) := by decide +kernel
theorem dX0_findMost_16 : decode cX0_findMost 16 = .ok (.iconst 0, 1) := by decide +kernel
theorem dX0_findMost_17 : decode cX0_findMost 17 = .ok (.istore_n 1, 1) := by decide +kernel
theorem dX0_findMost_18 : decode cX0_findMost 18 = .ok (.iconst 1, 1) := by decide +kernel
theorem dX0_findMost_19 : decode cX0_findMost 19 = .ok (.istore_n 2, 1) := by decide +kernel
theorem dX0_findMost_20 : decode cX0_findMost 20 = .ok (.iconst 0, 1) := by decide +kernel
theorem dX0_findMost_21 : decode cX0_findMost 21 = .ok (.istore_n 3, 1) := by decide +kernel
theorem dX0_findMost_22 : decode cX0_findMost 22 = .ok (.iload_n 3, 1) := by decide +kernel
theorem dX0_findMost_23 : decode cX0_findMost 23 = .ok (.sipush 10000, 3) := by decide +kernel
theorem dX0_findMost_26 : decode cX0_findMost 26 = .ok (.if_icmp .ge 48, 3) := by decide +kernel
theorem dX0_findMost_29 : decode cX0_findMost 29 = .ok (.iload_n 2, 1) := by decide +kernel
theorem dX0_findMost_30 : decode cX0_findMost 30 = .ok (.ifCond .eq 44, 3) := by decide +kernel
theorem dX0_findMost_33 : decode cX0_findMost 33 = .ok (.aload_n 0, 1) := by decide +kernel
theorem dX0_findMost_34 : decode cX0_findMost 34 = .ok (.invokevirtual 152, 3) := by decide +kernel
theorem dX0_findMost_37 : decode cX0_findMost 37 = .ok (.istore 4, 2) := by decide +kernel
theorem dX0_findMost_39 : decode cX0_findMost 39 = .ok (.iload 4, 2) := by decide +kernel
theorem dX0_findMost_41 : decode cX0_findMost 41 = .ok (.iload_n 1, 1) := by decide +kernel
theorem dX0_findMost_42 : decode cX0_findMost 42 = .ok (.if_icmp .le 21, 3) := by decide +kernel
theorem dX0_findMost_45 : decode cX0_findMost 45 = .ok (.iload 4, 2) := by decide +kernel
theorem dX0_findMost_47 : decode cX0_findMost 47 = .ok (.istore_n 1, 1) := by decide +kernel
theorem dX0_findMost_48 : decode cX0_findMost 48 = .ok (.aload_n 0, 1) := by decide +kernel
theorem dX0_findMost_49 : decode cX0_findMost 49 = .ok (.getfield 27, 3) := by decide +kernel
theorem dX0_findMost_52 : decode cX0_findMost 52 = .ok (.iconst 0, 1) := by decide +kernel
theorem dX0_findMost_53 : decode cX0_findMost 53 = .ok (.aload_n 0, 1) := by decide +kernel
theorem dX0_findMost_54 : decode cX0_findMost 54 = .ok (.getfield 33, 3) := by decide +kernel
theorem dX0_findMost_57 : decode cX0_findMost 57 = .ok (.iconst 0, 1) := by decide +kernel
theorem dX0_findMost_58 : decode cX0_findMost 58 = .ok (.bipush 8, 2) := by decide +kernel
theorem dX0_findMost_60 : decode cX0_findMost 60 = .ok (.invokestatic 133, 3) := by decide +kernel
theorem dX0_findMost_63 : decode cX0_findMost 63 = .ok (.aload_n 0, 1) := by decide +kernel
theorem dX0_findMost_64 : decode cX0_findMost 64 = .ok (.invokevirtual 148, 3) := by decide +kernel
theorem dX0_findMost_67 : decode cX0_findMost 67 = .ok (.istore_n 2, 1) := by decide +kernel
theorem dX0_findMost_68 : decode cX0_findMost 68 = .ok (.iinc 3 1, 3) := by decide +kernel
theorem dX0_findMost_71 : decode cX0_findMost 71 = .ok (.goto (-49), 3) := by decide +kernel
theorem dX0_findMost_74 : decode cX0_findMost 74 = .ok (.iload_n 1, 1) := by decide +kernel
theorem dX0_findMost_75 : decode cX0_findMost 75 = .ok (.ireturn, 1) := by decide +kernel
theorem dX1_init_0 : decode cX1_init 0 = .ok (.aload_n 0, 1) := by decide +kernel
theorem dX1_init_1 : decode cX1_init 1 = .ok (.invokespecial 3, 3) := by decide +kernel
theorem dX1_init_4 : decode cX1_init 4 = .ok (.aload_n 0, 1) := by decide +kernel
theorem dX1_init_5 : decode cX1_init 5 = .ok (.new 9, 3) := by decide +kernel
theorem dX1_init_8 : decode cX1_init 8 = .ok (.dup, 1) := by decide +kernel
theorem dX1_init_9 : decode cX1_init 9 = .ok (.invokespecial 11, 3) := by decide +kernel
theorem dX1_init_12 : decode cX1_init 12 = .ok (.putfield 12, 3) := by decide +kernel
theorem dX1_init_15 : decode cX1_init 15 = .ok (.aload_n 0, 1) := by decide +kernel
theorem dX1_init_16 : decode cX1_init 16 = .ok (.aload_n 1, 1) := by decide +kernel
theorem dX1_init_17 : decode cX1_init 17 = .ok (.putfield 18, 3) := by decide +kernel
theorem dX1_init_20 : decode cX1_init 20 = .ok (.return_, 1) := by decide +kernel
theorem dX1_parse_0 : decode cX1_parse 0 = .ok (.aload_n 0, 1) := by decide +kernel
theorem dX1_parse_1 : decode cX1_parse 1 = .ok (.getfield 12, 3) := by decide +kernel
theorem dX1_parse_4 : decode cX1_parse 4 = .ok (.invokevirtual 22, 3) := by decide +kernel
theorem dX1_parse_7 : decode cX1_parse 7 = .ok (.aload_n 0, 1) := by decide +kernel
theorem dX1_parse_8 : decode cX1_parse 8 = .ok (.iconst 0, 1) := by decide +kernel
theorem dX1_parse_9 : decode cX1_parse 9 = .ok (.putfield 25, 3) := by decide +kernel
theorem dX1_parse_12 : decode cX1_parse 12 = .ok (.aload_n 0, 1) := by decide +kernel
theorem dX1_parse_13 : decode cX1_parse 13 = .ok (.iconst 0, 1) := by decide +kernel
theorem dX1_parse_14 : decode cX1_parse 14 = .ok (.putfield 29, 3) := by decide +kernel
theorem dX1_parse_17 : decode cX1_parse 17 = .ok (.aload_n 0, 1) := by decide +kernel
theorem dX1_parse_18 : decode cX1_parse 18 = .ok (.iconst 0, 1) := by decide +kernel
theorem dX1_parse_19 : decode cX1_parse 19 = .ok (.putfield 32, 3) := by decide +kernel
theorem dX1_parse_22 : decode cX1_parse 22 = .ok (.aload_n 0, 1) := by decide +kernel
theorem dX1_parse_23 : decode cX1_parse 23 = .ok (.iconst 0, 1) := by decide +kernel
theorem dX1_parse_24 : decode cX1_parse 24 = .ok (.putfield 35, 3) := by decide +kernel
theorem dX1_parse_27 : decode cX1_parse 27 = .ok (.aload_n 0, 1) := by decide +kernel
theorem dX1_parse_28 : decode cX1_parse 28 = .ok (.getfield 18, 3) := by decide +kernel
theorem dX1_parse_31 : decode cX1_parse 31 = .ok (.invokevirtual 38, 3) := by decide +kernel
theorem dX1_parse_34 : decode cX1_parse 34 = .ok (.aload_n 0, 1) := by decide +kernel
theorem dX1_parse_35 : decode cX1_parse 35 = .ok (.getfield 18, 3) := by decide +kernel
theorem dX1_parse_38 : decode cX1_parse 38 = .ok (.invokevirtual 43, 3) := by decide +kernel
theorem dX1_parse_41 : decode cX1_parse 41 = .ok (.iconst 0, 1) := by decide +kernel
theorem dX1_parse_42 : decode cX1_parse 42 = .ok (.istore_n 1, 1) := by decide +kernel
theorem dX1_parse_43 : decode cX1_parse 43 = .ok (.iload_n 1, 1) := by decide +kernel
theorem dX1_parse_44 : decode cX1_parse 44 = .ok (.sipush 160, 3) := by decide +kernel
theorem dX1_parse_47 : decode cX1_parse 47 = .ok (.if_icmp .ge 43, 3) := by decide +kernel
theorem dX1_parse_50 : decode cX1_parse 50 = .ok (.aload_n 0, 1) := by decide +kernel
theorem dX1_parse_51 : decode cX1_parse 51 = .ok (.getfield 18, 3) := by decide +kernel
theorem dX1_parse_54 : decode cX1_parse 54 = .ok (.getfield 46, 3) := by decide +kernel
theorem dX1_parse_57 : decode cX1_parse 57 = .ok (.ifCond .eq 33, 3) := by decide +kernel
theorem dX1_parse_60 : decode cX1_parse 60 = .ok (.aload_n 0, 1) := by decide +kernel
theorem dX1_parse_61 : decode cX1_parse 61 = .ok (.invokevirtual 49, 3) := by decide +kernel
theorem dX1_parse_64 : decode cX1_parse 64 = .ok (.ifCond .eq 26, 3) := by decide +kernel
theorem dX1_parse_67 : decode cX1_parse 67 = .ok (.aload_n 0, 1) := by decide +kernel
theorem dX1_parse_68 : decode cX1_parse 68 = .ok (.dup, 1) := by decide +kernel
theorem dX1_parse_69 : decode cX1_parse 69 = .ok (.getfield 32, 3) := by decide +kernel
theorem dX1_parse_72 : decode cX1_parse 72 = .ok (.iconst 1, 1) := by decide +kernel
theorem dX1_parse_73 : decode cX1_parse 73 = .ok (.iadd, 1) := by decide +kernel
theorem dX1_parse_74 : decode cX1_parse 74 = .ok (.putfield 32, 3) := by decide +kernel
theorem dX1_parse_77 : decode cX1_parse 77 = .ok (.aload_n 0, 1) := by decide +kernel
theorem dX1_parse_78 : decode cX1_parse 78 = .ok (.getfield 18, 3) := by decide +kernel
theorem dX1_parse_81 : decode cX1_parse 81 = .ok (.invokevirtual 43, 3) := by decide +kernel
theorem dX1_parse_84 : decode cX1_parse 84 = .ok (.iinc 1 1, 3) := by decide +kernel
theorem dX1_parse_87 : decode cX1_parse 87 = .ok (.goto (-44), 3) := by decide +kernel
theorem dX1_parse_90 : decode cX1_parse 90 = .ok (.aload_n 0, 1) := by decide +kernel
theorem dX1_parse_91 : decode cX1_parse 91 = .ok (.getfield 25, 3) := by decide +kernel
theorem dX1_parse_94 : decode cX1_parse 94 = .ok (.ifCond .ne 37, 3) := by decide +kernel
theorem dX1_parse_97 : decode cX1_parse 97 = .ok (.aload_n 0, 1) := by decide +kernel
theorem dX1_parse_98 : decode cX1_parse 98 = .ok (.invokevirtual 53, 3) := by decide +kernel
theorem dX1_parse_101 : decode cX1_parse 101 = .ok (.aload_n 0, 1) := by decide +kernel
theorem dX1_parse_102 : decode cX1_parse 102 = .ok (.getfield 12, 3) := by decide +kernel
theorem dX1_parse_105 : decode cX1_parse 105 = .ok (.invokevirtual 57, 3) := by decide +kernel
theorem dX1_parse_108 : decode cX1_parse 108 = .ok (.iconst (-1), 1) := by decide +kernel
theorem dX1_parse_109 : decode cX1_parse 109 = .ok (.ixor, 1) := by decide +kernel
theorem dX1_parse_110 : decode cX1_parse 110 = .ok (.iand, 1) := by decide +kernel
theorem dX1_parse_111 : decode cX1_parse 111 = .ok (.ifCond .eq 20, 3) := by decide +kernel
theorem dX1_parse_114 : decode cX1_parse 114 = .ok (.aload_n 0, 1) := by decide +kernel
theorem dX1_parse_115 : decode cX1_parse 115 = .ok (.bipush 6, 2) := by decide +kernel
theorem dX1_parse_117 : decode cX1_parse 117 = .ok (.putfield 25, 3) := by decide +kernel
theorem dX1_parse_120 : decode cX1_parse 120 = .ok (.aload_n 0, 1) := by decide +kernel
theorem dX1_parse_121 : decode cX1_parse 121 = .ok (.aload_n 0, 1) := by decide +kernel
theorem dX1_parse_122 : decode cX1_parse 122 = .ok (.getfield 18, 3) := by decide +kernel
theorem dX1_parse_125 : decode cX1_parse 125 = .ok (.getfield 60, 3) := by decide +kernel
theorem dX1_parse_128 : decode cX1_parse 128 = .ok (.putfield 29, 3) := by decide +kernel
theorem dX1_parse_131 : decode cX1_parse 131 = .ok (.return_, 1) := by decide +kernel
theorem dX1_line_0 : decode cX1_line 0 = .ok (.aload_n 0, 1) := by decide +kernel
theorem dX1_line_1 : decode cX1_line 1 = .ok (.iconst 1, 1) := by decide +kernel
theorem dX1_line_2 : decode cX1_line 2 = .ok (.invokevirtual 63, 3) := by decide +kernel
theorem dX1_line_5 : decode cX1_line 5 = .ok (.ifCond .ne 5, 3) := by decide +kernel
theorem dX1_line_8 : decode cX1_line 8 = .ok (.iconst 0, 1) := by decide +kernel
theorem dX1_line_9 : decode cX1_line 9 = .ok (.ireturn, 1) := by decide +kernel
theorem dX1_line_10 : decode cX1_line 10 = .ok (.aload_n 0, 1) := by decide +kernel
theorem dX1_line_11 : decode cX1_line 11 = .ok (.invokevirtual 67, 3) := by decide +kernel
theorem dX1_line_14 : decode cX1_line 14 = .ok (.istore_n 1, 1) := by decide +kernel
theorem dX1_line_15 : decode cX1_line 15 = .ok (.iload_n 1, 1) := by decide +kernel
theorem dX1_line_16 : decode cX1_line 16 = .ok (.iconst (-1), 1) := by decide +kernel
theorem dX1_line_17 : decode cX1_line 17 = .ok (.if_icmp .eq 9, 3) := by decide +kernel
theorem dX1_line_20 : decode cX1_line 20 = .ok (.aload_n 0, 1) := by decide +kernel
theorem dX1_line_21 : decode cX1_line 21 = .ok (.iload_n 1, 1) := by decide +kernel
theorem dX1_line_22 : decode cX1_line 22 = .ok (.invokevirtual 70, 3) := by decide +kernel
theorem dX1_line_25 : decode cX1_line 25 = .ok (.ireturn, 1) := by decide +kernel
theorem dX1_line_26 : decode cX1_line 26 = .ok (.aload_n 0, 1) := by decide +kernel
theorem dX1_line_27 : decode cX1_line 27 = .ok (.getfield 18, 3) := by decide +kernel
theorem dX1_line_30 : decode cX1_line 30 = .ok (.ldc 73, 2) := by decide +kernel
theorem dX1_line_32 : decode cX1_line 32 = .ok (.invokevirtual 75, 3) := by decide +kernel
theorem dX1_line_35 : decode cX1_line 35 = .ok (.ifCond .eq 8, 3) := by decide +kernel
theorem dX1_line_38 : decode cX1_line 38 = .ok (.aload_n 0, 1) := by decide +kernel
theorem dX1_line_39 : decode cX1_line 39 = .ok (.invokevirtual 79, 3) := by decide +kernel
theorem dX1_line_42 : decode cX1_line 42 = .ok (.ireturn, 1) := by decide +kernel
theorem dX1_line_43 : decode cX1_line 43 = .ok (.aload_n 0, 1) := by decide +kernel
theorem dX1_line_44 : decode cX1_line 44 = .ok (.getfield 18, 3) := by decide +kernel
theorem dX1_line_47 : decode cX1_line 47 = .ok (.ldc 82, 2) := by decide +kernel
theorem dX1_line_49 : decode cX1_line 49 = .ok (.invokevirtual 75, 3) := by decide +kernel
theorem dX1_line_52 : decode cX1_line 52 = .ok (.ifCond .eq 8, 3) := by decide +kernel
theorem dX1_line_55 : decode cX1_line 55 = .ok (.aload_n 0, 1) := by decide +kernel
theorem dX1_line_56 : decode cX1_line 56 = .ok (.invokevirtual 84, 3) := by decide +kernel
theorem dX1_line_59 : decode cX1_line 59 = .ok (.ireturn, 1) := by decide +kernel
theorem dX1_line_60 : decode cX1_line 60 = .ok (.aload_n 0, 1) := by decide +kernel
theorem dX1_line_61 : decode cX1_line 61 = .ok (.getfield 18, 3) := by decide +kernel
theorem dX1_line_64 : decode cX1_line 64 = .ok (.ldc 87, 2) := by decide +kernel
theorem dX1_line_66 : decode cX1_line 66 = .ok (.invokevirtual 75, 3) := by decide +kernel
theorem dX1_line_69 : decode cX1_line 69 = .ok (.ifCond .eq 8, 3) := by decide +kernel
theorem dX1_line_72 : decode cX1_line 72 = .ok (.aload_n 0, 1) := by decide +kernel
theorem dX1_line_73 : decode cX1_line 73 = .ok (.invokevirtual 89, 3) := by decide +kernel
theorem dX1_line_76 : decode cX1_line 76 = .ok (.ireturn, 1) := by decide +kernel
theorem dX1_line_77 : decode cX1_line 77 = .ok (.aload_n 0, 1) := by decide +kernel
theorem dX1_line_78 : decode cX1_line 78 = .ok (.getfield 18, 3) := by decide +kernel
theorem dX1_line_81 : decode cX1_line 81 = .ok (.ldc 92, 2) := by decide +kernel
theorem dX1_line_83 : decode cX1_line 83 = .ok (.invokevirtual 75, 3) := by decide +kernel
theorem dX1_line_86 : decode cX1_line 86 = .ok (.ifCond .eq 10, 3) := by decide +kernel
theorem dX1_line_89 : decode cX1_line 89 = .ok (.aload_n 0, 1) := by decide +kernel
theorem dX1_line_90 : decode cX1_line 90 = .ok (.invokevirtual 94, 3) := by decide +kernel
theorem dX1_line_93 : decode cX1_line 93 = .ok (.goto 8, 3) := by decide +kernel
theorem dX1_line_96 : decode cX1_line 96 = .ok (.aload_n 0, 1) := by decide +kernel
theorem dX1_line_97 : decode cX1_line 97 = .ok (.iconst 2, 1) := by decide +kernel
theorem dX1_line_98 : decode cX1_line 98 = .ok (.invokevirtual 97, 3) := by decide +kernel
theorem dX1_line_101 : decode cX1_line 101 = .ok (.ireturn, 1) := by decide +kernel
theorem dX1_kindNamed_0 : decode cX1_kindNamed 0 = .ok (.aload_n 0, 1) := by decide +kernel
theorem dX1_kindNamed_1 : decode cX1_kindNamed 1 = .ok (.getfield 18, 3) := by decide +kernel
theorem dX1_kindNamed_4 : decode cX1_kindNamed 4 = .ok (.ldc 100, 2) := by decide +kernel
theorem dX1_kindNamed_6 : decode cX1_kindNamed 6 = .ok (.invokevirtual 75, 3) := by decide +kernel
theorem dX1_kindNamed_9 : decode cX1_kindNamed 9 = .ok (.ifCond .eq 5, 3) := by decide +kernel
theorem dX1_kindNamed_12 : decode cX1_kindNamed 12 = .ok (.iconst 0, 1) := by decide +kernel
theorem dX1_kindNamed_13 : decode cX1_kindNamed 13 = .ok (.ireturn, 1) := by decide +kernel
theorem dX1_kindNamed_14 : decode cX1_kindNamed 14 = .ok (.aload_n 0, 1) := by decide +kernel
theorem dX1_kindNamed_15 : decode cX1_kindNamed 15 = .ok (.getfield 18, 3) := by decide +kernel
theorem dX1_kindNamed_18 : decode cX1_kindNamed 18 = .ok (.ldc 102, 2) := by decide +kernel
theorem dX1_kindNamed_20 : decode cX1_kindNamed 20 = .ok (.invokevirtual 75, 3) := by decide +kernel
theorem dX1_kindNamed_23 : decode cX1_kindNamed 23 = .ok (.ifCond .eq 5, 3) := by decide +kernel
theorem dX1_kindNamed_26 : decode cX1_kindNamed 26 = .ok (.iconst 1, 1) := by decide +kernel
theorem dX1_kindNamed_27 : decode cX1_kindNamed 27 = .ok (.ireturn, 1) := by decide +kernel
theorem dX1_kindNamed_28 : decode cX1_kindNamed 28 = .ok (.aload_n 0, 1) := by decide +kernel
theorem dX1_kindNamed_29 : decode cX1_kindNamed 29 = .ok (.getfield 18, 3) := by decide +kernel
theorem dX1_kindNamed_32 : decode cX1_kindNamed 32 = .ok (.ldc 104, 2) := by decide +kernel
theorem dX1_kindNamed_34 : decode cX1_kindNamed 34 = .ok (.invokevirtual 75, 3) := by decide +kernel
theorem dX1_kindNamed_37 : decode cX1_kindNamed 37 = .ok (.ifCond .eq 5, 3) := by decide +kernel
theorem dX1_kindNamed_40 : decode cX1_kindNamed 40 = .ok (.iconst 2, 1) := by decide +kernel
theorem dX1_kindNamed_41 : decode cX1_kindNamed 41 = .ok (.ireturn, 1) := by decide +kernel
theorem dX1_kindNamed_42 : decode cX1_kindNamed 42 = .ok (.aload_n 0, 1) := by decide +kernel
theorem dX1_kindNamed_43 : decode cX1_kindNamed 43 = .ok (.getfield 18, 3) := by decide +kernel
theorem dX1_kindNamed_46 : decode cX1_kindNamed 46 = .ok (.ldc 106, 2) := by decide +kernel
theorem dX1_kindNamed_48 : decode cX1_kindNamed 48 = .ok (.invokevirtual 75, 3) := by decide +kernel
theorem dX1_kindNamed_51 : decode cX1_kindNamed 51 = .ok (.ifCond .eq 7, 3) := by decide +kernel
theorem dX1_kindNamed_54 : decode cX1_kindNamed 54 = .ok (.iconst 3, 1) := by decide +kernel
theorem dX1_kindNamed_55 : decode cX1_kindNamed 55 = .ok (.goto 4, 3) := by decide +kernel
theorem dX1_kindNamed_58 : decode cX1_kindNamed 58 = .ok (.iconst (-1), 1) := by decide +kernel
theorem dX1_kindNamed_59 : decode cX1_kindNamed 59 = .ok (.ireturn, 1) := by decide +kernel
theorem dX1_handLine_0 : decode cX1_handLine 0 = .ok (.aload_n 0, 1) := by decide +kernel
theorem dX1_handLine_1 : decode cX1_handLine 1 = .ok (.iconst 1, 1) := by decide +kernel
theorem dX1_handLine_2 : decode cX1_handLine 2 = .ok (.invokevirtual 108, 3) := by decide +kernel
theorem dX1_handLine_5 : decode cX1_handLine 5 = .ok (.ifCond .ne 5, 3) := by decide +kernel
theorem dX1_handLine_8 : decode cX1_handLine 8 = .ok (.iconst 0, 1) := by decide +kernel
theorem dX1_handLine_9 : decode cX1_handLine 9 = .ok (.ireturn, 1) := by decide +kernel
theorem dX1_handLine_10 : decode cX1_handLine 10 = .ok (.aload_n 0, 1) := by decide +kernel
theorem dX1_handLine_11 : decode cX1_handLine 11 = .ok (.getfield 18, 3) := by decide +kernel
theorem dX1_handLine_14 : decode cX1_handLine 14 = .ok (.ldc 111, 2) := by decide +kernel
theorem dX1_handLine_16 : decode cX1_handLine 16 = .ok (.invokevirtual 75, 3) := by decide +kernel
theorem dX1_handLine_19 : decode cX1_handLine 19 = .ok (.istore_n 2, 1) := by decide +kernel
theorem dX1_handLine_20 : decode cX1_handLine 20 = .ok (.iload_n 2, 1) := by decide +kernel
theorem dX1_handLine_21 : decode cX1_handLine 21 = .ok (.ifCond .ne 21, 3) := by decide +kernel
theorem dX1_handLine_24 : decode cX1_handLine 24 = .ok (.aload_n 0, 1) := by decide +kernel
theorem dX1_handLine_25 : decode cX1_handLine 25 = .ok (.getfield 18, 3) := by decide +kernel
theorem dX1_handLine_28 : decode cX1_handLine 28 = .ok (.ldc 113, 2) := by decide +kernel
theorem dX1_handLine_30 : decode cX1_handLine 30 = .ok (.invokevirtual 75, 3) := by decide +kernel
theorem dX1_handLine_33 : decode cX1_handLine 33 = .ok (.ifCond .ne 9, 3) := by decide +kernel
theorem dX1_handLine_36 : decode cX1_handLine 36 = .ok (.aload_n 0, 1) := by decide +kernel
theorem dX1_handLine_37 : decode cX1_handLine 37 = .ok (.iconst 2, 1) := by decide +kernel
theorem dX1_handLine_38 : decode cX1_handLine 38 = .ok (.invokevirtual 97, 3) := by decide +kernel
theorem dX1_handLine_41 : decode cX1_handLine 41 = .ok (.ireturn, 1) := by decide +kernel
theorem dX1_handLine_42 : decode cX1_handLine 42 = .ok (.iload_n 2, 1) := by decide +kernel
theorem dX1_handLine_43 : decode cX1_handLine 43 = .ok (.ifCond .eq 7, 3) := by decide +kernel
theorem dX1_handLine_46 : decode cX1_handLine 46 = .ok (.iconst 0, 1) := by decide +kernel
theorem dX1_handLine_47 : decode cX1_handLine 47 = .ok (.goto 4, 3) := by decide +kernel
theorem dX1_handLine_50 : decode cX1_handLine 50 = .ok (.iconst 1, 1) := by decide +kernel
theorem dX1_handLine_51 : decode cX1_handLine 51 = .ok (.istore_n 3, 1) := by decide +kernel
theorem dX1_handLine_52 : decode cX1_handLine 52 = .ok (.aload_n 0, 1) := by decide +kernel
theorem dX1_handLine_53 : decode cX1_handLine 53 = .ok (.getfield 12, 3) := by decide +kernel
theorem dX1_handLine_56 : decode cX1_handLine 56 = .ok (.iload_n 3, 1) := by decide +kernel
theorem dX1_handLine_57 : decode cX1_handLine 57 = .ok (.invokevirtual 115, 3) := by decide +kernel
theorem dX1_handLine_60 : decode cX1_handLine 60 = .ok (.ifCond .eq 9, 3) := by decide +kernel
theorem dX1_handLine_63 : decode cX1_handLine 63 = .ok (.aload_n 0, 1) := by decide +kernel
theorem dX1_handLine_64 : decode cX1_handLine 64 = .ok (.iconst 5, 1) := by decide +kernel
theorem dX1_handLine_65 : decode cX1_handLine 65 = .ok (.invokevirtual 97, 3) := by decide +kernel
theorem dX1_handLine_68 : decode cX1_handLine 68 = .ok (.ireturn, 1) := by decide +kernel
theorem dX1_handLine_69 : decode cX1_handLine 69 = .ok (.aload_n 0, 1) := by decide +kernel
theorem dX1_handLine_70 : decode cX1_handLine 70 = .ok (.iconst 0, 1) := by decide +kernel
theorem dX1_handLine_71 : decode cX1_handLine 71 = .ok (.bipush 9, 2) := by decide +kernel
theorem dX1_handLine_73 : decode cX1_handLine 73 = .ok (.invokevirtual 118, 3) := by decide +kernel
theorem dX1_handLine_76 : decode cX1_handLine 76 = .ok (.istore 4, 2) := by decide +kernel
theorem dX1_handLine_78 : decode cX1_handLine 78 = .ok (.iload 4, 2) := by decide +kernel
theorem dX1_handLine_80 : decode cX1_handLine 80 = .ok (.iconst (-1), 1) := by decide +kernel
theorem dX1_handLine_81 : decode cX1_handLine 81 = .ok (.if_icmp .ne 7, 3) := by decide +kernel
theorem dX1_handLine_84 : decode cX1_handLine 84 = .ok (.iconst (-1), 1) := by decide +kernel
theorem dX1_handLine_85 : decode cX1_handLine 85 = .ok (.goto 10, 3) := by decide +kernel
theorem dX1_handLine_88 : decode cX1_handLine 88 = .ok (.aload_n 0, 1) := by decide +kernel
theorem dX1_handLine_89 : decode cX1_handLine 89 = .ok (.iconst 0, 1) := by decide +kernel
theorem dX1_handLine_90 : decode cX1_handLine 90 = .ok (.bipush 9, 2) := by decide +kernel
theorem dX1_handLine_92 : decode cX1_handLine 92 = .ok (.invokevirtual 118, 3) := by decide +kernel
theorem dX1_handLine_95 : decode cX1_handLine 95 = .ok (.istore 5, 2) := by decide +kernel
theorem dX1_handLine_97 : decode cX1_handLine 97 = .ok (.iload 5, 2) := by decide +kernel
theorem dX1_handLine_99 : decode cX1_handLine 99 = .ok (.iconst (-1), 1) := by decide +kernel
theorem dX1_handLine_100 : decode cX1_handLine 100 = .ok (.if_icmp .ne 7, 3) := by decide +kernel
theorem dX1_handLine_103 : decode cX1_handLine 103 = .ok (.iconst (-1), 1) := by decide +kernel
theorem dX1_handLine_104 : decode cX1_handLine 104 = .ok (.goto 9, 3) := by decide +kernel
theorem dX1_handLine_107 : decode cX1_handLine 107 = .ok (.aload_n 0, 1) := by decide +kernel
theorem dX1_handLine_108 : decode cX1_handLine 108 = .ok (.iconst 0, 1) := by decide +kernel
theorem dX1_handLine_109 : decode cX1_handLine 109 = .ok (.iconst 2, 1) := by decide +kernel
theorem dX1_handLine_110 : decode cX1_handLine 110 = .ok (.invokevirtual 118, 3) := by decide +kernel
theorem dX1_handLine_113 : decode cX1_handLine 113 = .ok (.istore 6, 2) := by decide +kernel
theorem dX1_handLine_115 : decode cX1_handLine 115 = .ok (.iload 6, 2) := by decide +kernel
theorem dX1_handLine_117 : decode cX1_handLine 117 = .ok (.iconst (-1), 1) := by decide +kernel
theorem dX1_handLine_118 : decode cX1_handLine 118 = .ok (.if_icmp .ne 5, 3) := by decide +kernel
theorem dX1_handLine_121 : decode cX1_handLine 121 = .ok (.iconst 0, 1) := by decide +kernel
theorem dX1_handLine_122 : decode cX1_handLine 122 = .ok (.ireturn, 1) := by decide +kernel
theorem dX1_handLine_123 : decode cX1_handLine 123 = .ok (.aload_n 0, 1) := by decide +kernel
theorem dX1_handLine_124 : decode cX1_handLine 124 = .ok (.getfield 12, 3) := by decide +kernel
theorem dX1_handLine_127 : decode cX1_handLine 127 = .ok (.iload_n 3, 1) := by decide +kernel
theorem dX1_handLine_128 : decode cX1_handLine 128 = .ok (.iload_n 1, 1) := by decide +kernel
theorem dX1_handLine_129 : decode cX1_handLine 129 = .ok (.iload 4, 2) := by decide +kernel
theorem dX1_handLine_131 : decode cX1_handLine 131 = .ok (.iload 5, 2) := by decide +kernel
theorem dX1_handLine_133 : decode cX1_handLine 133 = .ok (.iload 6, 2) := by decide +kernel
theorem dX1_handLine_135 : decode cX1_handLine 135 = .ok (.invokevirtual 122, 3) := by decide +kernel
theorem dX1_handLine_138 : decode cX1_handLine 138 = .ok (.aload_n 0, 1) := by decide +kernel
theorem dX1_handLine_139 : decode cX1_handLine 139 = .ok (.iconst 3, 1) := by decide +kernel
theorem dX1_handLine_140 : decode cX1_handLine 140 = .ok (.invokevirtual 108, 3) := by decide +kernel
theorem dX1_handLine_143 : decode cX1_handLine 143 = .ok (.ireturn, 1) := by decide +kernel
theorem dX1_penLine_0 : decode cX1_penLine 0 = .ok (.aload_n 0, 1) := by decide +kernel
theorem dX1_penLine_1 : decode cX1_penLine 1 = .ok (.iconst 0, 1) := by decide +kernel
theorem dX1_penLine_2 : decode cX1_penLine 2 = .ok (.bipush 7, 2) := by decide +kernel
theorem dX1_penLine_4 : decode cX1_penLine 4 = .ok (.invokevirtual 118, 3) := by decide +kernel
theorem dX1_penLine_7 : decode cX1_penLine 7 = .ok (.istore_n 1, 1) := by decide +kernel
theorem dX1_penLine_8 : decode cX1_penLine 8 = .ok (.iload_n 1, 1) := by decide +kernel
theorem dX1_penLine_9 : decode cX1_penLine 9 = .ok (.iconst (-1), 1) := by decide +kernel
theorem dX1_penLine_10 : decode cX1_penLine 10 = .ok (.if_icmp .ne 5, 3) := by decide +kernel
theorem dX1_penLine_13 : decode cX1_penLine 13 = .ok (.iconst 0, 1) := by decide +kernel
theorem dX1_penLine_14 : decode cX1_penLine 14 = .ok (.ireturn, 1) := by decide +kernel
theorem dX1_penLine_15 : decode cX1_penLine 15 = .ok (.aload_n 0, 1) := by decide +kernel
theorem dX1_penLine_16 : decode cX1_penLine 16 = .ok (.getfield 35, 3) := by decide +kernel
theorem dX1_penLine_19 : decode cX1_penLine 19 = .ok (.iload_n 1, 1) := by decide +kernel
theorem dX1_penLine_20 : decode cX1_penLine 20 = .ok (.ishr, 1) := by decide +kernel
theorem dX1_penLine_21 : decode cX1_penLine 21 = .ok (.iconst 1, 1) := by decide +kernel
theorem dX1_penLine_22 : decode cX1_penLine 22 = .ok (.iand, 1) := by decide +kernel
theorem dX1_penLine_23 : decode cX1_penLine 23 = .ok (.iconst 1, 1) := by decide +kernel
theorem dX1_penLine_24 : decode cX1_penLine 24 = .ok (.if_icmp .ne 9, 3) := by decide +kernel
theorem dX1_penLine_27 : decode cX1_penLine 27 = .ok (.aload_n 0, 1) := by decide +kernel
theorem dX1_penLine_28 : decode cX1_penLine 28 = .ok (.iconst 4, 1) := by decide +kernel
theorem dX1_penLine_29 : decode cX1_penLine 29 = .ok (.invokevirtual 97, 3) := by decide +kernel
theorem dX1_penLine_32 : decode cX1_penLine 32 = .ok (.ireturn, 1) := by decide +kernel
theorem dX1_penLine_33 : decode cX1_penLine 33 = .ok (.aload_n 0, 1) := by decide +kernel
theorem dX1_penLine_34 : decode cX1_penLine 34 = .ok (.iconst 0, 1) := by decide +kernel
theorem dX1_penLine_35 : decode cX1_penLine 35 = .ok (.bipush 7, 2) := by decide +kernel
theorem dX1_penLine_37 : decode cX1_penLine 37 = .ok (.invokevirtual 118, 3) := by decide +kernel
theorem dX1_penLine_40 : decode cX1_penLine 40 = .ok (.istore_n 2, 1) := by decide +kernel
theorem dX1_penLine_41 : decode cX1_penLine 41 = .ok (.iload_n 2, 1) := by decide +kernel
theorem dX1_penLine_42 : decode cX1_penLine 42 = .ok (.iconst (-1), 1) := by decide +kernel
theorem dX1_penLine_43 : decode cX1_penLine 43 = .ok (.if_icmp .ne 5, 3) := by decide +kernel
theorem dX1_penLine_46 : decode cX1_penLine 46 = .ok (.iconst 0, 1) := by decide +kernel
theorem dX1_penLine_47 : decode cX1_penLine 47 = .ok (.ireturn, 1) := by decide +kernel
theorem dX1_penLine_48 : decode cX1_penLine 48 = .ok (.aload_n 0, 1) := by decide +kernel
theorem dX1_penLine_49 : decode cX1_penLine 49 = .ok (.dup, 1) := by decide +kernel
theorem dX1_penLine_50 : decode cX1_penLine 50 = .ok (.getfield 35, 3) := by decide +kernel
theorem dX1_penLine_53 : decode cX1_penLine 53 = .ok (.iconst 1, 1) := by decide +kernel
theorem dX1_penLine_54 : decode cX1_penLine 54 = .ok (.iload_n 1, 1) := by decide +kernel
theorem dX1_penLine_55 : decode cX1_penLine 55 = .ok (.ishl, 1) := by decide +kernel
theorem dX1_penLine_56 : decode cX1_penLine 56 = .ok (.ior, 1) := by decide +kernel
theorem dX1_penLine_57 : decode cX1_penLine 57 = .ok (.putfield 35, 3) := by decide +kernel
theorem dX1_penLine_60 : decode cX1_penLine 60 = .ok (.aload_n 0, 1) := by decide +kernel
theorem dX1_penLine_61 : decode cX1_penLine 61 = .ok (.getfield 12, 3) := by decide +kernel
theorem dX1_penLine_64 : decode cX1_penLine 64 = .ok (.getfield 126, 3) := by decide +kernel
theorem dX1_penLine_67 : decode cX1_penLine 67 = .ok (.iload_n 1, 1) := by decide +kernel
theorem dX1_penLine_68 : decode cX1_penLine 68 = .ok (.iload_n 2, 1) := by decide +kernel
theorem dX1_penLine_69 : decode cX1_penLine 69 = .ok (.iastore, 1) := by decide +kernel
theorem dX1_penLine_70 : decode cX1_penLine 70 = .ok (.aload_n 0, 1) := by decide +kernel
theorem dX1_penLine_71 : decode cX1_penLine 71 = .ok (.iconst 3, 1) := by decide +kernel
theorem dX1_penLine_72 : decode cX1_penLine 72 = .ok (.invokevirtual 108, 3) := by decide +kernel
theorem dX1_penLine_75 : decode cX1_penLine 75 = .ok (.ireturn, 1) := by decide +kernel
theorem dX1_runLine_0 : decode cX1_runLine 0 = .ok (.aload_n 0, 1) := by decide +kernel
theorem dX1_runLine_1 : decode cX1_runLine 1 = .ok (.iconst 0, 1) := by decide +kernel
theorem dX1_runLine_2 : decode cX1_runLine 2 = .ok (.bipush 7, 2) := by decide +kernel
theorem dX1_runLine_4 : decode cX1_runLine 4 = .ok (.invokevirtual 118, 3) := by decide +kernel
theorem dX1_runLine_7 : decode cX1_runLine 7 = .ok (.istore_n 1, 1) := by decide +kernel
theorem dX1_runLine_8 : decode cX1_runLine 8 = .ok (.iload_n 1, 1) := by decide +kernel
theorem dX1_runLine_9 : decode cX1_runLine 9 = .ok (.iconst (-1), 1) := by decide +kernel
theorem dX1_runLine_10 : decode cX1_runLine 10 = .ok (.if_icmp .ne 5, 3) := by decide +kernel
theorem dX1_runLine_13 : decode cX1_runLine 13 = .ok (.iconst 0, 1) := by decide +kernel
theorem dX1_runLine_14 : decode cX1_runLine 14 = .ok (.ireturn, 1) := by decide +kernel
theorem dX1_runLine_15 : decode cX1_runLine 15 = .ok (.aload_n 0, 1) := by decide +kernel
theorem dX1_runLine_16 : decode cX1_runLine 16 = .ok (.getfield 12, 3) := by decide +kernel
theorem dX1_runLine_19 : decode cX1_runLine 19 = .ok (.iload_n 1, 1) := by decide +kernel
theorem dX1_runLine_20 : decode cX1_runLine 20 = .ok (.invokevirtual 129, 3) := by decide +kernel
theorem dX1_runLine_23 : decode cX1_runLine 23 = .ok (.ifCond .eq 9, 3) := by decide +kernel
theorem dX1_runLine_26 : decode cX1_runLine 26 = .ok (.aload_n 0, 1) := by decide +kernel
theorem dX1_runLine_27 : decode cX1_runLine 27 = .ok (.iconst 4, 1) := by decide +kernel
theorem dX1_runLine_28 : decode cX1_runLine 28 = .ok (.invokevirtual 97, 3) := by decide +kernel
theorem dX1_runLine_31 : decode cX1_runLine 31 = .ok (.ireturn, 1) := by decide +kernel
theorem dX1_runLine_32 : decode cX1_runLine 32 = .ok (.aload_n 0, 1) := by decide +kernel
theorem dX1_runLine_33 : decode cX1_runLine 33 = .ok (.getfield 12, 3) := by decide +kernel
theorem dX1_runLine_36 : decode cX1_runLine 36 = .ok (.iload_n 1, 1) := by decide +kernel
theorem dX1_runLine_37 : decode cX1_runLine 37 = .ok (.iconst 1, 1) := by decide +kernel
theorem dX1_runLine_38 : decode cX1_runLine 38 = .ok (.invokevirtual 132, 3) := by decide +kernel
theorem dX1_runLine_41 : decode cX1_runLine 41 = .ok (.aload_n 0, 1) := by decide +kernel
theorem dX1_runLine_42 : decode cX1_runLine 42 = .ok (.iconst 3, 1) := by decide +kernel
theorem dX1_runLine_43 : decode cX1_runLine 43 = .ok (.invokevirtual 108, 3) := by decide +kernel
theorem dX1_runLine_46 : decode cX1_runLine 46 = .ok (.ireturn, 1) := by decide +kernel
theorem dX1_foldLine_0 : decode cX1_foldLine 0 = .ok (.aload_n 0, 1) := by decide +kernel
theorem dX1_foldLine_1 : decode cX1_foldLine 1 = .ok (.iconst 0, 1) := by decide +kernel
theorem dX1_foldLine_2 : decode cX1_foldLine 2 = .ok (.iconst 3, 1) := by decide +kernel
theorem dX1_foldLine_3 : decode cX1_foldLine 3 = .ok (.invokevirtual 118, 3) := by decide +kernel
theorem dX1_foldLine_6 : decode cX1_foldLine 6 = .ok (.istore_n 1, 1) := by decide +kernel
theorem dX1_foldLine_7 : decode cX1_foldLine 7 = .ok (.iload_n 1, 1) := by decide +kernel
theorem dX1_foldLine_8 : decode cX1_foldLine 8 = .ok (.iconst (-1), 1) := by decide +kernel
theorem dX1_foldLine_9 : decode cX1_foldLine 9 = .ok (.if_icmp .ne 7, 3) := by decide +kernel
theorem dX1_foldLine_12 : decode cX1_foldLine 12 = .ok (.iconst (-1), 1) := by decide +kernel
theorem dX1_foldLine_13 : decode cX1_foldLine 13 = .ok (.goto 10, 3) := by decide +kernel
theorem dX1_foldLine_16 : decode cX1_foldLine 16 = .ok (.aload_n 0, 1) := by decide +kernel
theorem dX1_foldLine_17 : decode cX1_foldLine 17 = .ok (.iconst 4, 1) := by decide +kernel
theorem dX1_foldLine_18 : decode cX1_foldLine 18 = .ok (.bipush 7, 2) := by decide +kernel
theorem dX1_foldLine_20 : decode cX1_foldLine 20 = .ok (.invokevirtual 118, 3) := by decide +kernel
theorem dX1_foldLine_23 : decode cX1_foldLine 23 = .ok (.istore_n 2, 1) := by decide +kernel
theorem dX1_foldLine_24 : decode cX1_foldLine 24 = .ok (.iload_n 2, 1) := by decide +kernel
theorem dX1_foldLine_25 : decode cX1_foldLine 25 = .ok (.iconst (-1), 1) := by decide +kernel
theorem dX1_foldLine_26 : decode cX1_foldLine 26 = .ok (.if_icmp .ne 5, 3) := by decide +kernel
theorem dX1_foldLine_29 : decode cX1_foldLine 29 = .ok (.iconst 0, 1) := by decide +kernel
theorem dX1_foldLine_30 : decode cX1_foldLine 30 = .ok (.ireturn, 1) := by decide +kernel
theorem dX1_foldLine_31 : decode cX1_foldLine 31 = .ok (.aload_n 0, 1) := by decide +kernel
theorem dX1_foldLine_32 : decode cX1_foldLine 32 = .ok (.getfield 12, 3) := by decide +kernel
theorem dX1_foldLine_35 : decode cX1_foldLine 35 = .ok (.iload_n 1, 1) := by decide +kernel
theorem dX1_foldLine_36 : decode cX1_foldLine 36 = .ok (.iload_n 2, 1) := by decide +kernel
theorem dX1_foldLine_37 : decode cX1_foldLine 37 = .ok (.invokevirtual 136, 3) := by decide +kernel
theorem dX1_foldLine_40 : decode cX1_foldLine 40 = .ok (.ifCond .eq 9, 3) := by decide +kernel
theorem dX1_foldLine_43 : decode cX1_foldLine 43 = .ok (.aload_n 0, 1) := by decide +kernel
theorem dX1_foldLine_44 : decode cX1_foldLine 44 = .ok (.iconst 4, 1) := by decide +kernel
theorem dX1_foldLine_45 : decode cX1_foldLine 45 = .ok (.invokevirtual 97, 3) := by decide +kernel
theorem dX1_foldLine_48 : decode cX1_foldLine 48 = .ok (.ireturn, 1) := by decide +kernel
theorem dX1_foldLine_49 : decode cX1_foldLine 49 = .ok (.aload_n 0, 1) := by decide +kernel
theorem dX1_foldLine_50 : decode cX1_foldLine 50 = .ok (.getfield 12, 3) := by decide +kernel
theorem dX1_foldLine_53 : decode cX1_foldLine 53 = .ok (.iload_n 1, 1) := by decide +kernel
theorem dX1_foldLine_54 : decode cX1_foldLine 54 = .ok (.iload_n 2, 1) := by decide +kernel
theorem dX1_foldLine_55 : decode cX1_foldLine 55 = .ok (.iconst 1, 1) := by decide +kernel
theorem dX1_foldLine_56 : decode cX1_foldLine 56 = .ok (.invokevirtual 140, 3) := by decide +kernel
theorem dX1_foldLine_59 : decode cX1_foldLine 59 = .ok (.aload_n 0, 1) := by decide +kernel
theorem dX1_foldLine_60 : decode cX1_foldLine 60 = .ok (.iconst 3, 1) := by decide +kernel
theorem dX1_foldLine_61 : decode cX1_foldLine 61 = .ok (.invokevirtual 108, 3) := by decide +kernel
theorem dX1_foldLine_64 : decode cX1_foldLine 64 = .ok (.ireturn, 1) := by decide +kernel
theorem dX1_wedLine_0 : decode cX1_wedLine 0 = .ok (.aload_n 0, 1) := by decide +kernel
theorem dX1_wedLine_1 : decode cX1_wedLine 1 = .ok (.iconst 0, 1) := by decide +kernel
theorem dX1_wedLine_2 : decode cX1_wedLine 2 = .ok (.iconst 3, 1) := by decide +kernel
theorem dX1_wedLine_3 : decode cX1_wedLine 3 = .ok (.invokevirtual 118, 3) := by decide +kernel
theorem dX1_wedLine_6 : decode cX1_wedLine 6 = .ok (.istore_n 1, 1) := by decide +kernel
theorem dX1_wedLine_7 : decode cX1_wedLine 7 = .ok (.iload_n 1, 1) := by decide +kernel
theorem dX1_wedLine_8 : decode cX1_wedLine 8 = .ok (.iconst (-1), 1) := by decide +kernel
theorem dX1_wedLine_9 : decode cX1_wedLine 9 = .ok (.if_icmp .ne 5, 3) := by decide +kernel
theorem dX1_wedLine_12 : decode cX1_wedLine 12 = .ok (.iconst 0, 1) := by decide +kernel
theorem dX1_wedLine_13 : decode cX1_wedLine 13 = .ok (.ireturn, 1) := by decide +kernel
theorem dX1_wedLine_14 : decode cX1_wedLine 14 = .ok (.aload_n 0, 1) := by decide +kernel
theorem dX1_wedLine_15 : decode cX1_wedLine 15 = .ok (.getfield 12, 3) := by decide +kernel
theorem dX1_wedLine_18 : decode cX1_wedLine 18 = .ok (.iload_n 1, 1) := by decide +kernel
theorem dX1_wedLine_19 : decode cX1_wedLine 19 = .ok (.invokevirtual 144, 3) := by decide +kernel
theorem dX1_wedLine_22 : decode cX1_wedLine 22 = .ok (.ifCond .eq 9, 3) := by decide +kernel
theorem dX1_wedLine_25 : decode cX1_wedLine 25 = .ok (.aload_n 0, 1) := by decide +kernel
theorem dX1_wedLine_26 : decode cX1_wedLine 26 = .ok (.iconst 4, 1) := by decide +kernel
theorem dX1_wedLine_27 : decode cX1_wedLine 27 = .ok (.invokevirtual 97, 3) := by decide +kernel
theorem dX1_wedLine_30 : decode cX1_wedLine 30 = .ok (.ireturn, 1) := by decide +kernel
theorem dX1_wedLine_31 : decode cX1_wedLine 31 = .ok (.aload_n 0, 1) := by decide +kernel
theorem dX1_wedLine_32 : decode cX1_wedLine 32 = .ok (.iconst 4, 1) := by decide +kernel
theorem dX1_wedLine_33 : decode cX1_wedLine 33 = .ok (.bipush 7, 2) := by decide +kernel
theorem dX1_wedLine_35 : decode cX1_wedLine 35 = .ok (.invokevirtual 118, 3) := by decide +kernel
theorem dX1_wedLine_38 : decode cX1_wedLine 38 = .ok (.istore_n 2, 1) := by decide +kernel
theorem dX1_wedLine_39 : decode cX1_wedLine 39 = .ok (.iload_n 2, 1) := by decide +kernel
theorem dX1_wedLine_40 : decode cX1_wedLine 40 = .ok (.iconst (-1), 1) := by decide +kernel
theorem dX1_wedLine_41 : decode cX1_wedLine 41 = .ok (.if_icmp .ne 5, 3) := by decide +kernel
theorem dX1_wedLine_44 : decode cX1_wedLine 44 = .ok (.iconst 0, 1) := by decide +kernel
theorem dX1_wedLine_45 : decode cX1_wedLine 45 = .ok (.ireturn, 1) := by decide +kernel
theorem dX1_wedLine_46 : decode cX1_wedLine 46 = .ok (.aload_n 0, 1) := by decide +kernel
theorem dX1_wedLine_47 : decode cX1_wedLine 47 = .ok (.getfield 12, 3) := by decide +kernel
theorem dX1_wedLine_50 : decode cX1_wedLine 50 = .ok (.iload_n 2, 1) := by decide +kernel
theorem dX1_wedLine_51 : decode cX1_wedLine 51 = .ok (.invokevirtual 144, 3) := by decide +kernel
theorem dX1_wedLine_54 : decode cX1_wedLine 54 = .ok (.ifCond .eq 9, 3) := by decide +kernel
theorem dX1_wedLine_57 : decode cX1_wedLine 57 = .ok (.aload_n 0, 1) := by decide +kernel
theorem dX1_wedLine_58 : decode cX1_wedLine 58 = .ok (.iconst 4, 1) := by decide +kernel
theorem dX1_wedLine_59 : decode cX1_wedLine 59 = .ok (.invokevirtual 97, 3) := by decide +kernel
theorem dX1_wedLine_62 : decode cX1_wedLine 62 = .ok (.ireturn, 1) := by decide +kernel
theorem dX1_wedLine_63 : decode cX1_wedLine 63 = .ok (.aload_n 0, 1) := by decide +kernel
theorem dX1_wedLine_64 : decode cX1_wedLine 64 = .ok (.getfield 12, 3) := by decide +kernel
theorem dX1_wedLine_67 : decode cX1_wedLine 67 = .ok (.iload_n 1, 1) := by decide +kernel
theorem dX1_wedLine_68 : decode cX1_wedLine 68 = .ok (.iload_n 2, 1) := by decide +kernel
theorem dX1_wedLine_69 : decode cX1_wedLine 69 = .ok (.invokevirtual 147, 3) := by decide +kernel
theorem dX1_wedLine_72 : decode cX1_wedLine 72 = .ok (.aload_n 0, 1) := by decide +kernel
theorem dX1_wedLine_73 : decode cX1_wedLine 73 = .ok (.iconst 3, 1) := by decide +kernel
theorem dX1_wedLine_74 : decode cX1_wedLine 74 = .ok (.invokevirtual 108, 3) := by decide +kernel
theorem dX1_wedLine_77 : decode cX1_wedLine 77 = .ok (.ireturn, 1) := by decide +kernel
theorem dX1_namedBits_0 : decode cX1_namedBits 0 = .ok (.aload_n 0, 1) := by decide +kernel
theorem dX1_namedBits_1 : decode cX1_namedBits 1 = .ok (.getfield 35, 3) := by decide +kernel
theorem dX1_namedBits_4 : decode cX1_namedBits 4 = .ok (.aload_n 0, 1) := by decide +kernel
theorem dX1_namedBits_5 : decode cX1_namedBits 5 = .ok (.getfield 12, 3) := by decide +kernel
theorem dX1_namedBits_8 : decode cX1_namedBits 8 = .ok (.getfield 151, 3) := by decide +kernel
theorem dX1_namedBits_11 : decode cX1_namedBits 11 = .ok (.ior, 1) := by decide +kernel
theorem dX1_namedBits_12 : decode cX1_namedBits 12 = .ok (.aload_n 0, 1) := by decide +kernel
theorem dX1_namedBits_13 : decode cX1_namedBits 13 = .ok (.getfield 12, 3) := by decide +kernel
theorem dX1_namedBits_16 : decode cX1_namedBits 16 = .ok (.invokevirtual 154, 3) := by decide +kernel
theorem dX1_namedBits_19 : decode cX1_namedBits 19 = .ok (.ior, 1) := by decide +kernel
theorem dX1_namedBits_20 : decode cX1_namedBits 20 = .ok (.istore_n 1, 1) := by decide +kernel
theorem dX1_namedBits_21 : decode cX1_namedBits 21 = .ok (.iconst 0, 1) := by decide +kernel
theorem dX1_namedBits_22 : decode cX1_namedBits 22 = .ok (.istore_n 2, 1) := by decide +kernel
theorem dX1_namedBits_23 : decode cX1_namedBits 23 = .ok (.iload_n 2, 1) := by decide +kernel
theorem dX1_namedBits_24 : decode cX1_namedBits 24 = .ok (.bipush 8, 2) := by decide +kernel
theorem dX1_namedBits_26 : decode cX1_namedBits 26 = .ok (.if_icmp .ge 47, 3) := by decide +kernel
theorem dX1_namedBits_29 : decode cX1_namedBits 29 = .ok (.iload_n 1, 1) := by decide +kernel
theorem dX1_namedBits_30 : decode cX1_namedBits 30 = .ok (.aload_n 0, 1) := by decide +kernel
theorem dX1_namedBits_31 : decode cX1_namedBits 31 = .ok (.getfield 12, 3) := by decide +kernel
theorem dX1_namedBits_34 : decode cX1_namedBits 34 = .ok (.getfield 157, 3) := by decide +kernel
theorem dX1_namedBits_37 : decode cX1_namedBits 37 = .ok (.iload_n 2, 1) := by decide +kernel
theorem dX1_namedBits_38 : decode cX1_namedBits 38 = .ok (.iaload, 1) := by decide +kernel
theorem dX1_namedBits_39 : decode cX1_namedBits 39 = .ok (.ior, 1) := by decide +kernel
theorem dX1_namedBits_40 : decode cX1_namedBits 40 = .ok (.istore_n 1, 1) := by decide +kernel
theorem dX1_namedBits_41 : decode cX1_namedBits 41 = .ok (.aload_n 0, 1) := by decide +kernel
theorem dX1_namedBits_42 : decode cX1_namedBits 42 = .ok (.getfield 35, 3) := by decide +kernel
theorem dX1_namedBits_45 : decode cX1_namedBits 45 = .ok (.iload_n 2, 1) := by decide +kernel
theorem dX1_namedBits_46 : decode cX1_namedBits 46 = .ok (.ishr, 1) := by decide +kernel
theorem dX1_namedBits_47 : decode cX1_namedBits 47 = .ok (.iconst 1, 1) := by decide +kernel
theorem dX1_namedBits_48 : decode cX1_namedBits 48 = .ok (.iand, 1) := by decide +kernel
theorem dX1_namedBits_49 : decode cX1_namedBits 49 = .ok (.iconst 1, 1) := by decide +kernel
theorem dX1_namedBits_50 : decode cX1_namedBits 50 = .ok (.if_icmp .ne 17, 3) := by decide +kernel
theorem dX1_namedBits_53 : decode cX1_namedBits 53 = .ok (.iload_n 1, 1) := by decide +kernel
theorem dX1_namedBits_54 : decode cX1_namedBits 54 = .ok (.iconst 1, 1) := by decide +kernel
theorem dX1_namedBits_55 : decode cX1_namedBits 55 = .ok (.aload_n 0, 1) := by decide +kernel
theorem dX1_namedBits_56 : decode cX1_namedBits 56 = .ok (.getfield 12, 3) := by decide +kernel
theorem dX1_namedBits_59 : decode cX1_namedBits 59 = .ok (.getfield 126, 3) := by decide +kernel
theorem dX1_namedBits_62 : decode cX1_namedBits 62 = .ok (.iload_n 2, 1) := by decide +kernel
theorem dX1_namedBits_63 : decode cX1_namedBits 63 = .ok (.iaload, 1) := by decide +kernel
theorem dX1_namedBits_64 : decode cX1_namedBits 64 = .ok (.ishl, 1) := by decide +kernel
theorem dX1_namedBits_65 : decode cX1_namedBits 65 = .ok (.ior, 1) := by decide +kernel
theorem dX1_namedBits_66 : decode cX1_namedBits 66 = .ok (.istore_n 1, 1) := by decide +kernel
theorem dX1_namedBits_67 : decode cX1_namedBits 67 = .ok (.iinc 2 1, 3) := by decide +kernel
theorem dX1_namedBits_70 : decode cX1_namedBits 70 = .ok (.goto (-47), 3) := by decide +kernel
theorem dX1_namedBits_73 : decode cX1_namedBits 73 = .ok (.iload_n 1, 1) := by decide +kernel
theorem dX1_namedBits_74 : decode cX1_namedBits 74 = .ok (.ireturn, 1) := by decide +kernel
theorem dX1_number_0 : decode cX1_number 0 = .ok (.aload_n 0, 1) := by decide +kernel
theorem dX1_number_1 : decode cX1_number 1 = .ok (.getfield 18, 3) := by decide +kernel
theorem dX1_number_4 : decode cX1_number 4 = .ok (.invokevirtual 43, 3) := by decide +kernel
theorem dX1_number_7 : decode cX1_number 7 = .ok (.aload_n 0, 1) := by decide +kernel
theorem dX1_number_8 : decode cX1_number 8 = .ok (.iconst 2, 1) := by decide +kernel
theorem dX1_number_9 : decode cX1_number 9 = .ok (.invokevirtual 63, 3) := by decide +kernel
theorem dX1_number_12 : decode cX1_number 12 = .ok (.ifCond .ne 5, 3) := by decide +kernel
theorem dX1_number_15 : decode cX1_number 15 = .ok (.iconst (-1), 1) := by decide +kernel
theorem dX1_number_16 : decode cX1_number 16 = .ok (.ireturn, 1) := by decide +kernel
theorem dX1_number_17 : decode cX1_number 17 = .ok (.aload_n 0, 1) := by decide +kernel
theorem dX1_number_18 : decode cX1_number 18 = .ok (.getfield 18, 3) := by decide +kernel
theorem dX1_number_21 : decode cX1_number 21 = .ok (.getfield 160, 3) := by decide +kernel
theorem dX1_number_24 : decode cX1_number 24 = .ok (.iload_n 1, 1) := by decide +kernel
theorem dX1_number_25 : decode cX1_number 25 = .ok (.if_icmp .lt 14, 3) := by decide +kernel
theorem dX1_number_28 : decode cX1_number 28 = .ok (.aload_n 0, 1) := by decide +kernel
theorem dX1_number_29 : decode cX1_number 29 = .ok (.getfield 18, 3) := by decide +kernel
theorem dX1_number_32 : decode cX1_number 32 = .ok (.getfield 160, 3) := by decide +kernel
theorem dX1_number_35 : decode cX1_number 35 = .ok (.iload_n 2, 1) := by decide +kernel
theorem dX1_number_36 : decode cX1_number 36 = .ok (.if_icmp .le 11, 3) := by decide +kernel
theorem dX1_number_39 : decode cX1_number 39 = .ok (.aload_n 0, 1) := by decide +kernel
theorem dX1_number_40 : decode cX1_number 40 = .ok (.iconst 3, 1) := by decide +kernel
theorem dX1_number_41 : decode cX1_number 41 = .ok (.invokevirtual 97, 3) := by decide +kernel
theorem dX1_number_44 : decode cX1_number 44 = .ok (.pop, 1) := by decide +kernel
theorem dX1_number_45 : decode cX1_number 45 = .ok (.iconst (-1), 1) := by decide +kernel
theorem dX1_number_46 : decode cX1_number 46 = .ok (.ireturn, 1) := by decide +kernel
theorem dX1_number_47 : decode cX1_number 47 = .ok (.aload_n 0, 1) := by decide +kernel
theorem dX1_number_48 : decode cX1_number 48 = .ok (.getfield 18, 3) := by decide +kernel
theorem dX1_number_51 : decode cX1_number 51 = .ok (.getfield 160, 3) := by decide +kernel
theorem dX1_number_54 : decode cX1_number 54 = .ok (.ireturn, 1) := by decide +kernel
theorem dX1_follows_0 : decode cX1_follows 0 = .ok (.aload_n 0, 1) := by decide +kernel
theorem dX1_follows_1 : decode cX1_follows 1 = .ok (.getfield 18, 3) := by decide +kernel
theorem dX1_follows_4 : decode cX1_follows 4 = .ok (.invokevirtual 43, 3) := by decide +kernel
theorem dX1_follows_7 : decode cX1_follows 7 = .ok (.aload_n 0, 1) := by decide +kernel
theorem dX1_follows_8 : decode cX1_follows 8 = .ok (.iload_n 1, 1) := by decide +kernel
theorem dX1_follows_9 : decode cX1_follows 9 = .ok (.invokevirtual 63, 3) := by decide +kernel
theorem dX1_follows_12 : decode cX1_follows 12 = .ok (.ireturn, 1) := by decide +kernel
theorem dX1_stands_0 : decode cX1_stands 0 = .ok (.aload_n 0, 1) := by decide +kernel
theorem dX1_stands_1 : decode cX1_stands 1 = .ok (.getfield 18, 3) := by decide +kernel
theorem dX1_stands_4 : decode cX1_stands 4 = .ok (.getfield 46, 3) := by decide +kernel
theorem dX1_stands_7 : decode cX1_stands 7 = .ok (.iconst 4, 1) := by decide +kernel
theorem dX1_stands_8 : decode cX1_stands 8 = .ok (.if_icmp .ne 9, 3) := by decide +kernel
theorem dX1_stands_11 : decode cX1_stands 11 = .ok (.aload_n 0, 1) := by decide +kernel
theorem dX1_stands_12 : decode cX1_stands 12 = .ok (.iconst 1, 1) := by decide +kernel
theorem dX1_stands_13 : decode cX1_stands 13 = .ok (.invokevirtual 97, 3) := by decide +kernel
theorem dX1_stands_16 : decode cX1_stands 16 = .ok (.ireturn, 1) := by decide +kernel
theorem dX1_stands_17 : decode cX1_stands 17 = .ok (.aload_n 0, 1) := by decide +kernel
theorem dX1_stands_18 : decode cX1_stands 18 = .ok (.getfield 18, 3) := by decide +kernel
theorem dX1_stands_21 : decode cX1_stands 21 = .ok (.getfield 46, 3) := by decide +kernel
theorem dX1_stands_24 : decode cX1_stands 24 = .ok (.iload_n 1, 1) := by decide +kernel
theorem dX1_stands_25 : decode cX1_stands 25 = .ok (.if_icmp .eq 11, 3) := by decide +kernel
theorem dX1_stands_28 : decode cX1_stands 28 = .ok (.aload_n 0, 1) := by decide +kernel
theorem dX1_stands_29 : decode cX1_stands 29 = .ok (.iconst 2, 1) := by decide +kernel
theorem dX1_stands_30 : decode cX1_stands 30 = .ok (.invokevirtual 97, 3) := by decide +kernel
theorem dX1_stands_33 : decode cX1_stands 33 = .ok (.ifCond .eq 7, 3) := by decide +kernel
theorem dX1_stands_36 : decode cX1_stands 36 = .ok (.iconst 1, 1) := by decide +kernel
theorem dX1_stands_37 : decode cX1_stands 37 = .ok (.goto 4, 3) := by decide +kernel
theorem dX1_stands_40 : decode cX1_stands 40 = .ok (.iconst 0, 1) := by decide +kernel
theorem dX1_stands_41 : decode cX1_stands 41 = .ok (.ireturn, 1) := by decide +kernel
theorem dX1_refuse_0 : decode cX1_refuse 0 = .ok (.aload_n 0, 1) := by decide +kernel
theorem dX1_refuse_1 : decode cX1_refuse 1 = .ok (.iload_n 1, 1) := by decide +kernel
theorem dX1_refuse_2 : decode cX1_refuse 2 = .ok (.putfield 25, 3) := by decide +kernel
theorem dX1_refuse_5 : decode cX1_refuse 5 = .ok (.aload_n 0, 1) := by decide +kernel
theorem dX1_refuse_6 : decode cX1_refuse 6 = .ok (.aload_n 0, 1) := by decide +kernel
theorem dX1_refuse_7 : decode cX1_refuse 7 = .ok (.getfield 18, 3) := by decide +kernel
theorem dX1_refuse_10 : decode cX1_refuse 10 = .ok (.getfield 163, 3) := by decide +kernel
theorem dX1_refuse_13 : decode cX1_refuse 13 = .ok (.putfield 29, 3) := by decide +kernel
theorem dX1_refuse_16 : decode cX1_refuse 16 = .ok (.iconst 0, 1) := by decide +kernel
theorem dX1_refuse_17 : decode cX1_refuse 17 = .ok (.ireturn, 1) := by decide +kernel
theorem dX2_init_0 : decode cX2_init 0 = .ok (.aload_n 0, 1) := by decide +kernel
theorem dX2_init_1 : decode cX2_init 1 = .ok (.invokespecial 3, 3) := by decide +kernel
theorem dX2_init_4 : decode cX2_init 4 = .ok (.aload_n 0, 1) := by decide +kernel
theorem dX2_init_5 : decode cX2_init 5 = .ok (.bipush 40, 2) := by decide +kernel
theorem dX2_init_7 : decode cX2_init 7 = .ok (.newarray .int, 2) := by decide +kernel
theorem dX2_init_9 : decode cX2_init 9 = .ok (.putfield 9, 3) := by decide +kernel
theorem dX2_init_12 : decode cX2_init 12 = .ok (.aload_n 0, 1) := by decide +kernel
theorem dX2_init_13 : decode cX2_init 13 = .ok (.iconst (-1), 1) := by decide +kernel
theorem dX2_init_14 : decode cX2_init 14 = .ok (.putfield 15, 3) := by decide +kernel
theorem dX2_init_17 : decode cX2_init 17 = .ok (.return_, 1) := by decide +kernel
theorem dX2_renew_0 : decode cX2_renew 0 = .ok (.aload_n 0, 1) := by decide +kernel
theorem dX2_renew_1 : decode cX2_renew 1 = .ok (.iload_n 1, 1) := by decide +kernel
theorem dX2_renew_2 : decode cX2_renew 2 = .ok (.putfield 15, 3) := by decide +kernel
theorem dX2_renew_5 : decode cX2_renew 5 = .ok (.aload_n 0, 1) := by decide +kernel
theorem dX2_renew_6 : decode cX2_renew 6 = .ok (.iload_n 2, 1) := by decide +kernel
theorem dX2_renew_7 : decode cX2_renew 7 = .ok (.putfield 19, 3) := by decide +kernel
theorem dX2_renew_10 : decode cX2_renew 10 = .ok (.aload_n 0, 1) := by decide +kernel
theorem dX2_renew_11 : decode cX2_renew 11 = .ok (.getfield 9, 3) := by decide +kernel
theorem dX2_renew_14 : decode cX2_renew 14 = .ok (.iconst 0, 1) := by decide +kernel
theorem dX2_renew_15 : decode cX2_renew 15 = .ok (.invokestatic 22, 3) := by decide +kernel
theorem dX2_renew_18 : decode cX2_renew 18 = .ok (.return_, 1) := by decide +kernel
theorem dX2_isNothing_0 : decode cX2_isNothing 0 = .ok (.aload_n 0, 1) := by decide +kernel
theorem dX2_isNothing_1 : decode cX2_isNothing 1 = .ok (.getfield 15, 3) := by decide +kernel
theorem dX2_isNothing_4 : decode cX2_isNothing 4 = .ok (.iconst (-1), 1) := by decide +kernel
theorem dX2_isNothing_5 : decode cX2_isNothing 5 = .ok (.if_icmp .ne 7, 3) := by decide +kernel
theorem dX2_isNothing_8 : decode cX2_isNothing 8 = .ok (.iconst 1, 1) := by decide +kernel
theorem dX2_isNothing_9 : decode cX2_isNothing 9 = .ok (.goto 4, 3) := by decide +kernel
theorem dX2_isNothing_12 : decode cX2_isNothing 12 = .ok (.iconst 0, 1) := by decide +kernel
theorem dX2_isNothing_13 : decode cX2_isNothing 13 = .ok (.ireturn, 1) := by decide +kernel
theorem dX2_faultAt_0 : decode cX2_faultAt 0 = .ok (.aload_n 0, 1) := by decide +kernel
theorem dX2_faultAt_1 : decode cX2_faultAt 1 = .ok (.invokevirtual 28, 3) := by decide +kernel
theorem dX2_faultAt_4 : decode cX2_faultAt 4 = .ok (.ifCond .eq 5, 3) := by decide +kernel
theorem dX2_faultAt_7 : decode cX2_faultAt 7 = .ok (.iconst 1, 1) := by decide +kernel
theorem dX2_faultAt_8 : decode cX2_faultAt 8 = .ok (.ireturn, 1) := by decide +kernel
theorem dX2_faultAt_9 : decode cX2_faultAt 9 = .ok (.iload_n 1, 1) := by decide +kernel
theorem dX2_faultAt_10 : decode cX2_faultAt 10 = .ok (.aload_n 0, 1) := by decide +kernel
theorem dX2_faultAt_11 : decode cX2_faultAt 11 = .ok (.getfield 15, 3) := by decide +kernel
theorem dX2_faultAt_14 : decode cX2_faultAt 14 = .ok (.if_icmp .eq 5, 3) := by decide +kernel
theorem dX2_faultAt_17 : decode cX2_faultAt 17 = .ok (.iconst 3, 1) := by decide +kernel
theorem dX2_faultAt_18 : decode cX2_faultAt 18 = .ok (.ireturn, 1) := by decide +kernel
theorem dX2_faultAt_19 : decode cX2_faultAt 19 = .ok (.iload_n 2, 1) := by decide +kernel
theorem dX2_faultAt_20 : decode cX2_faultAt 20 = .ok (.ifCond .lt 11, 3) := by decide +kernel
theorem dX2_faultAt_23 : decode cX2_faultAt 23 = .ok (.iload_n 2, 1) := by decide +kernel
theorem dX2_faultAt_24 : decode cX2_faultAt 24 = .ok (.aload_n 0, 1) := by decide +kernel
theorem dX2_faultAt_25 : decode cX2_faultAt 25 = .ok (.getfield 19, 3) := by decide +kernel
theorem dX2_faultAt_28 : decode cX2_faultAt 28 = .ok (.if_icmp .lt 7, 3) := by decide +kernel
theorem dX2_faultAt_31 : decode cX2_faultAt 31 = .ok (.iconst 2, 1) := by decide +kernel
theorem dX2_faultAt_32 : decode cX2_faultAt 32 = .ok (.goto 4, 3) := by decide +kernel
theorem dX2_faultAt_35 : decode cX2_faultAt 35 = .ok (.iconst 0, 1) := by decide +kernel
theorem dX2_faultAt_36 : decode cX2_faultAt 36 = .ok (.ireturn, 1) := by decide +kernel
theorem dX2_faultAtTwo_0 : decode cX2_faultAtTwo 0 = .ok (.aload_n 0, 1) := by decide +kernel
theorem dX2_faultAtTwo_1 : decode cX2_faultAtTwo 1 = .ok (.iload_n 1, 1) := by decide +kernel
theorem dX2_faultAtTwo_2 : decode cX2_faultAtTwo 2 = .ok (.iload_n 2, 1) := by decide +kernel
theorem dX2_faultAtTwo_3 : decode cX2_faultAtTwo 3 = .ok (.invokevirtual 32, 3) := by decide +kernel
theorem dX2_faultAtTwo_6 : decode cX2_faultAtTwo 6 = .ok (.istore_n 3, 1) := by decide +kernel
theorem dX2_faultAtTwo_7 : decode cX2_faultAtTwo 7 = .ok (.iload_n 3, 1) := by decide +kernel
theorem dX2_faultAtTwo_8 : decode cX2_faultAtTwo 8 = .ok (.ifCond .eq 7, 3) := by decide +kernel
theorem dX2_faultAtTwo_11 : decode cX2_faultAtTwo 11 = .ok (.iload_n 3, 1) := by decide +kernel
theorem dX2_faultAtTwo_12 : decode cX2_faultAtTwo 12 = .ok (.goto 11, 3) := by decide +kernel
theorem dX2_faultAtTwo_15 : decode cX2_faultAtTwo 15 = .ok (.aload_n 0, 1) := by decide +kernel
theorem dX2_faultAtTwo_16 : decode cX2_faultAtTwo 16 = .ok (.iload_n 1, 1) := by decide +kernel
theorem dX2_faultAtTwo_17 : decode cX2_faultAtTwo 17 = .ok (.iload_n 2, 1) := by decide +kernel
theorem dX2_faultAtTwo_18 : decode cX2_faultAtTwo 18 = .ok (.iconst 1, 1) := by decide +kernel
theorem dX2_faultAtTwo_19 : decode cX2_faultAtTwo 19 = .ok (.iadd, 1) := by decide +kernel
theorem dX2_faultAtTwo_20 : decode cX2_faultAtTwo 20 = .ok (.invokevirtual 32, 3) := by decide +kernel
theorem dX2_faultAtTwo_23 : decode cX2_faultAtTwo 23 = .ok (.ireturn, 1) := by decide +kernel
theorem dX2_put_0 : decode cX2_put 0 = .ok (.aload_n 0, 1) := by decide +kernel
theorem dX2_put_1 : decode cX2_put 1 = .ok (.getfield 15, 3) := by decide +kernel
theorem dX2_put_4 : decode cX2_put 4 = .ok (.ifCond .ne 14, 3) := by decide +kernel
theorem dX2_put_7 : decode cX2_put 7 = .ok (.aload_n 0, 1) := by decide +kernel
theorem dX2_put_8 : decode cX2_put 8 = .ok (.getfield 9, 3) := by decide +kernel
theorem dX2_put_11 : decode cX2_put 11 = .ok (.iload_n 1, 1) := by decide +kernel
theorem dX2_put_12 : decode cX2_put 12 = .ok (.iload_n 2, 1) := by decide +kernel
theorem dX2_put_13 : decode cX2_put 13 = .ok (.i2b, 1) := by decide +kernel
theorem dX2_put_14 : decode cX2_put 14 = .ok (.iastore, 1) := by decide +kernel
theorem dX2_put_15 : decode cX2_put 15 = .ok (.goto 29, 3) := by decide +kernel
theorem dX2_put_18 : decode cX2_put 18 = .ok (.aload_n 0, 1) := by decide +kernel
theorem dX2_put_19 : decode cX2_put 19 = .ok (.getfield 15, 3) := by decide +kernel
theorem dX2_put_22 : decode cX2_put 22 = .ok (.iconst 1, 1) := by decide +kernel
theorem dX2_put_23 : decode cX2_put 23 = .ok (.if_icmp .ne 14, 3) := by decide +kernel
theorem dX2_put_26 : decode cX2_put 26 = .ok (.aload_n 0, 1) := by decide +kernel
theorem dX2_put_27 : decode cX2_put 27 = .ok (.getfield 9, 3) := by decide +kernel
theorem dX2_put_30 : decode cX2_put 30 = .ok (.iload_n 1, 1) := by decide +kernel
theorem dX2_put_31 : decode cX2_put 31 = .ok (.iload_n 2, 1) := by decide +kernel
theorem dX2_put_32 : decode cX2_put 32 = .ok (.i2s, 1) := by decide +kernel
theorem dX2_put_33 : decode cX2_put 33 = .ok (.iastore, 1) := by decide +kernel
theorem dX2_put_34 : decode cX2_put 34 = .ok (.goto 10, 3) := by decide +kernel
theorem dX2_put_37 : decode cX2_put 37 = .ok (.aload_n 0, 1) := by decide +kernel
theorem dX2_put_38 : decode cX2_put 38 = .ok (.getfield 9, 3) := by decide +kernel
theorem dX2_put_41 : decode cX2_put 41 = .ok (.iload_n 1, 1) := by decide +kernel
theorem dX2_put_42 : decode cX2_put 42 = .ok (.iload_n 2, 1) := by decide +kernel
theorem dX2_put_43 : decode cX2_put 43 = .ok (.iastore, 1) := by decide +kernel
theorem dX2_put_44 : decode cX2_put 44 = .ok (.return_, 1) := by decide +kernel
theorem dX3_init_0 : decode cX3_init 0 = .ok (.aload_n 0, 1) := by decide +kernel
theorem dX3_init_1 : decode cX3_init 1 = .ok (.invokespecial 1, 3) := by decide +kernel
theorem dX3_init_4 : decode cX3_init 4 = .ok (.aload_n 0, 1) := by decide +kernel
theorem dX3_init_5 : decode cX3_init 5 = .ok (.bipush 6, 2) := by decide +kernel
theorem dX3_init_7 : decode cX3_init 7 = .ok (.newarray .int, 2) := by decide +kernel
theorem dX3_init_9 : decode cX3_init 9 = .ok (.putfield 9, 3) := by decide +kernel
theorem dX3_init_12 : decode cX3_init 12 = .ok (.aload_n 0, 1) := by decide +kernel
theorem dX3_init_13 : decode cX3_init 13 = .ok (.bipush 6, 2) := by decide +kernel
theorem dX3_init_15 : decode cX3_init 15 = .ok (.newarray .int, 2) := by decide +kernel
theorem dX3_init_17 : decode cX3_init 17 = .ok (.putfield 13, 3) := by decide +kernel
theorem dX3_init_20 : decode cX3_init 20 = .ok (.aload_n 0, 1) := by decide +kernel
theorem dX3_init_21 : decode cX3_init 21 = .ok (.bipush 6, 2) := by decide +kernel
theorem dX3_init_23 : decode cX3_init 23 = .ok (.newarray .int, 2) := by decide +kernel
theorem dX3_init_25 : decode cX3_init 25 = .ok (.putfield 16, 3) := by decide +kernel
theorem dX3_init_28 : decode cX3_init 28 = .ok (.return_, 1) := by decide +kernel
theorem dX3_add_0 : decode cX3_add 0 = .ok (.aload_n 0, 1) := by decide +kernel
theorem dX3_add_1 : decode cX3_add 1 = .ok (.getfield 19, 3) := by decide +kernel
theorem dX3_add_4 : decode cX3_add 4 = .ok (.bipush 6, 2) := by decide +kernel
theorem dX3_add_6 : decode cX3_add 6 = .ok (.if_icmp .lt 5, 3) := by decide +kernel
theorem dX3_add_9 : decode cX3_add 9 = .ok (.iconst 0, 1) := by decide +kernel
theorem dX3_add_10 : decode cX3_add 10 = .ok (.ireturn, 1) := by decide +kernel
theorem dX3_add_11 : decode cX3_add 11 = .ok (.aload_n 0, 1) := by decide +kernel
theorem dX3_add_12 : decode cX3_add 12 = .ok (.getfield 9, 3) := by decide +kernel
theorem dX3_add_15 : decode cX3_add 15 = .ok (.aload_n 0, 1) := by decide +kernel
theorem dX3_add_16 : decode cX3_add 16 = .ok (.getfield 19, 3) := by decide +kernel
theorem dX3_add_19 : decode cX3_add 19 = .ok (.iload_n 1, 1) := by decide +kernel
theorem dX3_add_20 : decode cX3_add 20 = .ok (.iastore, 1) := by decide +kernel
theorem dX3_add_21 : decode cX3_add 21 = .ok (.aload_n 0, 1) := by decide +kernel
theorem dX3_add_22 : decode cX3_add 22 = .ok (.getfield 13, 3) := by decide +kernel
theorem dX3_add_25 : decode cX3_add 25 = .ok (.aload_n 0, 1) := by decide +kernel
theorem dX3_add_26 : decode cX3_add 26 = .ok (.getfield 19, 3) := by decide +kernel
theorem dX3_add_29 : decode cX3_add 29 = .ok (.iload_n 2, 1) := by decide +kernel
theorem dX3_add_30 : decode cX3_add 30 = .ok (.iastore, 1) := by decide +kernel
theorem dX3_add_31 : decode cX3_add 31 = .ok (.aload_n 0, 1) := by decide +kernel
theorem dX3_add_32 : decode cX3_add 32 = .ok (.getfield 16, 3) := by decide +kernel
theorem dX3_add_35 : decode cX3_add 35 = .ok (.aload_n 0, 1) := by decide +kernel
theorem dX3_add_36 : decode cX3_add 36 = .ok (.getfield 19, 3) := by decide +kernel
theorem dX3_add_39 : decode cX3_add 39 = .ok (.iload_n 3, 1) := by decide +kernel
theorem dX3_add_40 : decode cX3_add 40 = .ok (.iastore, 1) := by decide +kernel
theorem dX3_add_41 : decode cX3_add 41 = .ok (.aload_n 0, 1) := by decide +kernel
theorem dX3_add_42 : decode cX3_add 42 = .ok (.dup, 1) := by decide +kernel
theorem dX3_add_43 : decode cX3_add 43 = .ok (.getfield 19, 3) := by decide +kernel
theorem dX3_add_46 : decode cX3_add 46 = .ok (.iconst 1, 1) := by decide +kernel
theorem dX3_add_47 : decode cX3_add 47 = .ok (.iadd, 1) := by decide +kernel
theorem dX3_add_48 : decode cX3_add 48 = .ok (.putfield 19, 3) := by decide +kernel
theorem dX3_add_51 : decode cX3_add 51 = .ok (.iconst 1, 1) := by decide +kernel
theorem dX3_add_52 : decode cX3_add 52 = .ok (.ireturn, 1) := by decide +kernel
theorem dX3_agreeWith_0 : decode cX3_agreeWith 0 = .ok (.iconst 0, 1) := by decide +kernel
theorem dX3_agreeWith_1 : decode cX3_agreeWith 1 = .ok (.istore_n 3, 1) := by decide +kernel
theorem dX3_agreeWith_2 : decode cX3_agreeWith 2 = .ok (.iload_n 3, 1) := by decide +kernel
theorem dX3_agreeWith_3 : decode cX3_agreeWith 3 = .ok (.aload_n 0, 1) := by decide +kernel
theorem dX3_agreeWith_4 : decode cX3_agreeWith 4 = .ok (.getfield 19, 3) := by decide +kernel
theorem dX3_agreeWith_7 : decode cX3_agreeWith 7 = .ok (.if_icmp .ge 41, 3) := by decide +kernel
theorem dX3_agreeWith_10 : decode cX3_agreeWith 10 = .ok (.aload_n 0, 1) := by decide +kernel
theorem dX3_agreeWith_11 : decode cX3_agreeWith 11 = .ok (.getfield 9, 3) := by decide +kernel
theorem dX3_agreeWith_14 : decode cX3_agreeWith 14 = .ok (.iload_n 3, 1) := by decide +kernel
theorem dX3_agreeWith_15 : decode cX3_agreeWith 15 = .ok (.iaload, 1) := by decide +kernel
theorem dX3_agreeWith_16 : decode cX3_agreeWith 16 = .ok (.iload_n 2, 1) := by decide +kernel
theorem dX3_agreeWith_17 : decode cX3_agreeWith 17 = .ok (.if_icmp .ne 25, 3) := by decide +kernel
theorem dX3_agreeWith_20 : decode cX3_agreeWith 20 = .ok (.aload_n 1, 1) := by decide +kernel
theorem dX3_agreeWith_21 : decode cX3_agreeWith 21 = .ok (.iload_n 2, 1) := by decide +kernel
theorem dX3_agreeWith_22 : decode cX3_agreeWith 22 = .ok (.aload_n 0, 1) := by decide +kernel
theorem dX3_agreeWith_23 : decode cX3_agreeWith 23 = .ok (.getfield 13, 3) := by decide +kernel
theorem dX3_agreeWith_26 : decode cX3_agreeWith 26 = .ok (.iload_n 3, 1) := by decide +kernel
theorem dX3_agreeWith_27 : decode cX3_agreeWith 27 = .ok (.iaload, 1) := by decide +kernel
theorem dX3_agreeWith_28 : decode cX3_agreeWith 28 = .ok (.invokevirtual 23, 3) := by decide +kernel
theorem dX3_agreeWith_31 : decode cX3_agreeWith 31 = .ok (.aload_n 0, 1) := by decide +kernel
theorem dX3_agreeWith_32 : decode cX3_agreeWith 32 = .ok (.getfield 16, 3) := by decide +kernel
theorem dX3_agreeWith_35 : decode cX3_agreeWith 35 = .ok (.iload_n 3, 1) := by decide +kernel
theorem dX3_agreeWith_36 : decode cX3_agreeWith 36 = .ok (.iaload, 1) := by decide +kernel
theorem dX3_agreeWith_37 : decode cX3_agreeWith 37 = .ok (.if_icmp .eq 5, 3) := by decide +kernel
theorem dX3_agreeWith_40 : decode cX3_agreeWith 40 = .ok (.iconst 0, 1) := by decide +kernel
theorem dX3_agreeWith_41 : decode cX3_agreeWith 41 = .ok (.ireturn, 1) := by decide +kernel
theorem dX3_agreeWith_42 : decode cX3_agreeWith 42 = .ok (.iinc 3 1, 3) := by decide +kernel
theorem dX3_agreeWith_45 : decode cX3_agreeWith 45 = .ok (.goto (-43), 3) := by decide +kernel
theorem dX3_agreeWith_48 : decode cX3_agreeWith 48 = .ok (.iconst 1, 1) := by decide +kernel
theorem dX3_agreeWith_49 : decode cX3_agreeWith 49 = .ok (.ireturn, 1) := by decide +kernel
theorem dX4_init_0 : decode cX4_init 0 = .ok (.aload_n 0, 1) := by decide +kernel
theorem dX4_init_1 : decode cX4_init 1 = .ok (.invokespecial 3, 3) := by decide +kernel
theorem dX4_init_4 : decode cX4_init 4 = .ok (.aload_n 0, 1) := by decide +kernel
theorem dX4_init_5 : decode cX4_init 5 = .ok (.sipush 160, 3) := by decide +kernel
theorem dX4_init_8 : decode cX4_init 8 = .ok (.newarray .byte, 2) := by decide +kernel
theorem dX4_init_10 : decode cX4_init 10 = .ok (.putfield 11, 3) := by decide +kernel
theorem dX4_init_13 : decode cX4_init 13 = .ok (.return_, 1) := by decide +kernel
theorem dX4_put_0 : decode cX4_put 0 = .ok (.aload_n 0, 1) := by decide +kernel
theorem dX4_put_1 : decode cX4_put 1 = .ok (.getfield 15, 3) := by decide +kernel
theorem dX4_put_4 : decode cX4_put 4 = .ok (.sipush 160, 3) := by decide +kernel
theorem dX4_put_7 : decode cX4_put 7 = .ok (.if_icmp .lt 5, 3) := by decide +kernel
theorem dX4_put_10 : decode cX4_put 10 = .ok (.iconst 0, 1) := by decide +kernel
theorem dX4_put_11 : decode cX4_put 11 = .ok (.ireturn, 1) := by decide +kernel
theorem dX4_put_12 : decode cX4_put 12 = .ok (.aload_n 0, 1) := by decide +kernel
theorem dX4_put_13 : decode cX4_put 13 = .ok (.getfield 11, 3) := by decide +kernel
theorem dX4_put_16 : decode cX4_put 16 = .ok (.aload_n 0, 1) := by decide +kernel
theorem dX4_put_17 : decode cX4_put 17 = .ok (.getfield 15, 3) := by decide +kernel
theorem dX4_put_20 : decode cX4_put 20 = .ok (.iload_n 1, 1) := by decide +kernel
theorem dX4_put_21 : decode cX4_put 21 = .ok (.i2b, 1) := by decide +kernel
theorem dX4_put_22 : decode cX4_put 22 = .ok (.bastore, 1) := by decide +kernel
theorem dX4_put_23 : decode cX4_put 23 = .ok (.aload_n 0, 1) := by decide +kernel
theorem dX4_put_24 : decode cX4_put 24 = .ok (.dup, 1) := by decide +kernel
theorem dX4_put_25 : decode cX4_put 25 = .ok (.getfield 15, 3) := by decide +kernel
theorem dX4_put_28 : decode cX4_put 28 = .ok (.iconst 1, 1) := by decide +kernel
theorem dX4_put_29 : decode cX4_put 29 = .ok (.iadd, 1) := by decide +kernel
theorem dX4_put_30 : decode cX4_put 30 = .ok (.putfield 15, 3) := by decide +kernel
theorem dX4_put_33 : decode cX4_put 33 = .ok (.iconst 1, 1) := by decide +kernel
theorem dX4_put_34 : decode cX4_put 34 = .ok (.ireturn, 1) := by decide +kernel
theorem dX4_rewind_0 : decode cX4_rewind 0 = .ok (.aload_n 0, 1) := by decide +kernel
theorem dX4_rewind_1 : decode cX4_rewind 1 = .ok (.iconst 0, 1) := by decide +kernel
theorem dX4_rewind_2 : decode cX4_rewind 2 = .ok (.putfield 19, 3) := by decide +kernel
theorem dX4_rewind_5 : decode cX4_rewind 5 = .ok (.aload_n 0, 1) := by decide +kernel
theorem dX4_rewind_6 : decode cX4_rewind 6 = .ok (.iconst 0, 1) := by decide +kernel
theorem dX4_rewind_7 : decode cX4_rewind 7 = .ok (.putfield 22, 3) := by decide +kernel
theorem dX4_rewind_10 : decode cX4_rewind 10 = .ok (.aload_n 0, 1) := by decide +kernel
theorem dX4_rewind_11 : decode cX4_rewind 11 = .ok (.iconst 0, 1) := by decide +kernel
theorem dX4_rewind_12 : decode cX4_rewind 12 = .ok (.putfield 25, 3) := by decide +kernel
theorem dX4_rewind_15 : decode cX4_rewind 15 = .ok (.return_, 1) := by decide +kernel
theorem dX4_advance_0 : decode cX4_advance 0 = .ok (.aload_n 0, 1) := by decide +kernel
theorem dX4_advance_1 : decode cX4_advance 1 = .ok (.aload_n 0, 1) := by decide +kernel
theorem dX4_advance_2 : decode cX4_advance 2 = .ok (.aload_n 0, 1) := by decide +kernel
theorem dX4_advance_3 : decode cX4_advance 3 = .ok (.getfield 25, 3) := by decide +kernel
theorem dX4_advance_6 : decode cX4_advance 6 = .ok (.bipush 32, 2) := by decide +kernel
theorem dX4_advance_8 : decode cX4_advance 8 = .ok (.bipush 32, 2) := by decide +kernel
theorem dX4_advance_10 : decode cX4_advance 10 = .ok (.invokevirtual 28, 3) := by decide +kernel
theorem dX4_advance_13 : decode cX4_advance 13 = .ok (.putfield 22, 3) := by decide +kernel
theorem dX4_advance_16 : decode cX4_advance 16 = .ok (.aload_n 0, 1) := by decide +kernel
theorem dX4_advance_17 : decode cX4_advance 17 = .ok (.getfield 22, 3) := by decide +kernel
theorem dX4_advance_20 : decode cX4_advance 20 = .ok (.aload_n 0, 1) := by decide +kernel
theorem dX4_advance_21 : decode cX4_advance 21 = .ok (.getfield 15, 3) := by decide +kernel
theorem dX4_advance_24 : decode cX4_advance 24 = .ok (.if_icmp .lt 11, 3) := by decide +kernel
theorem dX4_advance_27 : decode cX4_advance 27 = .ok (.aload_n 0, 1) := by decide +kernel
theorem dX4_advance_28 : decode cX4_advance 28 = .ok (.iconst 0, 1) := by decide +kernel
theorem dX4_advance_29 : decode cX4_advance 29 = .ok (.putfield 19, 3) := by decide +kernel
theorem dX4_advance_32 : decode cX4_advance 32 = .ok (.goto 98, 3) := by decide +kernel
theorem dX4_advance_35 : decode cX4_advance 35 = .ok (.aload_n 0, 1) := by decide +kernel
theorem dX4_advance_36 : decode cX4_advance 36 = .ok (.getfield 11, 3) := by decide +kernel
theorem dX4_advance_39 : decode cX4_advance 39 = .ok (.aload_n 0, 1) := by decide +kernel
theorem dX4_advance_40 : decode cX4_advance 40 = .ok (.getfield 22, 3) := by decide +kernel
theorem dX4_advance_43 : decode cX4_advance 43 = .ok (.baload, 1) := by decide +kernel
theorem dX4_advance_44 : decode cX4_advance 44 = .ok (.bipush 59, 2) := by decide +kernel
theorem dX4_advance_46 : decode cX4_advance 46 = .ok (.if_icmp .ne 21, 3) := by decide +kernel
theorem dX4_advance_49 : decode cX4_advance 49 = .ok (.aload_n 0, 1) := by decide +kernel
theorem dX4_advance_50 : decode cX4_advance 50 = .ok (.iconst 3, 1) := by decide +kernel
theorem dX4_advance_51 : decode cX4_advance 51 = .ok (.putfield 19, 3) := by decide +kernel
theorem dX4_advance_54 : decode cX4_advance 54 = .ok (.aload_n 0, 1) := by decide +kernel
theorem dX4_advance_55 : decode cX4_advance 55 = .ok (.aload_n 0, 1) := by decide +kernel
theorem dX4_advance_56 : decode cX4_advance 56 = .ok (.getfield 22, 3) := by decide +kernel
theorem dX4_advance_59 : decode cX4_advance 59 = .ok (.iconst 1, 1) := by decide +kernel
theorem dX4_advance_60 : decode cX4_advance 60 = .ok (.iadd, 1) := by decide +kernel
theorem dX4_advance_61 : decode cX4_advance 61 = .ok (.putfield 25, 3) := by decide +kernel
theorem dX4_advance_64 : decode cX4_advance 64 = .ok (.goto 66, 3) := by decide +kernel
theorem dX4_advance_67 : decode cX4_advance 67 = .ok (.aload_n 0, 1) := by decide +kernel
theorem dX4_advance_68 : decode cX4_advance 68 = .ok (.aload_n 0, 1) := by decide +kernel
theorem dX4_advance_69 : decode cX4_advance 69 = .ok (.getfield 22, 3) := by decide +kernel
theorem dX4_advance_72 : decode cX4_advance 72 = .ok (.bipush 97, 2) := by decide +kernel
theorem dX4_advance_74 : decode cX4_advance 74 = .ok (.bipush 122, 2) := by decide +kernel
theorem dX4_advance_76 : decode cX4_advance 76 = .ok (.invokevirtual 28, 3) := by decide +kernel
theorem dX4_advance_79 : decode cX4_advance 79 = .ok (.aload_n 0, 1) := by decide +kernel
theorem dX4_advance_80 : decode cX4_advance 80 = .ok (.getfield 22, 3) := by decide +kernel
theorem dX4_advance_83 : decode cX4_advance 83 = .ok (.if_icmp .le 27, 3) := by decide +kernel
theorem dX4_advance_86 : decode cX4_advance 86 = .ok (.aload_n 0, 1) := by decide +kernel
theorem dX4_advance_87 : decode cX4_advance 87 = .ok (.iconst 1, 1) := by decide +kernel
theorem dX4_advance_88 : decode cX4_advance 88 = .ok (.putfield 19, 3) := by decide +kernel
theorem dX4_advance_91 : decode cX4_advance 91 = .ok (.aload_n 0, 1) := by decide +kernel
theorem dX4_advance_92 : decode cX4_advance 92 = .ok (.aload_n 0, 1) := by decide +kernel
theorem dX4_advance_93 : decode cX4_advance 93 = .ok (.aload_n 0, 1) := by decide +kernel
theorem dX4_advance_94 : decode cX4_advance 94 = .ok (.getfield 22, 3) := by decide +kernel
theorem dX4_advance_97 : decode cX4_advance 97 = .ok (.bipush 97, 2) := by decide +kernel
theorem dX4_advance_99 : decode cX4_advance 99 = .ok (.bipush 122, 2) := by decide +kernel
theorem dX4_advance_101 : decode cX4_advance 101 = .ok (.invokevirtual 28, 3) := by decide +kernel
theorem dX4_advance_104 : decode cX4_advance 104 = .ok (.putfield 25, 3) := by decide +kernel
theorem dX4_advance_107 : decode cX4_advance 107 = .ok (.goto 23, 3) := by decide +kernel
theorem dX4_advance_110 : decode cX4_advance 110 = .ok (.aload_n 0, 1) := by decide +kernel
theorem dX4_advance_111 : decode cX4_advance 111 = .ok (.aload_n 0, 1) := by decide +kernel
theorem dX4_advance_112 : decode cX4_advance 112 = .ok (.aload_n 0, 1) := by decide +kernel
theorem dX4_advance_113 : decode cX4_advance 113 = .ok (.getfield 22, 3) := by decide +kernel
theorem dX4_advance_116 : decode cX4_advance 116 = .ok (.bipush 48, 2) := by decide +kernel
theorem dX4_advance_118 : decode cX4_advance 118 = .ok (.bipush 57, 2) := by decide +kernel
theorem dX4_advance_120 : decode cX4_advance 120 = .ok (.invokevirtual 28, 3) := by decide +kernel
theorem dX4_advance_123 : decode cX4_advance 123 = .ok (.putfield 25, 3) := by decide +kernel
theorem dX4_advance_126 : decode cX4_advance 126 = .ok (.aload_n 0, 1) := by decide +kernel
theorem dX4_advance_127 : decode cX4_advance 127 = .ok (.invokevirtual 32, 3) := by decide +kernel
theorem dX4_advance_130 : decode cX4_advance 130 = .ok (.return_, 1) := by decide +kernel
theorem dX4_takeNumber_0 : decode cX4_takeNumber 0 = .ok (.aload_n 0, 1) := by decide +kernel
theorem dX4_takeNumber_1 : decode cX4_takeNumber 1 = .ok (.getfield 25, 3) := by decide +kernel
theorem dX4_takeNumber_4 : decode cX4_takeNumber 4 = .ok (.aload_n 0, 1) := by decide +kernel
theorem dX4_takeNumber_5 : decode cX4_takeNumber 5 = .ok (.getfield 22, 3) := by decide +kernel
theorem dX4_takeNumber_8 : decode cX4_takeNumber 8 = .ok (.isub, 1) := by decide +kernel
theorem dX4_takeNumber_9 : decode cX4_takeNumber 9 = .ok (.istore_n 1, 1) := by decide +kernel
theorem dX4_takeNumber_10 : decode cX4_takeNumber 10 = .ok (.aload_n 0, 1) := by decide +kernel
theorem dX4_takeNumber_11 : decode cX4_takeNumber 11 = .ok (.iload_n 1, 1) := by decide +kernel
theorem dX4_takeNumber_12 : decode cX4_takeNumber 12 = .ok (.iconst 1, 1) := by decide +kernel
theorem dX4_takeNumber_13 : decode cX4_takeNumber 13 = .ok (.if_icmp .eq 8, 3) := by decide +kernel
theorem dX4_takeNumber_16 : decode cX4_takeNumber 16 = .ok (.iload_n 1, 1) := by decide +kernel
theorem dX4_takeNumber_17 : decode cX4_takeNumber 17 = .ok (.iconst 2, 1) := by decide +kernel
theorem dX4_takeNumber_18 : decode cX4_takeNumber 18 = .ok (.if_icmp .ne 7, 3) := by decide +kernel
theorem dX4_takeNumber_21 : decode cX4_takeNumber 21 = .ok (.iconst 2, 1) := by decide +kernel
theorem dX4_takeNumber_22 : decode cX4_takeNumber 22 = .ok (.goto 4, 3) := by decide +kernel
theorem dX4_takeNumber_25 : decode cX4_takeNumber 25 = .ok (.iconst 4, 1) := by decide +kernel
theorem dX4_takeNumber_26 : decode cX4_takeNumber 26 = .ok (.putfield 19, 3) := by decide +kernel
theorem dX4_takeNumber_29 : decode cX4_takeNumber 29 = .ok (.aload_n 0, 1) := by decide +kernel
theorem dX4_takeNumber_30 : decode cX4_takeNumber 30 = .ok (.iconst 0, 1) := by decide +kernel
theorem dX4_takeNumber_31 : decode cX4_takeNumber 31 = .ok (.putfield 35, 3) := by decide +kernel
theorem dX4_takeNumber_34 : decode cX4_takeNumber 34 = .ok (.aload_n 0, 1) := by decide +kernel
theorem dX4_takeNumber_35 : decode cX4_takeNumber 35 = .ok (.getfield 19, 3) := by decide +kernel
theorem dX4_takeNumber_38 : decode cX4_takeNumber 38 = .ok (.iconst 2, 1) := by decide +kernel
theorem dX4_takeNumber_39 : decode cX4_takeNumber 39 = .ok (.if_icmp .ne 43, 3) := by decide +kernel
theorem dX4_takeNumber_42 : decode cX4_takeNumber 42 = .ok (.aload_n 0, 1) := by decide +kernel
theorem dX4_takeNumber_43 : decode cX4_takeNumber 43 = .ok (.getfield 22, 3) := by decide +kernel
theorem dX4_takeNumber_46 : decode cX4_takeNumber 46 = .ok (.istore_n 2, 1) := by decide +kernel
theorem dX4_takeNumber_47 : decode cX4_takeNumber 47 = .ok (.iload_n 2, 1) := by decide +kernel
theorem dX4_takeNumber_48 : decode cX4_takeNumber 48 = .ok (.aload_n 0, 1) := by decide +kernel
theorem dX4_takeNumber_49 : decode cX4_takeNumber 49 = .ok (.getfield 25, 3) := by decide +kernel
theorem dX4_takeNumber_52 : decode cX4_takeNumber 52 = .ok (.if_icmp .ge 30, 3) := by decide +kernel
theorem dX4_takeNumber_55 : decode cX4_takeNumber 55 = .ok (.aload_n 0, 1) := by decide +kernel
theorem dX4_takeNumber_56 : decode cX4_takeNumber 56 = .ok (.aload_n 0, 1) := by decide +kernel
theorem dX4_takeNumber_57 : decode cX4_takeNumber 57 = .ok (.getfield 35, 3) := by decide +kernel
theorem dX4_takeNumber_60 : decode cX4_takeNumber 60 = .ok (.bipush 10, 2) := by decide +kernel
theorem dX4_takeNumber_62 : decode cX4_takeNumber 62 = .ok (.imul, 1) := by decide +kernel
theorem dX4_takeNumber_63 : decode cX4_takeNumber 63 = .ok (.aload_n 0, 1) := by decide +kernel
theorem dX4_takeNumber_64 : decode cX4_takeNumber 64 = .ok (.getfield 11, 3) := by decide +kernel
theorem dX4_takeNumber_67 : decode cX4_takeNumber 67 = .ok (.iload_n 2, 1) := by decide +kernel
theorem dX4_takeNumber_68 : decode cX4_takeNumber 68 = .ok (.baload, 1) := by decide +kernel
theorem dX4_takeNumber_69 : decode cX4_takeNumber 69 = .ok (.iadd, 1) := by decide +kernel
theorem dX4_takeNumber_70 : decode cX4_takeNumber 70 = .ok (.bipush 48, 2) := by decide +kernel
theorem dX4_takeNumber_72 : decode cX4_takeNumber 72 = .ok (.isub, 1) := by decide +kernel
theorem dX4_takeNumber_73 : decode cX4_takeNumber 73 = .ok (.putfield 35, 3) := by decide +kernel
theorem dX4_takeNumber_76 : decode cX4_takeNumber 76 = .ok (.iinc 2 1, 3) := by decide +kernel
theorem dX4_takeNumber_79 : decode cX4_takeNumber 79 = .ok (.goto (-32), 3) := by decide +kernel
theorem dX4_takeNumber_82 : decode cX4_takeNumber 82 = .ok (.return_, 1) := by decide +kernel
theorem dX4_runEnd_0 : decode cX4_runEnd 0 = .ok (.iload_n 1, 1) := by decide +kernel
theorem dX4_runEnd_1 : decode cX4_runEnd 1 = .ok (.istore 4, 2) := by decide +kernel
theorem dX4_runEnd_3 : decode cX4_runEnd 3 = .ok (.iload 4, 2) := by decide +kernel
theorem dX4_runEnd_5 : decode cX4_runEnd 5 = .ok (.aload_n 0, 1) := by decide +kernel
theorem dX4_runEnd_6 : decode cX4_runEnd 6 = .ok (.getfield 15, 3) := by decide +kernel
theorem dX4_runEnd_9 : decode cX4_runEnd 9 = .ok (.if_icmp .ge 31, 3) := by decide +kernel
theorem dX4_runEnd_12 : decode cX4_runEnd 12 = .ok (.aload_n 0, 1) := by decide +kernel
theorem dX4_runEnd_13 : decode cX4_runEnd 13 = .ok (.getfield 11, 3) := by decide +kernel
theorem dX4_runEnd_16 : decode cX4_runEnd 16 = .ok (.iload 4, 2) := by decide +kernel
theorem dX4_runEnd_18 : decode cX4_runEnd 18 = .ok (.baload, 1) := by decide +kernel
theorem dX4_runEnd_19 : decode cX4_runEnd 19 = .ok (.iload_n 2, 1) := by decide +kernel
theorem dX4_runEnd_20 : decode cX4_runEnd 20 = .ok (.if_icmp .lt 20, 3) := by decide +kernel
theorem dX4_runEnd_23 : decode cX4_runEnd 23 = .ok (.aload_n 0, 1) := by decide +kernel
theorem dX4_runEnd_24 : decode cX4_runEnd 24 = .ok (.getfield 11, 3) := by decide +kernel
theorem dX4_runEnd_27 : decode cX4_runEnd 27 = .ok (.iload 4, 2) := by decide +kernel
theorem dX4_runEnd_29 : decode cX4_runEnd 29 = .ok (.baload, 1) := by decide +kernel
theorem dX4_runEnd_30 : decode cX4_runEnd 30 = .ok (.iload_n 3, 1) := by decide +kernel
theorem dX4_runEnd_31 : decode cX4_runEnd 31 = .ok (.if_icmp .gt 9, 3) := by decide +kernel
theorem dX4_runEnd_34 : decode cX4_runEnd 34 = .ok (.iinc 4 1, 3) := by decide +kernel
theorem dX4_runEnd_37 : decode cX4_runEnd 37 = .ok (.goto (-34), 3) := by decide +kernel
theorem dX4_runEnd_40 : decode cX4_runEnd 40 = .ok (.iload 4, 2) := by decide +kernel
theorem dX4_runEnd_42 : decode cX4_runEnd 42 = .ok (.ireturn, 1) := by decide +kernel
theorem dX4_spells_0 : decode cX4_spells 0 = .ok (.aload_n 0, 1) := by decide +kernel
theorem dX4_spells_1 : decode cX4_spells 1 = .ok (.getfield 19, 3) := by decide +kernel
theorem dX4_spells_4 : decode cX4_spells 4 = .ok (.iconst 1, 1) := by decide +kernel
theorem dX4_spells_5 : decode cX4_spells 5 = .ok (.if_icmp .ne 19, 3) := by decide +kernel
theorem dX4_spells_8 : decode cX4_spells 8 = .ok (.aload_n 0, 1) := by decide +kernel
theorem dX4_spells_9 : decode cX4_spells 9 = .ok (.getfield 25, 3) := by decide +kernel
theorem dX4_spells_12 : decode cX4_spells 12 = .ok (.aload_n 0, 1) := by decide +kernel
theorem dX4_spells_13 : decode cX4_spells 13 = .ok (.getfield 22, 3) := by decide +kernel
theorem dX4_spells_16 : decode cX4_spells 16 = .ok (.isub, 1) := by decide +kernel
theorem dX4_spells_17 : decode cX4_spells 17 = .ok (.aload_n 1, 1) := by decide +kernel
theorem dX4_spells_18 : decode cX4_spells 18 = .ok (.invokevirtual 38, 3) := by decide +kernel
theorem dX4_spells_21 : decode cX4_spells 21 = .ok (.if_icmp .eq 5, 3) := by decide +kernel
theorem dX4_spells_24 : decode cX4_spells 24 = .ok (.iconst 0, 1) := by decide +kernel
theorem dX4_spells_25 : decode cX4_spells 25 = .ok (.ireturn, 1) := by decide +kernel
theorem dX4_spells_26 : decode cX4_spells 26 = .ok (.iconst 0, 1) := by decide +kernel
theorem dX4_spells_27 : decode cX4_spells 27 = .ok (.istore_n 2, 1) := by decide +kernel
theorem dX4_spells_28 : decode cX4_spells 28 = .ok (.iload_n 2, 1) := by decide +kernel
theorem dX4_spells_29 : decode cX4_spells 29 = .ok (.aload_n 1, 1) := by decide +kernel
theorem dX4_spells_30 : decode cX4_spells 30 = .ok (.invokevirtual 38, 3) := by decide +kernel
theorem dX4_spells_33 : decode cX4_spells 33 = .ok (.if_icmp .ge 30, 3) := by decide +kernel
theorem dX4_spells_36 : decode cX4_spells 36 = .ok (.aload_n 0, 1) := by decide +kernel
theorem dX4_spells_37 : decode cX4_spells 37 = .ok (.getfield 11, 3) := by decide +kernel
theorem dX4_spells_40 : decode cX4_spells 40 = .ok (.aload_n 0, 1) := by decide +kernel
theorem dX4_spells_41 : decode cX4_spells 41 = .ok (.getfield 22, 3) := by decide +kernel
theorem dX4_spells_44 : decode cX4_spells 44 = .ok (.iload_n 2, 1) := by decide +kernel
theorem dX4_spells_45 : decode cX4_spells 45 = .ok (.iadd, 1) := by decide +kernel
theorem dX4_spells_46 : decode cX4_spells 46 = .ok (.baload, 1) := by decide +kernel
theorem dX4_spells_47 : decode cX4_spells 47 = .ok (.aload_n 1, 1) := by decide +kernel
theorem dX4_spells_48 : decode cX4_spells 48 = .ok (.iload_n 2, 1) := by decide +kernel
theorem dX4_spells_49 : decode cX4_spells 49 = .ok (.invokevirtual 44, 3) := by decide +kernel
theorem dX4_spells_52 : decode cX4_spells 52 = .ok (.if_icmp .eq 5, 3) := by decide +kernel
theorem dX4_spells_55 : decode cX4_spells 55 = .ok (.iconst 0, 1) := by decide +kernel
theorem dX4_spells_56 : decode cX4_spells 56 = .ok (.ireturn, 1) := by decide +kernel
theorem dX4_spells_57 : decode cX4_spells 57 = .ok (.iinc 2 1, 3) := by decide +kernel
theorem dX4_spells_60 : decode cX4_spells 60 = .ok (.goto (-32), 3) := by decide +kernel
theorem dX4_spells_63 : decode cX4_spells 63 = .ok (.iconst 1, 1) := by decide +kernel
theorem dX4_spells_64 : decode cX4_spells 64 = .ok (.ireturn, 1) := by decide +kernel
theorem dX5_init_0 : decode cX5_init 0 = .ok (.aload_n 0, 1) := by decide +kernel
theorem dX5_init_1 : decode cX5_init 1 = .ok (.invokespecial 3, 3) := by decide +kernel
theorem dX5_init_4 : decode cX5_init 4 = .ok (.aload_n 0, 1) := by decide +kernel
theorem dX5_init_5 : decode cX5_init 5 = .ok (.bipush 8, 2) := by decide +kernel
theorem dX5_init_7 : decode cX5_init 7 = .ok (.newarray .int, 2) := by decide +kernel
theorem dX5_init_9 : decode cX5_init 9 = .ok (.putfield 9, 3) := by decide +kernel
theorem dX5_init_12 : decode cX5_init 12 = .ok (.aload_n 0, 1) := by decide +kernel
theorem dX5_init_13 : decode cX5_init 13 = .ok (.bipush 8, 2) := by decide +kernel
theorem dX5_init_15 : decode cX5_init 15 = .ok (.newarray .int, 2) := by decide +kernel
theorem dX5_init_17 : decode cX5_init 17 = .ok (.putfield 15, 3) := by decide +kernel
theorem dX5_init_20 : decode cX5_init 20 = .ok (.aload_n 0, 1) := by decide +kernel
theorem dX5_init_21 : decode cX5_init 21 = .ok (.bipush 8, 2) := by decide +kernel
theorem dX5_init_23 : decode cX5_init 23 = .ok (.newarray .int, 2) := by decide +kernel
theorem dX5_init_25 : decode cX5_init 25 = .ok (.putfield 18, 3) := by decide +kernel
theorem dX5_init_28 : decode cX5_init 28 = .ok (.aload_n 0, 1) := by decide +kernel
theorem dX5_init_29 : decode cX5_init 29 = .ok (.bipush 8, 2) := by decide +kernel
theorem dX5_init_31 : decode cX5_init 31 = .ok (.newarray .int, 2) := by decide +kernel
theorem dX5_init_33 : decode cX5_init 33 = .ok (.putfield 21, 3) := by decide +kernel
theorem dX5_init_36 : decode cX5_init 36 = .ok (.aload_n 0, 1) := by decide +kernel
theorem dX5_init_37 : decode cX5_init 37 = .ok (.bipush 8, 2) := by decide +kernel
theorem dX5_init_39 : decode cX5_init 39 = .ok (.newarray .int, 2) := by decide +kernel
theorem dX5_init_41 : decode cX5_init 41 = .ok (.putfield 24, 3) := by decide +kernel
theorem dX5_init_44 : decode cX5_init 44 = .ok (.aload_n 0, 1) := by decide +kernel
theorem dX5_init_45 : decode cX5_init 45 = .ok (.bipush 8, 2) := by decide +kernel
theorem dX5_init_47 : decode cX5_init 47 = .ok (.newarray .int, 2) := by decide +kernel
theorem dX5_init_49 : decode cX5_init 49 = .ok (.putfield 27, 3) := by decide +kernel
theorem dX5_init_52 : decode cX5_init 52 = .ok (.aload_n 0, 1) := by decide +kernel
theorem dX5_init_53 : decode cX5_init 53 = .ok (.bipush 8, 2) := by decide +kernel
theorem dX5_init_55 : decode cX5_init 55 = .ok (.newarray .int, 2) := by decide +kernel
theorem dX5_init_57 : decode cX5_init 57 = .ok (.putfield 30, 3) := by decide +kernel
theorem dX5_init_60 : decode cX5_init 60 = .ok (.aload_n 0, 1) := by decide +kernel
theorem dX5_init_61 : decode cX5_init 61 = .ok (.invokevirtual 33, 3) := by decide +kernel
theorem dX5_init_64 : decode cX5_init 64 = .ok (.return_, 1) := by decide +kernel
theorem dX5_clear_0 : decode cX5_clear 0 = .ok (.iconst 0, 1) := by decide +kernel
theorem dX5_clear_1 : decode cX5_clear 1 = .ok (.istore_n 1, 1) := by decide +kernel
theorem dX5_clear_2 : decode cX5_clear 2 = .ok (.iload_n 1, 1) := by decide +kernel
theorem dX5_clear_3 : decode cX5_clear 3 = .ok (.bipush 8, 2) := by decide +kernel
theorem dX5_clear_5 : decode cX5_clear 5 = .ok (.if_icmp .ge 30, 3) := by decide +kernel
theorem dX5_clear_8 : decode cX5_clear 8 = .ok (.aload_n 0, 1) := by decide +kernel
theorem dX5_clear_9 : decode cX5_clear 9 = .ok (.getfield 24, 3) := by decide +kernel
theorem dX5_clear_12 : decode cX5_clear 12 = .ok (.iload_n 1, 1) := by decide +kernel
theorem dX5_clear_13 : decode cX5_clear 13 = .ok (.iload_n 1, 1) := by decide +kernel
theorem dX5_clear_14 : decode cX5_clear 14 = .ok (.iastore, 1) := by decide +kernel
theorem dX5_clear_15 : decode cX5_clear 15 = .ok (.aload_n 0, 1) := by decide +kernel
theorem dX5_clear_16 : decode cX5_clear 16 = .ok (.getfield 27, 3) := by decide +kernel
theorem dX5_clear_19 : decode cX5_clear 19 = .ok (.iload_n 1, 1) := by decide +kernel
theorem dX5_clear_20 : decode cX5_clear 20 = .ok (.iconst (-1), 1) := by decide +kernel
theorem dX5_clear_21 : decode cX5_clear 21 = .ok (.iastore, 1) := by decide +kernel
theorem dX5_clear_22 : decode cX5_clear 22 = .ok (.aload_n 0, 1) := by decide +kernel
theorem dX5_clear_23 : decode cX5_clear 23 = .ok (.getfield 30, 3) := by decide +kernel
theorem dX5_clear_26 : decode cX5_clear 26 = .ok (.iload_n 1, 1) := by decide +kernel
theorem dX5_clear_27 : decode cX5_clear 27 = .ok (.iconst 0, 1) := by decide +kernel
theorem dX5_clear_28 : decode cX5_clear 28 = .ok (.iastore, 1) := by decide +kernel
theorem dX5_clear_29 : decode cX5_clear 29 = .ok (.iinc 1 1, 3) := by decide +kernel
theorem dX5_clear_32 : decode cX5_clear 32 = .ok (.goto (-30), 3) := by decide +kernel
theorem dX5_clear_35 : decode cX5_clear 35 = .ok (.aload_n 0, 1) := by decide +kernel
theorem dX5_clear_36 : decode cX5_clear 36 = .ok (.iconst 0, 1) := by decide +kernel
theorem dX5_clear_37 : decode cX5_clear 37 = .ok (.putfield 36, 3) := by decide +kernel
theorem dX5_clear_40 : decode cX5_clear 40 = .ok (.aload_n 0, 1) := by decide +kernel
theorem dX5_clear_41 : decode cX5_clear 41 = .ok (.iconst 0, 1) := by decide +kernel
theorem dX5_clear_42 : decode cX5_clear 42 = .ok (.putfield 40, 3) := by decide +kernel
theorem dX5_clear_45 : decode cX5_clear 45 = .ok (.aload_n 0, 1) := by decide +kernel
theorem dX5_clear_46 : decode cX5_clear 46 = .ok (.iconst 0, 1) := by decide +kernel
theorem dX5_clear_47 : decode cX5_clear 47 = .ok (.putfield 43, 3) := by decide +kernel
theorem dX5_clear_50 : decode cX5_clear 50 = .ok (.aload_n 0, 1) := by decide +kernel
theorem dX5_clear_51 : decode cX5_clear 51 = .ok (.iconst 0, 1) := by decide +kernel
theorem dX5_clear_52 : decode cX5_clear 52 = .ok (.putfield 46, 3) := by decide +kernel
theorem dX5_clear_55 : decode cX5_clear 55 = .ok (.return_, 1) := by decide +kernel
theorem dX5_become_0 : decode cX5_become 0 = .ok (.aload_n 1, 1) := by decide +kernel
theorem dX5_become_1 : decode cX5_become 1 = .ok (.getfield 9, 3) := by decide +kernel
theorem dX5_become_4 : decode cX5_become 4 = .ok (.iconst 0, 1) := by decide +kernel
theorem dX5_become_5 : decode cX5_become 5 = .ok (.aload_n 0, 1) := by decide +kernel
theorem dX5_become_6 : decode cX5_become 6 = .ok (.getfield 9, 3) := by decide +kernel
theorem dX5_become_9 : decode cX5_become 9 = .ok (.iconst 0, 1) := by decide +kernel
theorem dX5_become_10 : decode cX5_become 10 = .ok (.bipush 8, 2) := by decide +kernel
theorem dX5_become_12 : decode cX5_become 12 = .ok (.invokestatic 49, 3) := by decide +kernel
theorem dX5_become_15 : decode cX5_become 15 = .ok (.aload_n 1, 1) := by decide +kernel
theorem dX5_become_16 : decode cX5_become 16 = .ok (.getfield 15, 3) := by decide +kernel
theorem dX5_become_19 : decode cX5_become 19 = .ok (.iconst 0, 1) := by decide +kernel
theorem dX5_become_20 : decode cX5_become 20 = .ok (.aload_n 0, 1) := by decide +kernel
theorem dX5_become_21 : decode cX5_become 21 = .ok (.getfield 15, 3) := by decide +kernel
theorem dX5_become_24 : decode cX5_become 24 = .ok (.iconst 0, 1) := by decide +kernel
theorem dX5_become_25 : decode cX5_become 25 = .ok (.bipush 8, 2) := by decide +kernel
theorem dX5_become_27 : decode cX5_become 27 = .ok (.invokestatic 49, 3) := by decide +kernel
theorem dX5_become_30 : decode cX5_become 30 = .ok (.aload_n 1, 1) := by decide +kernel
theorem dX5_become_31 : decode cX5_become 31 = .ok (.getfield 18, 3) := by decide +kernel
theorem dX5_become_34 : decode cX5_become 34 = .ok (.iconst 0, 1) := by decide +kernel
theorem dX5_become_35 : decode cX5_become 35 = .ok (.aload_n 0, 1) := by decide +kernel
theorem dX5_become_36 : decode cX5_become 36 = .ok (.getfield 18, 3) := by decide +kernel
theorem dX5_become_39 : decode cX5_become 39 = .ok (.iconst 0, 1) := by decide +kernel
theorem dX5_become_40 : decode cX5_become 40 = .ok (.bipush 8, 2) := by decide +kernel
theorem dX5_become_42 : decode cX5_become 42 = .ok (.invokestatic 49, 3) := by decide +kernel
theorem dX5_become_45 : decode cX5_become 45 = .ok (.aload_n 1, 1) := by decide +kernel
theorem dX5_become_46 : decode cX5_become 46 = .ok (.getfield 21, 3) := by decide +kernel
theorem dX5_become_49 : decode cX5_become 49 = .ok (.iconst 0, 1) := by decide +kernel
theorem dX5_become_50 : decode cX5_become 50 = .ok (.aload_n 0, 1) := by decide +kernel
theorem dX5_become_51 : decode cX5_become 51 = .ok (.getfield 21, 3) := by decide +kernel
theorem dX5_become_54 : decode cX5_become 54 = .ok (.iconst 0, 1) := by decide +kernel
theorem dX5_become_55 : decode cX5_become 55 = .ok (.bipush 8, 2) := by decide +kernel
theorem dX5_become_57 : decode cX5_become 57 = .ok (.invokestatic 49, 3) := by decide +kernel
theorem dX5_become_60 : decode cX5_become 60 = .ok (.aload_n 1, 1) := by decide +kernel
theorem dX5_become_61 : decode cX5_become 61 = .ok (.getfield 24, 3) := by decide +kernel
theorem dX5_become_64 : decode cX5_become 64 = .ok (.iconst 0, 1) := by decide +kernel
theorem dX5_become_65 : decode cX5_become 65 = .ok (.aload_n 0, 1) := by decide +kernel
theorem dX5_become_66 : decode cX5_become 66 = .ok (.getfield 24, 3) := by decide +kernel
theorem dX5_become_69 : decode cX5_become 69 = .ok (.iconst 0, 1) := by decide +kernel
theorem dX5_become_70 : decode cX5_become 70 = .ok (.bipush 8, 2) := by decide +kernel
theorem dX5_become_72 : decode cX5_become 72 = .ok (.invokestatic 49, 3) := by decide +kernel
theorem dX5_become_75 : decode cX5_become 75 = .ok (.aload_n 1, 1) := by decide +kernel
theorem dX5_become_76 : decode cX5_become 76 = .ok (.getfield 27, 3) := by decide +kernel
theorem dX5_become_79 : decode cX5_become 79 = .ok (.iconst 0, 1) := by decide +kernel
theorem dX5_become_80 : decode cX5_become 80 = .ok (.aload_n 0, 1) := by decide +kernel
theorem dX5_become_81 : decode cX5_become 81 = .ok (.getfield 27, 3) := by decide +kernel
theorem dX5_become_84 : decode cX5_become 84 = .ok (.iconst 0, 1) := by decide +kernel
theorem dX5_become_85 : decode cX5_become 85 = .ok (.bipush 8, 2) := by decide +kernel
theorem dX5_become_87 : decode cX5_become 87 = .ok (.invokestatic 49, 3) := by decide +kernel
theorem dX5_become_90 : decode cX5_become 90 = .ok (.aload_n 1, 1) := by decide +kernel
theorem dX5_become_91 : decode cX5_become 91 = .ok (.getfield 30, 3) := by decide +kernel
theorem dX5_become_94 : decode cX5_become 94 = .ok (.iconst 0, 1) := by decide +kernel
theorem dX5_become_95 : decode cX5_become 95 = .ok (.aload_n 0, 1) := by decide +kernel
theorem dX5_become_96 : decode cX5_become 96 = .ok (.getfield 30, 3) := by decide +kernel
theorem dX5_become_99 : decode cX5_become 99 = .ok (.iconst 0, 1) := by decide +kernel
theorem dX5_become_100 : decode cX5_become 100 = .ok (.bipush 8, 2) := by decide +kernel
theorem dX5_become_102 : decode cX5_become 102 = .ok (.invokestatic 49, 3) := by decide +kernel
theorem dX5_become_105 : decode cX5_become 105 = .ok (.aload_n 0, 1) := by decide +kernel
theorem dX5_become_106 : decode cX5_become 106 = .ok (.aload_n 1, 1) := by decide +kernel
theorem dX5_become_107 : decode cX5_become 107 = .ok (.getfield 36, 3) := by decide +kernel
theorem dX5_become_110 : decode cX5_become 110 = .ok (.putfield 36, 3) := by decide +kernel
theorem dX5_become_113 : decode cX5_become 113 = .ok (.aload_n 0, 1) := by decide +kernel
theorem dX5_become_114 : decode cX5_become 114 = .ok (.aload_n 1, 1) := by decide +kernel
theorem dX5_become_115 : decode cX5_become 115 = .ok (.getfield 40, 3) := by decide +kernel
theorem dX5_become_118 : decode cX5_become 118 = .ok (.putfield 40, 3) := by decide +kernel
theorem dX5_become_121 : decode cX5_become 121 = .ok (.aload_n 0, 1) := by decide +kernel
theorem dX5_become_122 : decode cX5_become 122 = .ok (.aload_n 1, 1) := by decide +kernel
theorem dX5_become_123 : decode cX5_become 123 = .ok (.getfield 43, 3) := by decide +kernel
theorem dX5_become_126 : decode cX5_become 126 = .ok (.putfield 43, 3) := by decide +kernel
theorem dX5_become_129 : decode cX5_become 129 = .ok (.aload_n 0, 1) := by decide +kernel
theorem dX5_become_130 : decode cX5_become 130 = .ok (.aload_n 1, 1) := by decide +kernel
theorem dX5_become_131 : decode cX5_become 131 = .ok (.getfield 46, 3) := by decide +kernel
theorem dX5_become_134 : decode cX5_become 134 = .ok (.putfield 46, 3) := by decide +kernel
theorem dX5_become_137 : decode cX5_become 137 = .ok (.return_, 1) := by decide +kernel
theorem dX5_isLeft_0 : decode cX5_isLeft 0 = .ok (.iload_n 1, 1) := by decide +kernel
theorem dX5_isLeft_1 : decode cX5_isLeft 1 = .ok (.ifCond .lt 15, 3) := by decide +kernel
theorem dX5_isLeft_4 : decode cX5_isLeft 4 = .ok (.iload_n 1, 1) := by decide +kernel
theorem dX5_isLeft_5 : decode cX5_isLeft 5 = .ok (.aload_n 0, 1) := by decide +kernel
theorem dX5_isLeft_6 : decode cX5_isLeft 6 = .ok (.getfield 36, 3) := by decide +kernel
theorem dX5_isLeft_9 : decode cX5_isLeft 9 = .ok (.if_icmp .ge 7, 3) := by decide +kernel
theorem dX5_isLeft_12 : decode cX5_isLeft 12 = .ok (.iconst 1, 1) := by decide +kernel
theorem dX5_isLeft_13 : decode cX5_isLeft 13 = .ok (.goto 4, 3) := by decide +kernel
theorem dX5_isLeft_16 : decode cX5_isLeft 16 = .ok (.iconst 0, 1) := by decide +kernel
theorem dX5_isLeft_17 : decode cX5_isLeft 17 = .ok (.ireturn, 1) := by decide +kernel
theorem dX5_isRight_0 : decode cX5_isRight 0 = .ok (.iload_n 1, 1) := by decide +kernel
theorem dX5_isRight_1 : decode cX5_isRight 1 = .ok (.iconst 4, 1) := by decide +kernel
theorem dX5_isRight_2 : decode cX5_isRight 2 = .ok (.if_icmp .lt 17, 3) := by decide +kernel
theorem dX5_isRight_5 : decode cX5_isRight 5 = .ok (.iload_n 1, 1) := by decide +kernel
theorem dX5_isRight_6 : decode cX5_isRight 6 = .ok (.iconst 4, 1) := by decide +kernel
theorem dX5_isRight_7 : decode cX5_isRight 7 = .ok (.aload_n 0, 1) := by decide +kernel
theorem dX5_isRight_8 : decode cX5_isRight 8 = .ok (.getfield 40, 3) := by decide +kernel
theorem dX5_isRight_11 : decode cX5_isRight 11 = .ok (.iadd, 1) := by decide +kernel
theorem dX5_isRight_12 : decode cX5_isRight 12 = .ok (.if_icmp .ge 7, 3) := by decide +kernel
theorem dX5_isRight_15 : decode cX5_isRight 15 = .ok (.iconst 1, 1) := by decide +kernel
theorem dX5_isRight_16 : decode cX5_isRight 16 = .ok (.goto 4, 3) := by decide +kernel
theorem dX5_isRight_19 : decode cX5_isRight 19 = .ok (.iconst 0, 1) := by decide +kernel
theorem dX5_isRight_20 : decode cX5_isRight 20 = .ok (.ireturn, 1) := by decide +kernel
theorem dX5_isHand_0 : decode cX5_isHand 0 = .ok (.iload_n 1, 1) := by decide +kernel
theorem dX5_isHand_1 : decode cX5_isHand 1 = .ok (.ifCond .lt 11, 3) := by decide +kernel
theorem dX5_isHand_4 : decode cX5_isHand 4 = .ok (.iload_n 1, 1) := by decide +kernel
theorem dX5_isHand_5 : decode cX5_isHand 5 = .ok (.aload_n 0, 1) := by decide +kernel
theorem dX5_isHand_6 : decode cX5_isHand 6 = .ok (.getfield 36, 3) := by decide +kernel
theorem dX5_isHand_9 : decode cX5_isHand 9 = .ok (.if_icmp .lt 18, 3) := by decide +kernel
theorem dX5_isHand_12 : decode cX5_isHand 12 = .ok (.iload_n 1, 1) := by decide +kernel
theorem dX5_isHand_13 : decode cX5_isHand 13 = .ok (.iconst 4, 1) := by decide +kernel
theorem dX5_isHand_14 : decode cX5_isHand 14 = .ok (.if_icmp .lt 17, 3) := by decide +kernel
theorem dX5_isHand_17 : decode cX5_isHand 17 = .ok (.iload_n 1, 1) := by decide +kernel
theorem dX5_isHand_18 : decode cX5_isHand 18 = .ok (.iconst 4, 1) := by decide +kernel
theorem dX5_isHand_19 : decode cX5_isHand 19 = .ok (.aload_n 0, 1) := by decide +kernel
theorem dX5_isHand_20 : decode cX5_isHand 20 = .ok (.getfield 40, 3) := by decide +kernel
theorem dX5_isHand_23 : decode cX5_isHand 23 = .ok (.iadd, 1) := by decide +kernel
theorem dX5_isHand_24 : decode cX5_isHand 24 = .ok (.if_icmp .ge 7, 3) := by decide +kernel
theorem dX5_isHand_27 : decode cX5_isHand 27 = .ok (.iconst 1, 1) := by decide +kernel
theorem dX5_isHand_28 : decode cX5_isHand 28 = .ok (.goto 4, 3) := by decide +kernel
theorem dX5_isHand_31 : decode cX5_isHand 31 = .ok (.iconst 0, 1) := by decide +kernel
theorem dX5_isHand_32 : decode cX5_isHand 32 = .ok (.ireturn, 1) := by decide +kernel
theorem dX5_sameSide_0 : decode cX5_sameSide 0 = .ok (.iload_n 0, 1) := by decide +kernel
theorem dX5_sameSide_1 : decode cX5_sameSide 1 = .ok (.iconst 4, 1) := by decide +kernel
theorem dX5_sameSide_2 : decode cX5_sameSide 2 = .ok (.if_icmp .ge 7, 3) := by decide +kernel
theorem dX5_sameSide_5 : decode cX5_sameSide 5 = .ok (.iconst 1, 1) := by decide +kernel
theorem dX5_sameSide_6 : decode cX5_sameSide 6 = .ok (.goto 4, 3) := by decide +kernel
theorem dX5_sameSide_9 : decode cX5_sameSide 9 = .ok (.iconst 0, 1) := by decide +kernel
theorem dX5_sameSide_10 : decode cX5_sameSide 10 = .ok (.iload_n 1, 1) := by decide +kernel
theorem dX5_sameSide_11 : decode cX5_sameSide 11 = .ok (.iconst 4, 1) := by decide +kernel
theorem dX5_sameSide_12 : decode cX5_sameSide 12 = .ok (.if_icmp .ge 7, 3) := by decide +kernel
theorem dX5_sameSide_15 : decode cX5_sameSide 15 = .ok (.iconst 1, 1) := by decide +kernel
theorem dX5_sameSide_16 : decode cX5_sameSide 16 = .ok (.goto 4, 3) := by decide +kernel
theorem dX5_sameSide_19 : decode cX5_sameSide 19 = .ok (.iconst 0, 1) := by decide +kernel
theorem dX5_sameSide_20 : decode cX5_sameSide 20 = .ok (.if_icmp .ne 7, 3) := by decide +kernel
theorem dX5_sameSide_23 : decode cX5_sameSide 23 = .ok (.iconst 1, 1) := by decide +kernel
theorem dX5_sameSide_24 : decode cX5_sameSide 24 = .ok (.goto 4, 3) := by decide +kernel
theorem dX5_sameSide_27 : decode cX5_sameSide 27 = .ok (.iconst 0, 1) := by decide +kernel
theorem dX5_sameSide_28 : decode cX5_sameSide 28 = .ok (.ireturn, 1) := by decide +kernel
theorem dX5_size_0 : decode cX5_size 0 = .ok (.aload_n 0, 1) := by decide +kernel
theorem dX5_size_1 : decode cX5_size 1 = .ok (.getfield 36, 3) := by decide +kernel
theorem dX5_size_4 : decode cX5_size 4 = .ok (.aload_n 0, 1) := by decide +kernel
theorem dX5_size_5 : decode cX5_size 5 = .ok (.getfield 40, 3) := by decide +kernel
theorem dX5_size_8 : decode cX5_size 8 = .ok (.iadd, 1) := by decide +kernel
theorem dX5_size_9 : decode cX5_size 9 = .ok (.ireturn, 1) := by decide +kernel
theorem dX5_handBits_0 : decode cX5_handBits 0 = .ok (.iconst 1, 1) := by decide +kernel
theorem dX5_handBits_1 : decode cX5_handBits 1 = .ok (.aload_n 0, 1) := by decide +kernel
theorem dX5_handBits_2 : decode cX5_handBits 2 = .ok (.getfield 36, 3) := by decide +kernel
theorem dX5_handBits_5 : decode cX5_handBits 5 = .ok (.ishl, 1) := by decide +kernel
theorem dX5_handBits_6 : decode cX5_handBits 6 = .ok (.iconst 1, 1) := by decide +kernel
theorem dX5_handBits_7 : decode cX5_handBits 7 = .ok (.isub, 1) := by decide +kernel
theorem dX5_handBits_8 : decode cX5_handBits 8 = .ok (.iconst 1, 1) := by decide +kernel
theorem dX5_handBits_9 : decode cX5_handBits 9 = .ok (.aload_n 0, 1) := by decide +kernel
theorem dX5_handBits_10 : decode cX5_handBits 10 = .ok (.getfield 40, 3) := by decide +kernel
theorem dX5_handBits_13 : decode cX5_handBits 13 = .ok (.ishl, 1) := by decide +kernel
theorem dX5_handBits_14 : decode cX5_handBits 14 = .ok (.iconst 1, 1) := by decide +kernel
theorem dX5_handBits_15 : decode cX5_handBits 15 = .ok (.isub, 1) := by decide +kernel
theorem dX5_handBits_16 : decode cX5_handBits 16 = .ok (.iconst 4, 1) := by decide +kernel
theorem dX5_handBits_17 : decode cX5_handBits 17 = .ok (.ishl, 1) := by decide +kernel
theorem dX5_handBits_18 : decode cX5_handBits 18 = .ok (.ior, 1) := by decide +kernel
theorem dX5_handBits_19 : decode cX5_handBits 19 = .ok (.ireturn, 1) := by decide +kernel
theorem dX5_byOrder_0 : decode cX5_byOrder 0 = .ok (.iload_n 1, 1) := by decide +kernel
theorem dX5_byOrder_1 : decode cX5_byOrder 1 = .ok (.aload_n 0, 1) := by decide +kernel
theorem dX5_byOrder_2 : decode cX5_byOrder 2 = .ok (.getfield 36, 3) := by decide +kernel
theorem dX5_byOrder_5 : decode cX5_byOrder 5 = .ok (.if_icmp .ge 7, 3) := by decide +kernel
theorem dX5_byOrder_8 : decode cX5_byOrder 8 = .ok (.iload_n 1, 1) := by decide +kernel
theorem dX5_byOrder_9 : decode cX5_byOrder 9 = .ok (.goto 11, 3) := by decide +kernel
theorem dX5_byOrder_12 : decode cX5_byOrder 12 = .ok (.iconst 4, 1) := by decide +kernel
theorem dX5_byOrder_13 : decode cX5_byOrder 13 = .ok (.iload_n 1, 1) := by decide +kernel
theorem dX5_byOrder_14 : decode cX5_byOrder 14 = .ok (.iadd, 1) := by decide +kernel
theorem dX5_byOrder_15 : decode cX5_byOrder 15 = .ok (.aload_n 0, 1) := by decide +kernel
theorem dX5_byOrder_16 : decode cX5_byOrder 16 = .ok (.getfield 36, 3) := by decide +kernel
theorem dX5_byOrder_19 : decode cX5_byOrder 19 = .ok (.isub, 1) := by decide +kernel
theorem dX5_byOrder_20 : decode cX5_byOrder 20 = .ok (.ireturn, 1) := by decide +kernel
theorem dX5_isFull_0 : decode cX5_isFull 0 = .ok (.iload_n 1, 1) := by decide +kernel
theorem dX5_isFull_1 : decode cX5_isFull 1 = .ok (.ifCond .ne 10, 3) := by decide +kernel
theorem dX5_isFull_4 : decode cX5_isFull 4 = .ok (.aload_n 0, 1) := by decide +kernel
theorem dX5_isFull_5 : decode cX5_isFull 5 = .ok (.getfield 36, 3) := by decide +kernel
theorem dX5_isFull_8 : decode cX5_isFull 8 = .ok (.goto 7, 3) := by decide +kernel
theorem dX5_isFull_11 : decode cX5_isFull 11 = .ok (.aload_n 0, 1) := by decide +kernel
theorem dX5_isFull_12 : decode cX5_isFull 12 = .ok (.getfield 40, 3) := by decide +kernel
theorem dX5_isFull_15 : decode cX5_isFull 15 = .ok (.iconst 4, 1) := by decide +kernel
theorem dX5_isFull_16 : decode cX5_isFull 16 = .ok (.if_icmp .lt 7, 3) := by decide +kernel
theorem dX5_isFull_19 : decode cX5_isFull 19 = .ok (.iconst 1, 1) := by decide +kernel
theorem dX5_isFull_20 : decode cX5_isFull 20 = .ok (.goto 4, 3) := by decide +kernel
theorem dX5_isFull_23 : decode cX5_isFull 23 = .ok (.iconst 0, 1) := by decide +kernel
theorem dX5_isFull_24 : decode cX5_isFull 24 = .ok (.ireturn, 1) := by decide +kernel
theorem dX5_add_0 : decode cX5_add 0 = .ok (.aload_n 0, 1) := by decide +kernel
theorem dX5_add_1 : decode cX5_add 1 = .ok (.iload_n 1, 1) := by decide +kernel
theorem dX5_add_2 : decode cX5_add 2 = .ok (.invokevirtual 55, 3) := by decide +kernel
theorem dX5_add_5 : decode cX5_add 5 = .ok (.ifCond .eq 4, 3) := by decide +kernel
theorem dX5_add_8 : decode cX5_add 8 = .ok (.return_, 1) := by decide +kernel
theorem dX5_add_9 : decode cX5_add 9 = .ok (.iload_n 1, 1) := by decide +kernel
theorem dX5_add_10 : decode cX5_add 10 = .ok (.ifCond .ne 10, 3) := by decide +kernel
theorem dX5_add_13 : decode cX5_add 13 = .ok (.aload_n 0, 1) := by decide +kernel
theorem dX5_add_14 : decode cX5_add 14 = .ok (.getfield 36, 3) := by decide +kernel
theorem dX5_add_17 : decode cX5_add 17 = .ok (.goto 9, 3) := by decide +kernel
theorem dX5_add_20 : decode cX5_add 20 = .ok (.iconst 4, 1) := by decide +kernel
theorem dX5_add_21 : decode cX5_add 21 = .ok (.aload_n 0, 1) := by decide +kernel
theorem dX5_add_22 : decode cX5_add 22 = .ok (.getfield 40, 3) := by decide +kernel
theorem dX5_add_25 : decode cX5_add 25 = .ok (.iadd, 1) := by decide +kernel
theorem dX5_add_26 : decode cX5_add 26 = .ok (.istore 6, 2) := by decide +kernel
theorem dX5_add_28 : decode cX5_add 28 = .ok (.iload_n 1, 1) := by decide +kernel
theorem dX5_add_29 : decode cX5_add 29 = .ok (.ifCond .ne 16, 3) := by decide +kernel
theorem dX5_add_32 : decode cX5_add 32 = .ok (.aload_n 0, 1) := by decide +kernel
theorem dX5_add_33 : decode cX5_add 33 = .ok (.dup, 1) := by decide +kernel
theorem dX5_add_34 : decode cX5_add 34 = .ok (.getfield 36, 3) := by decide +kernel
theorem dX5_add_37 : decode cX5_add 37 = .ok (.iconst 1, 1) := by decide +kernel
theorem dX5_add_38 : decode cX5_add 38 = .ok (.iadd, 1) := by decide +kernel
theorem dX5_add_39 : decode cX5_add 39 = .ok (.putfield 36, 3) := by decide +kernel
theorem dX5_add_42 : decode cX5_add 42 = .ok (.goto 13, 3) := by decide +kernel
theorem dX5_add_45 : decode cX5_add 45 = .ok (.aload_n 0, 1) := by decide +kernel
theorem dX5_add_46 : decode cX5_add 46 = .ok (.dup, 1) := by decide +kernel
theorem dX5_add_47 : decode cX5_add 47 = .ok (.getfield 40, 3) := by decide +kernel
theorem dX5_add_50 : decode cX5_add 50 = .ok (.iconst 1, 1) := by decide +kernel
theorem dX5_add_51 : decode cX5_add 51 = .ok (.iadd, 1) := by decide +kernel
theorem dX5_add_52 : decode cX5_add 52 = .ok (.putfield 40, 3) := by decide +kernel
theorem dX5_add_55 : decode cX5_add 55 = .ok (.aload_n 0, 1) := by decide +kernel
theorem dX5_add_56 : decode cX5_add 56 = .ok (.getfield 9, 3) := by decide +kernel
theorem dX5_add_59 : decode cX5_add 59 = .ok (.iload 6, 2) := by decide +kernel
theorem dX5_add_61 : decode cX5_add 61 = .ok (.iload_n 2, 1) := by decide +kernel
theorem dX5_add_62 : decode cX5_add 62 = .ok (.iastore, 1) := by decide +kernel
theorem dX5_add_63 : decode cX5_add 63 = .ok (.aload_n 0, 1) := by decide +kernel
theorem dX5_add_64 : decode cX5_add 64 = .ok (.getfield 15, 3) := by decide +kernel
theorem dX5_add_67 : decode cX5_add 67 = .ok (.iload 6, 2) := by decide +kernel
theorem dX5_add_69 : decode cX5_add 69 = .ok (.iload_n 3, 1) := by decide +kernel
theorem dX5_add_70 : decode cX5_add 70 = .ok (.iastore, 1) := by decide +kernel
theorem dX5_add_71 : decode cX5_add 71 = .ok (.aload_n 0, 1) := by decide +kernel
theorem dX5_add_72 : decode cX5_add 72 = .ok (.getfield 18, 3) := by decide +kernel
theorem dX5_add_75 : decode cX5_add 75 = .ok (.iload 6, 2) := by decide +kernel
theorem dX5_add_77 : decode cX5_add 77 = .ok (.iload 4, 2) := by decide +kernel
theorem dX5_add_79 : decode cX5_add 79 = .ok (.iastore, 1) := by decide +kernel
theorem dX5_add_80 : decode cX5_add 80 = .ok (.aload_n 0, 1) := by decide +kernel
theorem dX5_add_81 : decode cX5_add 81 = .ok (.getfield 21, 3) := by decide +kernel
theorem dX5_add_84 : decode cX5_add 84 = .ok (.iload 6, 2) := by decide +kernel
theorem dX5_add_86 : decode cX5_add 86 = .ok (.iload 5, 2) := by decide +kernel
theorem dX5_add_88 : decode cX5_add 88 = .ok (.iastore, 1) := by decide +kernel
theorem dX5_add_89 : decode cX5_add 89 = .ok (.return_, 1) := by decide +kernel
theorem dX5_isRun_0 : decode cX5_isRun 0 = .ok (.aload_n 0, 1) := by decide +kernel
theorem dX5_isRun_1 : decode cX5_isRun 1 = .ok (.getfield 43, 3) := by decide +kernel
theorem dX5_isRun_4 : decode cX5_isRun 4 = .ok (.iload_n 1, 1) := by decide +kernel
theorem dX5_isRun_5 : decode cX5_isRun 5 = .ok (.ishr, 1) := by decide +kernel
theorem dX5_isRun_6 : decode cX5_isRun 6 = .ok (.iconst 1, 1) := by decide +kernel
theorem dX5_isRun_7 : decode cX5_isRun 7 = .ok (.iand, 1) := by decide +kernel
theorem dX5_isRun_8 : decode cX5_isRun 8 = .ok (.iconst 1, 1) := by decide +kernel
theorem dX5_isRun_9 : decode cX5_isRun 9 = .ok (.if_icmp .ne 7, 3) := by decide +kernel
theorem dX5_isRun_12 : decode cX5_isRun 12 = .ok (.iconst 1, 1) := by decide +kernel
theorem dX5_isRun_13 : decode cX5_isRun 13 = .ok (.goto 4, 3) := by decide +kernel
theorem dX5_isRun_16 : decode cX5_isRun 16 = .ok (.iconst 0, 1) := by decide +kernel
theorem dX5_isRun_17 : decode cX5_isRun 17 = .ok (.ireturn, 1) := by decide +kernel
theorem dX5_setRun_0 : decode cX5_setRun 0 = .ok (.aload_n 0, 1) := by decide +kernel
theorem dX5_setRun_1 : decode cX5_setRun 1 = .ok (.aload_n 0, 1) := by decide +kernel
theorem dX5_setRun_2 : decode cX5_setRun 2 = .ok (.getfield 43, 3) := by decide +kernel
theorem dX5_setRun_5 : decode cX5_setRun 5 = .ok (.iload_n 1, 1) := by decide +kernel
theorem dX5_setRun_6 : decode cX5_setRun 6 = .ok (.iload_n 2, 1) := by decide +kernel
theorem dX5_setRun_7 : decode cX5_setRun 7 = .ok (.invokestatic 59, 3) := by decide +kernel
theorem dX5_setRun_10 : decode cX5_setRun 10 = .ok (.putfield 43, 3) := by decide +kernel
theorem dX5_setRun_13 : decode cX5_setRun 13 = .ok (.return_, 1) := by decide +kernel
theorem dX5_areFolded_0 : decode cX5_areFolded 0 = .ok (.aload_n 0, 1) := by decide +kernel
theorem dX5_areFolded_1 : decode cX5_areFolded 1 = .ok (.getfield 30, 3) := by decide +kernel
theorem dX5_areFolded_4 : decode cX5_areFolded 4 = .ok (.iload_n 1, 1) := by decide +kernel
theorem dX5_areFolded_5 : decode cX5_areFolded 5 = .ok (.iaload, 1) := by decide +kernel
theorem dX5_areFolded_6 : decode cX5_areFolded 6 = .ok (.iload_n 2, 1) := by decide +kernel
theorem dX5_areFolded_7 : decode cX5_areFolded 7 = .ok (.ishr, 1) := by decide +kernel
theorem dX5_areFolded_8 : decode cX5_areFolded 8 = .ok (.iconst 1, 1) := by decide +kernel
theorem dX5_areFolded_9 : decode cX5_areFolded 9 = .ok (.iand, 1) := by decide +kernel
theorem dX5_areFolded_10 : decode cX5_areFolded 10 = .ok (.iconst 1, 1) := by decide +kernel
theorem dX5_areFolded_11 : decode cX5_areFolded 11 = .ok (.if_icmp .ne 7, 3) := by decide +kernel
theorem dX5_areFolded_14 : decode cX5_areFolded 14 = .ok (.iconst 1, 1) := by decide +kernel
theorem dX5_areFolded_15 : decode cX5_areFolded 15 = .ok (.goto 4, 3) := by decide +kernel
theorem dX5_areFolded_18 : decode cX5_areFolded 18 = .ok (.iconst 0, 1) := by decide +kernel
theorem dX5_areFolded_19 : decode cX5_areFolded 19 = .ok (.ireturn, 1) := by decide +kernel
theorem dX5_setFolded_0 : decode cX5_setFolded 0 = .ok (.aload_n 0, 1) := by decide +kernel
theorem dX5_setFolded_1 : decode cX5_setFolded 1 = .ok (.getfield 30, 3) := by decide +kernel
theorem dX5_setFolded_4 : decode cX5_setFolded 4 = .ok (.iload_n 1, 1) := by decide +kernel
theorem dX5_setFolded_5 : decode cX5_setFolded 5 = .ok (.aload_n 0, 1) := by decide +kernel
theorem dX5_setFolded_6 : decode cX5_setFolded 6 = .ok (.getfield 30, 3) := by decide +kernel
theorem dX5_setFolded_9 : decode cX5_setFolded 9 = .ok (.iload_n 1, 1) := by decide +kernel
theorem dX5_setFolded_10 : decode cX5_setFolded 10 = .ok (.iaload, 1) := by decide +kernel
theorem dX5_setFolded_11 : decode cX5_setFolded 11 = .ok (.iload_n 2, 1) := by decide +kernel
theorem dX5_setFolded_12 : decode cX5_setFolded 12 = .ok (.iload_n 3, 1) := by decide +kernel
theorem dX5_setFolded_13 : decode cX5_setFolded 13 = .ok (.invokestatic 59, 3) := by decide +kernel
theorem dX5_setFolded_16 : decode cX5_setFolded 16 = .ok (.iastore, 1) := by decide +kernel
theorem dX5_setFolded_17 : decode cX5_setFolded 17 = .ok (.aload_n 0, 1) := by decide +kernel
theorem dX5_setFolded_18 : decode cX5_setFolded 18 = .ok (.getfield 30, 3) := by decide +kernel
theorem dX5_setFolded_21 : decode cX5_setFolded 21 = .ok (.iload_n 2, 1) := by decide +kernel
theorem dX5_setFolded_22 : decode cX5_setFolded 22 = .ok (.aload_n 0, 1) := by decide +kernel
theorem dX5_setFolded_23 : decode cX5_setFolded 23 = .ok (.getfield 30, 3) := by decide +kernel
theorem dX5_setFolded_26 : decode cX5_setFolded 26 = .ok (.iload_n 2, 1) := by decide +kernel
theorem dX5_setFolded_27 : decode cX5_setFolded 27 = .ok (.iaload, 1) := by decide +kernel
theorem dX5_setFolded_28 : decode cX5_setFolded 28 = .ok (.iload_n 1, 1) := by decide +kernel
theorem dX5_setFolded_29 : decode cX5_setFolded 29 = .ok (.iload_n 3, 1) := by decide +kernel
theorem dX5_setFolded_30 : decode cX5_setFolded 30 = .ok (.invokestatic 59, 3) := by decide +kernel
theorem dX5_setFolded_33 : decode cX5_setFolded 33 = .ok (.iastore, 1) := by decide +kernel
theorem dX5_setFolded_34 : decode cX5_setFolded 34 = .ok (.return_, 1) := by decide +kernel
theorem dX5_withBit_0 : decode cX5_withBit 0 = .ok (.iload_n 2, 1) := by decide +kernel
theorem dX5_withBit_1 : decode cX5_withBit 1 = .ok (.ifCond .eq 11, 3) := by decide +kernel
theorem dX5_withBit_4 : decode cX5_withBit 4 = .ok (.iload_n 0, 1) := by decide +kernel
theorem dX5_withBit_5 : decode cX5_withBit 5 = .ok (.iconst 1, 1) := by decide +kernel
theorem dX5_withBit_6 : decode cX5_withBit 6 = .ok (.iload_n 1, 1) := by decide +kernel
theorem dX5_withBit_7 : decode cX5_withBit 7 = .ok (.ishl, 1) := by decide +kernel
theorem dX5_withBit_8 : decode cX5_withBit 8 = .ok (.ior, 1) := by decide +kernel
theorem dX5_withBit_9 : decode cX5_withBit 9 = .ok (.goto 10, 3) := by decide +kernel
theorem dX5_withBit_12 : decode cX5_withBit 12 = .ok (.iload_n 0, 1) := by decide +kernel
theorem dX5_withBit_13 : decode cX5_withBit 13 = .ok (.iconst 1, 1) := by decide +kernel
theorem dX5_withBit_14 : decode cX5_withBit 14 = .ok (.iload_n 1, 1) := by decide +kernel
theorem dX5_withBit_15 : decode cX5_withBit 15 = .ok (.ishl, 1) := by decide +kernel
theorem dX5_withBit_16 : decode cX5_withBit 16 = .ok (.iconst (-1), 1) := by decide +kernel
theorem dX5_withBit_17 : decode cX5_withBit 17 = .ok (.ixor, 1) := by decide +kernel
theorem dX5_withBit_18 : decode cX5_withBit 18 = .ok (.iand, 1) := by decide +kernel
theorem dX5_withBit_19 : decode cX5_withBit 19 = .ok (.ireturn, 1) := by decide +kernel
theorem dX5_isWed_0 : decode cX5_isWed 0 = .ok (.aload_n 0, 1) := by decide +kernel
theorem dX5_isWed_1 : decode cX5_isWed 1 = .ok (.getfield 27, 3) := by decide +kernel
theorem dX5_isWed_4 : decode cX5_isWed 4 = .ok (.iload_n 1, 1) := by decide +kernel
theorem dX5_isWed_5 : decode cX5_isWed 5 = .ok (.iaload, 1) := by decide +kernel
theorem dX5_isWed_6 : decode cX5_isWed 6 = .ok (.iconst (-1), 1) := by decide +kernel
theorem dX5_isWed_7 : decode cX5_isWed 7 = .ok (.if_icmp .eq 7, 3) := by decide +kernel
theorem dX5_isWed_10 : decode cX5_isWed 10 = .ok (.iconst 1, 1) := by decide +kernel
theorem dX5_isWed_11 : decode cX5_isWed 11 = .ok (.goto 4, 3) := by decide +kernel
theorem dX5_isWed_14 : decode cX5_isWed 14 = .ok (.iconst 0, 1) := by decide +kernel
theorem dX5_isWed_15 : decode cX5_isWed 15 = .ok (.ireturn, 1) := by decide +kernel
theorem dX5_join_0 : decode cX5_join 0 = .ok (.aload_n 0, 1) := by decide +kernel
theorem dX5_join_1 : decode cX5_join 1 = .ok (.getfield 27, 3) := by decide +kernel
theorem dX5_join_4 : decode cX5_join 4 = .ok (.iload_n 1, 1) := by decide +kernel
theorem dX5_join_5 : decode cX5_join 5 = .ok (.iload_n 2, 1) := by decide +kernel
theorem dX5_join_6 : decode cX5_join 6 = .ok (.iastore, 1) := by decide +kernel
theorem dX5_join_7 : decode cX5_join 7 = .ok (.aload_n 0, 1) := by decide +kernel
theorem dX5_join_8 : decode cX5_join 8 = .ok (.getfield 27, 3) := by decide +kernel
theorem dX5_join_11 : decode cX5_join 11 = .ok (.iload_n 2, 1) := by decide +kernel
theorem dX5_join_12 : decode cX5_join 12 = .ok (.iload_n 1, 1) := by decide +kernel
theorem dX5_join_13 : decode cX5_join 13 = .ok (.iastore, 1) := by decide +kernel
theorem dX5_join_14 : decode cX5_join 14 = .ok (.return_, 1) := by decide +kernel
theorem dX5_divorce_0 : decode cX5_divorce 0 = .ok (.aload_n 0, 1) := by decide +kernel
theorem dX5_divorce_1 : decode cX5_divorce 1 = .ok (.getfield 27, 3) := by decide +kernel
theorem dX5_divorce_4 : decode cX5_divorce 4 = .ok (.iload_n 1, 1) := by decide +kernel
theorem dX5_divorce_5 : decode cX5_divorce 5 = .ok (.iconst (-1), 1) := by decide +kernel
theorem dX5_divorce_6 : decode cX5_divorce 6 = .ok (.iastore, 1) := by decide +kernel
theorem dX5_divorce_7 : decode cX5_divorce 7 = .ok (.aload_n 0, 1) := by decide +kernel
theorem dX5_divorce_8 : decode cX5_divorce 8 = .ok (.getfield 27, 3) := by decide +kernel
theorem dX5_divorce_11 : decode cX5_divorce 11 = .ok (.iload_n 2, 1) := by decide +kernel
theorem dX5_divorce_12 : decode cX5_divorce 12 = .ok (.iconst (-1), 1) := by decide +kernel
theorem dX5_divorce_13 : decode cX5_divorce 13 = .ok (.iastore, 1) := by decide +kernel
theorem dX5_divorce_14 : decode cX5_divorce 14 = .ok (.return_, 1) := by decide +kernel
theorem dX5_wedBits_0 : decode cX5_wedBits 0 = .ok (.iconst 0, 1) := by decide +kernel
theorem dX5_wedBits_1 : decode cX5_wedBits 1 = .ok (.istore_n 1, 1) := by decide +kernel
theorem dX5_wedBits_2 : decode cX5_wedBits 2 = .ok (.iconst 0, 1) := by decide +kernel
theorem dX5_wedBits_3 : decode cX5_wedBits 3 = .ok (.istore_n 2, 1) := by decide +kernel
theorem dX5_wedBits_4 : decode cX5_wedBits 4 = .ok (.iload_n 2, 1) := by decide +kernel
theorem dX5_wedBits_5 : decode cX5_wedBits 5 = .ok (.bipush 8, 2) := by decide +kernel
theorem dX5_wedBits_7 : decode cX5_wedBits 7 = .ok (.if_icmp .ge 23, 3) := by decide +kernel
theorem dX5_wedBits_10 : decode cX5_wedBits 10 = .ok (.aload_n 0, 1) := by decide +kernel
theorem dX5_wedBits_11 : decode cX5_wedBits 11 = .ok (.iload_n 2, 1) := by decide +kernel
theorem dX5_wedBits_12 : decode cX5_wedBits 12 = .ok (.invokevirtual 63, 3) := by decide +kernel
theorem dX5_wedBits_15 : decode cX5_wedBits 15 = .ok (.ifCond .eq 9, 3) := by decide +kernel
theorem dX5_wedBits_18 : decode cX5_wedBits 18 = .ok (.iload_n 1, 1) := by decide +kernel
theorem dX5_wedBits_19 : decode cX5_wedBits 19 = .ok (.iconst 1, 1) := by decide +kernel
theorem dX5_wedBits_20 : decode cX5_wedBits 20 = .ok (.iload_n 2, 1) := by decide +kernel
theorem dX5_wedBits_21 : decode cX5_wedBits 21 = .ok (.ishl, 1) := by decide +kernel
theorem dX5_wedBits_22 : decode cX5_wedBits 22 = .ok (.ior, 1) := by decide +kernel
theorem dX5_wedBits_23 : decode cX5_wedBits 23 = .ok (.istore_n 1, 1) := by decide +kernel
theorem dX5_wedBits_24 : decode cX5_wedBits 24 = .ok (.iinc 2 1, 3) := by decide +kernel
theorem dX5_wedBits_27 : decode cX5_wedBits 27 = .ok (.goto (-23), 3) := by decide +kernel
theorem dX5_wedBits_30 : decode cX5_wedBits 30 = .ok (.iload_n 1, 1) := by decide +kernel
theorem dX5_wedBits_31 : decode cX5_wedBits 31 = .ok (.ireturn, 1) := by decide +kernel
theorem dX5_couples_0 : decode cX5_couples 0 = .ok (.aload_n 0, 1) := by decide +kernel
theorem dX5_couples_1 : decode cX5_couples 1 = .ok (.invokevirtual 66, 3) := by decide +kernel
theorem dX5_couples_4 : decode cX5_couples 4 = .ok (.bipush 15, 2) := by decide +kernel
theorem dX5_couples_6 : decode cX5_couples 6 = .ok (.iand, 1) := by decide +kernel
theorem dX5_couples_7 : decode cX5_couples 7 = .ok (.invokestatic 70, 3) := by decide +kernel
theorem dX5_couples_10 : decode cX5_couples 10 = .ok (.ireturn, 1) := by decide +kernel
theorem dX5_foldings_0 : decode cX5_foldings 0 = .ok (.iconst 0, 1) := by decide +kernel
theorem dX5_foldings_1 : decode cX5_foldings 1 = .ok (.istore_n 1, 1) := by decide +kernel
theorem dX5_foldings_2 : decode cX5_foldings 2 = .ok (.iconst 0, 1) := by decide +kernel
theorem dX5_foldings_3 : decode cX5_foldings 3 = .ok (.istore_n 2, 1) := by decide +kernel
theorem dX5_foldings_4 : decode cX5_foldings 4 = .ok (.iload_n 2, 1) := by decide +kernel
theorem dX5_foldings_5 : decode cX5_foldings 5 = .ok (.iconst 4, 1) := by decide +kernel
theorem dX5_foldings_6 : decode cX5_foldings 6 = .ok (.if_icmp .ge 21, 3) := by decide +kernel
theorem dX5_foldings_9 : decode cX5_foldings 9 = .ok (.iload_n 1, 1) := by decide +kernel
theorem dX5_foldings_10 : decode cX5_foldings 10 = .ok (.aload_n 0, 1) := by decide +kernel
theorem dX5_foldings_11 : decode cX5_foldings 11 = .ok (.getfield 30, 3) := by decide +kernel
theorem dX5_foldings_14 : decode cX5_foldings 14 = .ok (.iload_n 2, 1) := by decide +kernel
theorem dX5_foldings_15 : decode cX5_foldings 15 = .ok (.iaload, 1) := by decide +kernel
theorem dX5_foldings_16 : decode cX5_foldings 16 = .ok (.invokestatic 70, 3) := by decide +kernel
theorem dX5_foldings_19 : decode cX5_foldings 19 = .ok (.iadd, 1) := by decide +kernel
theorem dX5_foldings_20 : decode cX5_foldings 20 = .ok (.istore_n 1, 1) := by decide +kernel
theorem dX5_foldings_21 : decode cX5_foldings 21 = .ok (.iinc 2 1, 3) := by decide +kernel
theorem dX5_foldings_24 : decode cX5_foldings 24 = .ok (.goto (-20), 3) := by decide +kernel
theorem dX5_foldings_27 : decode cX5_foldings 27 = .ok (.iload_n 1, 1) := by decide +kernel
theorem dX5_foldings_28 : decode cX5_foldings 28 = .ok (.ireturn, 1) := by decide +kernel
theorem dX5_swapPens_0 : decode cX5_swapPens 0 = .ok (.aload_n 0, 1) := by decide +kernel
theorem dX5_swapPens_1 : decode cX5_swapPens 1 = .ok (.getfield 24, 3) := by decide +kernel
theorem dX5_swapPens_4 : decode cX5_swapPens 4 = .ok (.iload_n 1, 1) := by decide +kernel
theorem dX5_swapPens_5 : decode cX5_swapPens 5 = .ok (.iaload, 1) := by decide +kernel
theorem dX5_swapPens_6 : decode cX5_swapPens 6 = .ok (.istore_n 3, 1) := by decide +kernel
theorem dX5_swapPens_7 : decode cX5_swapPens 7 = .ok (.aload_n 0, 1) := by decide +kernel
theorem dX5_swapPens_8 : decode cX5_swapPens 8 = .ok (.getfield 24, 3) := by decide +kernel
theorem dX5_swapPens_11 : decode cX5_swapPens 11 = .ok (.iload_n 1, 1) := by decide +kernel
theorem dX5_swapPens_12 : decode cX5_swapPens 12 = .ok (.aload_n 0, 1) := by decide +kernel
theorem dX5_swapPens_13 : decode cX5_swapPens 13 = .ok (.getfield 24, 3) := by decide +kernel
theorem dX5_swapPens_16 : decode cX5_swapPens 16 = .ok (.iload_n 2, 1) := by decide +kernel
theorem dX5_swapPens_17 : decode cX5_swapPens 17 = .ok (.iaload, 1) := by decide +kernel
theorem dX5_swapPens_18 : decode cX5_swapPens 18 = .ok (.iastore, 1) := by decide +kernel
theorem dX5_swapPens_19 : decode cX5_swapPens 19 = .ok (.aload_n 0, 1) := by decide +kernel
theorem dX5_swapPens_20 : decode cX5_swapPens 20 = .ok (.getfield 24, 3) := by decide +kernel
theorem dX5_swapPens_23 : decode cX5_swapPens 23 = .ok (.iload_n 2, 1) := by decide +kernel
theorem dX5_swapPens_24 : decode cX5_swapPens 24 = .ok (.iload_n 3, 1) := by decide +kernel
theorem dX5_swapPens_25 : decode cX5_swapPens 25 = .ok (.iastore, 1) := by decide +kernel
theorem dX5_swapPens_26 : decode cX5_swapPens 26 = .ok (.return_, 1) := by decide +kernel
theorem dX5_shows_0 : decode cX5_shows 0 = .ok (.iload_n 2, 1) := by decide +kernel
theorem dX5_shows_1 : decode cX5_shows 1 = .ok (.iconst 2, 1) := by decide +kernel
theorem dX5_shows_2 : decode cX5_shows 2 = .ok (.if_icmp .ne 15, 3) := by decide +kernel
theorem dX5_shows_5 : decode cX5_shows 5 = .ok (.aload_n 0, 1) := by decide +kernel
theorem dX5_shows_6 : decode cX5_shows 6 = .ok (.getfield 21, 3) := by decide +kernel
theorem dX5_shows_9 : decode cX5_shows 9 = .ok (.aload_n 0, 1) := by decide +kernel
theorem dX5_shows_10 : decode cX5_shows 10 = .ok (.getfield 24, 3) := by decide +kernel
theorem dX5_shows_13 : decode cX5_shows 13 = .ok (.iload_n 1, 1) := by decide +kernel
theorem dX5_shows_14 : decode cX5_shows 14 = .ok (.iaload, 1) := by decide +kernel
theorem dX5_shows_15 : decode cX5_shows 15 = .ok (.iaload, 1) := by decide +kernel
theorem dX5_shows_16 : decode cX5_shows 16 = .ok (.ireturn, 1) := by decide +kernel
theorem dX5_shows_17 : decode cX5_shows 17 = .ok (.iload_n 2, 1) := by decide +kernel
theorem dX5_shows_18 : decode cX5_shows 18 = .ok (.ifCond .ne 10, 3) := by decide +kernel
theorem dX5_shows_21 : decode cX5_shows 21 = .ok (.aload_n 0, 1) := by decide +kernel
theorem dX5_shows_22 : decode cX5_shows 22 = .ok (.getfield 15, 3) := by decide +kernel
theorem dX5_shows_25 : decode cX5_shows 25 = .ok (.goto 7, 3) := by decide +kernel
theorem dX5_shows_28 : decode cX5_shows 28 = .ok (.aload_n 0, 1) := by decide +kernel
theorem dX5_shows_29 : decode cX5_shows 29 = .ok (.getfield 18, 3) := by decide +kernel
theorem dX5_shows_32 : decode cX5_shows 32 = .ok (.astore_n 3, 1) := by decide +kernel
theorem dX5_shows_33 : decode cX5_shows 33 = .ok (.aload_n 0, 1) := by decide +kernel
theorem dX5_shows_34 : decode cX5_shows 34 = .ok (.iload_n 1, 1) := by decide +kernel
theorem dX5_shows_35 : decode cX5_shows 35 = .ok (.invokevirtual 76, 3) := by decide +kernel
theorem dX5_shows_38 : decode cX5_shows 38 = .ok (.istore 4, 2) := by decide +kernel
theorem dX5_shows_40 : decode cX5_shows 40 = .ok (.aload_n 3, 1) := by decide +kernel
theorem dX5_shows_41 : decode cX5_shows 41 = .ok (.aload_n 0, 1) := by decide +kernel
theorem dX5_shows_42 : decode cX5_shows 42 = .ok (.getfield 24, 3) := by decide +kernel
theorem dX5_shows_45 : decode cX5_shows 45 = .ok (.iload_n 1, 1) := by decide +kernel
theorem dX5_shows_46 : decode cX5_shows 46 = .ok (.iaload, 1) := by decide +kernel
theorem dX5_shows_47 : decode cX5_shows 47 = .ok (.iaload, 1) := by decide +kernel
theorem dX5_shows_48 : decode cX5_shows 48 = .ok (.istore 5, 2) := by decide +kernel
theorem dX5_shows_50 : decode cX5_shows 50 = .ok (.iload 4, 2) := by decide +kernel
theorem dX5_shows_52 : decode cX5_shows 52 = .ok (.iconst (-1), 1) := by decide +kernel
theorem dX5_shows_53 : decode cX5_shows 53 = .ok (.if_icmp .ne 8, 3) := by decide +kernel
theorem dX5_shows_56 : decode cX5_shows 56 = .ok (.iload 5, 2) := by decide +kernel
theorem dX5_shows_58 : decode cX5_shows 58 = .ok (.goto 17, 3) := by decide +kernel
theorem dX5_shows_61 : decode cX5_shows 61 = .ok (.iload 5, 2) := by decide +kernel
theorem dX5_shows_63 : decode cX5_shows 63 = .ok (.aload_n 3, 1) := by decide +kernel
theorem dX5_shows_64 : decode cX5_shows 64 = .ok (.aload_n 0, 1) := by decide +kernel
theorem dX5_shows_65 : decode cX5_shows 65 = .ok (.getfield 24, 3) := by decide +kernel
theorem dX5_shows_68 : decode cX5_shows 68 = .ok (.iload 4, 2) := by decide +kernel
theorem dX5_shows_70 : decode cX5_shows 70 = .ok (.iaload, 1) := by decide +kernel
theorem dX5_shows_71 : decode cX5_shows 71 = .ok (.iaload, 1) := by decide +kernel
theorem dX5_shows_72 : decode cX5_shows 72 = .ok (.iadd, 1) := by decide +kernel
theorem dX5_shows_73 : decode cX5_shows 73 = .ok (.iconst 2, 1) := by decide +kernel
theorem dX5_shows_74 : decode cX5_shows 74 = .ok (.idiv, 1) := by decide +kernel
theorem dX5_shows_75 : decode cX5_shows 75 = .ok (.ireturn, 1) := by decide +kernel
theorem dX5_runsWith_0 : decode cX5_runsWith 0 = .ok (.aload_n 0, 1) := by decide +kernel
theorem dX5_runsWith_1 : decode cX5_runsWith 1 = .ok (.iload_n 1, 1) := by decide +kernel
theorem dX5_runsWith_2 : decode cX5_runsWith 2 = .ok (.iconst 1, 1) := by decide +kernel
theorem dX5_runsWith_3 : decode cX5_runsWith 3 = .ok (.isub, 1) := by decide +kernel
theorem dX5_runsWith_4 : decode cX5_runsWith 4 = .ok (.invokevirtual 79, 3) := by decide +kernel
theorem dX5_runsWith_7 : decode cX5_runsWith 7 = .ok (.ifCond .eq 27, 3) := by decide +kernel
theorem dX5_runsWith_10 : decode cX5_runsWith 10 = .ok (.iload_n 1, 1) := by decide +kernel
theorem dX5_runsWith_11 : decode cX5_runsWith 11 = .ok (.iconst 1, 1) := by decide +kernel
theorem dX5_runsWith_12 : decode cX5_runsWith 12 = .ok (.isub, 1) := by decide +kernel
theorem dX5_runsWith_13 : decode cX5_runsWith 13 = .ok (.iload_n 1, 1) := by decide +kernel
theorem dX5_runsWith_14 : decode cX5_runsWith 14 = .ok (.invokestatic 82, 3) := by decide +kernel
theorem dX5_runsWith_17 : decode cX5_runsWith 17 = .ok (.ifCond .eq 17, 3) := by decide +kernel
theorem dX5_runsWith_20 : decode cX5_runsWith 20 = .ok (.aload_n 0, 1) := by decide +kernel
theorem dX5_runsWith_21 : decode cX5_runsWith 21 = .ok (.iload_n 1, 1) := by decide +kernel
theorem dX5_runsWith_22 : decode cX5_runsWith 22 = .ok (.iconst 1, 1) := by decide +kernel
theorem dX5_runsWith_23 : decode cX5_runsWith 23 = .ok (.isub, 1) := by decide +kernel
theorem dX5_runsWith_24 : decode cX5_runsWith 24 = .ok (.invokevirtual 86, 3) := by decide +kernel
theorem dX5_runsWith_27 : decode cX5_runsWith 27 = .ok (.ifCond .eq 7, 3) := by decide +kernel
theorem dX5_runsWith_30 : decode cX5_runsWith 30 = .ok (.iload_n 1, 1) := by decide +kernel
theorem dX5_runsWith_31 : decode cX5_runsWith 31 = .ok (.iconst 1, 1) := by decide +kernel
theorem dX5_runsWith_32 : decode cX5_runsWith 32 = .ok (.isub, 1) := by decide +kernel
theorem dX5_runsWith_33 : decode cX5_runsWith 33 = .ok (.ireturn, 1) := by decide +kernel
theorem dX5_runsWith_34 : decode cX5_runsWith 34 = .ok (.aload_n 0, 1) := by decide +kernel
theorem dX5_runsWith_35 : decode cX5_runsWith 35 = .ok (.iload_n 1, 1) := by decide +kernel
theorem dX5_runsWith_36 : decode cX5_runsWith 36 = .ok (.invokevirtual 86, 3) := by decide +kernel
theorem dX5_runsWith_39 : decode cX5_runsWith 39 = .ok (.ifCond .eq 27, 3) := by decide +kernel
theorem dX5_runsWith_42 : decode cX5_runsWith 42 = .ok (.aload_n 0, 1) := by decide +kernel
theorem dX5_runsWith_43 : decode cX5_runsWith 43 = .ok (.iload_n 1, 1) := by decide +kernel
theorem dX5_runsWith_44 : decode cX5_runsWith 44 = .ok (.iconst 1, 1) := by decide +kernel
theorem dX5_runsWith_45 : decode cX5_runsWith 45 = .ok (.iadd, 1) := by decide +kernel
theorem dX5_runsWith_46 : decode cX5_runsWith 46 = .ok (.invokevirtual 79, 3) := by decide +kernel
theorem dX5_runsWith_49 : decode cX5_runsWith 49 = .ok (.ifCond .eq 17, 3) := by decide +kernel
theorem dX5_runsWith_52 : decode cX5_runsWith 52 = .ok (.iload_n 1, 1) := by decide +kernel
theorem dX5_runsWith_53 : decode cX5_runsWith 53 = .ok (.iload_n 1, 1) := by decide +kernel
theorem dX5_runsWith_54 : decode cX5_runsWith 54 = .ok (.iconst 1, 1) := by decide +kernel
theorem dX5_runsWith_55 : decode cX5_runsWith 55 = .ok (.iadd, 1) := by decide +kernel
theorem dX5_runsWith_56 : decode cX5_runsWith 56 = .ok (.invokestatic 82, 3) := by decide +kernel
theorem dX5_runsWith_59 : decode cX5_runsWith 59 = .ok (.ifCond .eq 7, 3) := by decide +kernel
theorem dX5_runsWith_62 : decode cX5_runsWith 62 = .ok (.iload_n 1, 1) := by decide +kernel
theorem dX5_runsWith_63 : decode cX5_runsWith 63 = .ok (.iconst 1, 1) := by decide +kernel
theorem dX5_runsWith_64 : decode cX5_runsWith 64 = .ok (.iadd, 1) := by decide +kernel
theorem dX5_runsWith_65 : decode cX5_runsWith 65 = .ok (.ireturn, 1) := by decide +kernel
theorem dX5_runsWith_66 : decode cX5_runsWith 66 = .ok (.iconst (-1), 1) := by decide +kernel
theorem dX5_runsWith_67 : decode cX5_runsWith 67 = .ok (.ireturn, 1) := by decide +kernel
theorem dX5_unlike_0 : decode cX5_unlike 0 = .ok (.aload_n 0, 1) := by decide +kernel
theorem dX5_unlike_1 : decode cX5_unlike 1 = .ok (.getfield 15, 3) := by decide +kernel
theorem dX5_unlike_4 : decode cX5_unlike 4 = .ok (.iload_n 1, 1) := by decide +kernel
theorem dX5_unlike_5 : decode cX5_unlike 5 = .ok (.iaload, 1) := by decide +kernel
theorem dX5_unlike_6 : decode cX5_unlike 6 = .ok (.aload_n 0, 1) := by decide +kernel
theorem dX5_unlike_7 : decode cX5_unlike 7 = .ok (.getfield 15, 3) := by decide +kernel
theorem dX5_unlike_10 : decode cX5_unlike 10 = .ok (.iload_n 2, 1) := by decide +kernel
theorem dX5_unlike_11 : decode cX5_unlike 11 = .ok (.iaload, 1) := by decide +kernel
theorem dX5_unlike_12 : decode cX5_unlike 12 = .ok (.isub, 1) := by decide +kernel
theorem dX5_unlike_13 : decode cX5_unlike 13 = .ok (.invokestatic 89, 3) := by decide +kernel
theorem dX5_unlike_16 : decode cX5_unlike 16 = .ok (.aload_n 0, 1) := by decide +kernel
theorem dX5_unlike_17 : decode cX5_unlike 17 = .ok (.getfield 18, 3) := by decide +kernel
theorem dX5_unlike_20 : decode cX5_unlike 20 = .ok (.iload_n 1, 1) := by decide +kernel
theorem dX5_unlike_21 : decode cX5_unlike 21 = .ok (.iaload, 1) := by decide +kernel
theorem dX5_unlike_22 : decode cX5_unlike 22 = .ok (.aload_n 0, 1) := by decide +kernel
theorem dX5_unlike_23 : decode cX5_unlike 23 = .ok (.getfield 18, 3) := by decide +kernel
theorem dX5_unlike_26 : decode cX5_unlike 26 = .ok (.iload_n 2, 1) := by decide +kernel
theorem dX5_unlike_27 : decode cX5_unlike 27 = .ok (.iaload, 1) := by decide +kernel
theorem dX5_unlike_28 : decode cX5_unlike 28 = .ok (.isub, 1) := by decide +kernel
theorem dX5_unlike_29 : decode cX5_unlike 29 = .ok (.invokestatic 89, 3) := by decide +kernel
theorem dX5_unlike_32 : decode cX5_unlike 32 = .ok (.iadd, 1) := by decide +kernel
theorem dX5_unlike_33 : decode cX5_unlike 33 = .ok (.ireturn, 1) := by decide +kernel
theorem dX5_couplesAlike_0 : decode cX5_couplesAlike 0 = .ok (.iconst 0, 1) := by decide +kernel
theorem dX5_couplesAlike_1 : decode cX5_couplesAlike 1 = .ok (.istore_n 1, 1) := by decide +kernel
theorem dX5_couplesAlike_2 : decode cX5_couplesAlike 2 = .ok (.iload_n 1, 1) := by decide +kernel
theorem dX5_couplesAlike_3 : decode cX5_couplesAlike 3 = .ok (.iconst 4, 1) := by decide +kernel
theorem dX5_couplesAlike_4 : decode cX5_couplesAlike 4 = .ok (.if_icmp .ge 33, 3) := by decide +kernel
theorem dX5_couplesAlike_7 : decode cX5_couplesAlike 7 = .ok (.aload_n 0, 1) := by decide +kernel
theorem dX5_couplesAlike_8 : decode cX5_couplesAlike 8 = .ok (.iload_n 1, 1) := by decide +kernel
theorem dX5_couplesAlike_9 : decode cX5_couplesAlike 9 = .ok (.invokevirtual 63, 3) := by decide +kernel
theorem dX5_couplesAlike_12 : decode cX5_couplesAlike 12 = .ok (.ifCond .eq 19, 3) := by decide +kernel
theorem dX5_couplesAlike_15 : decode cX5_couplesAlike 15 = .ok (.aload_n 0, 1) := by decide +kernel
theorem dX5_couplesAlike_16 : decode cX5_couplesAlike 16 = .ok (.iload_n 1, 1) := by decide +kernel
theorem dX5_couplesAlike_17 : decode cX5_couplesAlike 17 = .ok (.aload_n 0, 1) := by decide +kernel
theorem dX5_couplesAlike_18 : decode cX5_couplesAlike 18 = .ok (.getfield 27, 3) := by decide +kernel
theorem dX5_couplesAlike_21 : decode cX5_couplesAlike 21 = .ok (.iload_n 1, 1) := by decide +kernel
theorem dX5_couplesAlike_22 : decode cX5_couplesAlike 22 = .ok (.iaload, 1) := by decide +kernel
theorem dX5_couplesAlike_23 : decode cX5_couplesAlike 23 = .ok (.invokevirtual 94, 3) := by decide +kernel
theorem dX5_couplesAlike_26 : decode cX5_couplesAlike 26 = .ok (.ifCond .eq 5, 3) := by decide +kernel
theorem dX5_couplesAlike_29 : decode cX5_couplesAlike 29 = .ok (.iconst 0, 1) := by decide +kernel
theorem dX5_couplesAlike_30 : decode cX5_couplesAlike 30 = .ok (.ireturn, 1) := by decide +kernel
theorem dX5_couplesAlike_31 : decode cX5_couplesAlike 31 = .ok (.iinc 1 1, 3) := by decide +kernel
theorem dX5_couplesAlike_34 : decode cX5_couplesAlike 34 = .ok (.goto (-32), 3) := by decide +kernel
theorem dX5_couplesAlike_37 : decode cX5_couplesAlike 37 = .ok (.iconst 1, 1) := by decide +kernel
theorem dX5_couplesAlike_38 : decode cX5_couplesAlike 38 = .ok (.ireturn, 1) := by decide +kernel
theorem dX5_passYear_0 : decode cX5_passYear 0 = .ok (.iconst 0, 1) := by decide +kernel
theorem dX5_passYear_1 : decode cX5_passYear 1 = .ok (.istore_n 1, 1) := by decide +kernel
theorem dX5_passYear_2 : decode cX5_passYear 2 = .ok (.iload_n 1, 1) := by decide +kernel
theorem dX5_passYear_3 : decode cX5_passYear 3 = .ok (.iconst 4, 1) := by decide +kernel
theorem dX5_passYear_4 : decode cX5_passYear 4 = .ok (.if_icmp .ge 45, 3) := by decide +kernel
theorem dX5_passYear_7 : decode cX5_passYear 7 = .ok (.aload_n 0, 1) := by decide +kernel
theorem dX5_passYear_8 : decode cX5_passYear 8 = .ok (.iload_n 1, 1) := by decide +kernel
theorem dX5_passYear_9 : decode cX5_passYear 9 = .ok (.invokevirtual 63, 3) := by decide +kernel
theorem dX5_passYear_12 : decode cX5_passYear 12 = .ok (.ifCond .eq 31, 3) := by decide +kernel
theorem dX5_passYear_15 : decode cX5_passYear 15 = .ok (.aload_n 0, 1) := by decide +kernel
theorem dX5_passYear_16 : decode cX5_passYear 16 = .ok (.getfield 15, 3) := by decide +kernel
theorem dX5_passYear_19 : decode cX5_passYear 19 = .ok (.iload_n 1, 1) := by decide +kernel
theorem dX5_passYear_20 : decode cX5_passYear 20 = .ok (.aload_n 0, 1) := by decide +kernel
theorem dX5_passYear_21 : decode cX5_passYear 21 = .ok (.getfield 27, 3) := by decide +kernel
theorem dX5_passYear_24 : decode cX5_passYear 24 = .ok (.iload_n 1, 1) := by decide +kernel
theorem dX5_passYear_25 : decode cX5_passYear 25 = .ok (.iaload, 1) := by decide +kernel
theorem dX5_passYear_26 : decode cX5_passYear 26 = .ok (.invokestatic 98, 3) := by decide +kernel
theorem dX5_passYear_29 : decode cX5_passYear 29 = .ok (.aload_n 0, 1) := by decide +kernel
theorem dX5_passYear_30 : decode cX5_passYear 30 = .ok (.getfield 18, 3) := by decide +kernel
theorem dX5_passYear_33 : decode cX5_passYear 33 = .ok (.iload_n 1, 1) := by decide +kernel
theorem dX5_passYear_34 : decode cX5_passYear 34 = .ok (.aload_n 0, 1) := by decide +kernel
theorem dX5_passYear_35 : decode cX5_passYear 35 = .ok (.getfield 27, 3) := by decide +kernel
theorem dX5_passYear_38 : decode cX5_passYear 38 = .ok (.iload_n 1, 1) := by decide +kernel
theorem dX5_passYear_39 : decode cX5_passYear 39 = .ok (.iaload, 1) := by decide +kernel
theorem dX5_passYear_40 : decode cX5_passYear 40 = .ok (.invokestatic 98, 3) := by decide +kernel
theorem dX5_passYear_43 : decode cX5_passYear 43 = .ok (.iinc 1 1, 3) := by decide +kernel
theorem dX5_passYear_46 : decode cX5_passYear 46 = .ok (.goto (-44), 3) := by decide +kernel
theorem dX5_passYear_49 : decode cX5_passYear 49 = .ok (.aload_n 0, 1) := by decide +kernel
theorem dX5_passYear_50 : decode cX5_passYear 50 = .ok (.dup, 1) := by decide +kernel
theorem dX5_passYear_51 : decode cX5_passYear 51 = .ok (.getfield 46, 3) := by decide +kernel
theorem dX5_passYear_54 : decode cX5_passYear 54 = .ok (.iconst 1, 1) := by decide +kernel
theorem dX5_passYear_55 : decode cX5_passYear 55 = .ok (.iadd, 1) := by decide +kernel
theorem dX5_passYear_56 : decode cX5_passYear 56 = .ok (.putfield 46, 3) := by decide +kernel
theorem dX5_passYear_59 : decode cX5_passYear 59 = .ok (.return_, 1) := by decide +kernel
theorem dX5_comeNearer_0 : decode cX5_comeNearer 0 = .ok (.aload_n 0, 1) := by decide +kernel
theorem dX5_comeNearer_1 : decode cX5_comeNearer 1 = .ok (.iload_n 1, 1) := by decide +kernel
theorem dX5_comeNearer_2 : decode cX5_comeNearer 2 = .ok (.iaload, 1) := by decide +kernel
theorem dX5_comeNearer_3 : decode cX5_comeNearer 3 = .ok (.aload_n 0, 1) := by decide +kernel
theorem dX5_comeNearer_4 : decode cX5_comeNearer 4 = .ok (.iload_n 2, 1) := by decide +kernel
theorem dX5_comeNearer_5 : decode cX5_comeNearer 5 = .ok (.iaload, 1) := by decide +kernel
theorem dX5_comeNearer_6 : decode cX5_comeNearer 6 = .ok (.if_icmp .ge 7, 3) := by decide +kernel
theorem dX5_comeNearer_9 : decode cX5_comeNearer 9 = .ok (.iload_n 1, 1) := by decide +kernel
theorem dX5_comeNearer_10 : decode cX5_comeNearer 10 = .ok (.goto 4, 3) := by decide +kernel
theorem dX5_comeNearer_13 : decode cX5_comeNearer 13 = .ok (.iload_n 2, 1) := by decide +kernel
theorem dX5_comeNearer_14 : decode cX5_comeNearer 14 = .ok (.istore_n 3, 1) := by decide +kernel
theorem dX5_comeNearer_15 : decode cX5_comeNearer 15 = .ok (.iload_n 3, 1) := by decide +kernel
theorem dX5_comeNearer_16 : decode cX5_comeNearer 16 = .ok (.iload_n 1, 1) := by decide +kernel
theorem dX5_comeNearer_17 : decode cX5_comeNearer 17 = .ok (.if_icmp .ne 7, 3) := by decide +kernel
theorem dX5_comeNearer_20 : decode cX5_comeNearer 20 = .ok (.iload_n 2, 1) := by decide +kernel
theorem dX5_comeNearer_21 : decode cX5_comeNearer 21 = .ok (.goto 4, 3) := by decide +kernel
theorem dX5_comeNearer_24 : decode cX5_comeNearer 24 = .ok (.iload_n 1, 1) := by decide +kernel
theorem dX5_comeNearer_25 : decode cX5_comeNearer 25 = .ok (.istore 4, 2) := by decide +kernel
theorem dX5_comeNearer_27 : decode cX5_comeNearer 27 = .ok (.aload_n 0, 1) := by decide +kernel
theorem dX5_comeNearer_28 : decode cX5_comeNearer 28 = .ok (.iload 4, 2) := by decide +kernel
theorem dX5_comeNearer_30 : decode cX5_comeNearer 30 = .ok (.iaload, 1) := by decide +kernel
theorem dX5_comeNearer_31 : decode cX5_comeNearer 31 = .ok (.aload_n 0, 1) := by decide +kernel
theorem dX5_comeNearer_32 : decode cX5_comeNearer 32 = .ok (.iload_n 3, 1) := by decide +kernel
theorem dX5_comeNearer_33 : decode cX5_comeNearer 33 = .ok (.iaload, 1) := by decide +kernel
theorem dX5_comeNearer_34 : decode cX5_comeNearer 34 = .ok (.isub, 1) := by decide +kernel
theorem dX5_comeNearer_35 : decode cX5_comeNearer 35 = .ok (.istore 5, 2) := by decide +kernel
theorem dX5_comeNearer_37 : decode cX5_comeNearer 37 = .ok (.iload 5, 2) := by decide +kernel
theorem dX5_comeNearer_39 : decode cX5_comeNearer 39 = .ok (.iconst 2, 1) := by decide +kernel
theorem dX5_comeNearer_40 : decode cX5_comeNearer 40 = .ok (.if_icmp .lt 21, 3) := by decide +kernel
theorem dX5_comeNearer_43 : decode cX5_comeNearer 43 = .ok (.aload_n 0, 1) := by decide +kernel
theorem dX5_comeNearer_44 : decode cX5_comeNearer 44 = .ok (.iload_n 3, 1) := by decide +kernel
theorem dX5_comeNearer_45 : decode cX5_comeNearer 45 = .ok (.dup2, 1) := by decide +kernel
theorem dX5_comeNearer_46 : decode cX5_comeNearer 46 = .ok (.iaload, 1) := by decide +kernel
theorem dX5_comeNearer_47 : decode cX5_comeNearer 47 = .ok (.iconst 1, 1) := by decide +kernel
theorem dX5_comeNearer_48 : decode cX5_comeNearer 48 = .ok (.iadd, 1) := by decide +kernel
theorem dX5_comeNearer_49 : decode cX5_comeNearer 49 = .ok (.iastore, 1) := by decide +kernel
theorem dX5_comeNearer_50 : decode cX5_comeNearer 50 = .ok (.aload_n 0, 1) := by decide +kernel
theorem dX5_comeNearer_51 : decode cX5_comeNearer 51 = .ok (.iload 4, 2) := by decide +kernel
theorem dX5_comeNearer_53 : decode cX5_comeNearer 53 = .ok (.dup2, 1) := by decide +kernel
theorem dX5_comeNearer_54 : decode cX5_comeNearer 54 = .ok (.iaload, 1) := by decide +kernel
theorem dX5_comeNearer_55 : decode cX5_comeNearer 55 = .ok (.iconst 1, 1) := by decide +kernel
theorem dX5_comeNearer_56 : decode cX5_comeNearer 56 = .ok (.isub, 1) := by decide +kernel
theorem dX5_comeNearer_57 : decode cX5_comeNearer 57 = .ok (.iastore, 1) := by decide +kernel
theorem dX5_comeNearer_58 : decode cX5_comeNearer 58 = .ok (.goto 16, 3) := by decide +kernel
theorem dX5_comeNearer_61 : decode cX5_comeNearer 61 = .ok (.iload 5, 2) := by decide +kernel
theorem dX5_comeNearer_63 : decode cX5_comeNearer 63 = .ok (.iconst 1, 1) := by decide +kernel
theorem dX5_comeNearer_64 : decode cX5_comeNearer 64 = .ok (.if_icmp .ne 10, 3) := by decide +kernel
theorem dX5_comeNearer_67 : decode cX5_comeNearer 67 = .ok (.aload_n 0, 1) := by decide +kernel
theorem dX5_comeNearer_68 : decode cX5_comeNearer 68 = .ok (.iload_n 3, 1) := by decide +kernel
theorem dX5_comeNearer_69 : decode cX5_comeNearer 69 = .ok (.dup2, 1) := by decide +kernel
theorem dX5_comeNearer_70 : decode cX5_comeNearer 70 = .ok (.iaload, 1) := by decide +kernel
theorem dX5_comeNearer_71 : decode cX5_comeNearer 71 = .ok (.iconst 1, 1) := by decide +kernel
theorem dX5_comeNearer_72 : decode cX5_comeNearer 72 = .ok (.iadd, 1) := by decide +kernel
theorem dX5_comeNearer_73 : decode cX5_comeNearer 73 = .ok (.iastore, 1) := by decide +kernel
theorem dX5_comeNearer_74 : decode cX5_comeNearer 74 = .ok (.return_, 1) := by decide +kernel
theorem dJ6_bitCount_0f7a4_0 : decode cJ6_bitCount_0f7a4 0 = .ok (.iload_n 0, 1) := by decide +kernel
theorem dJ6_bitCount_0f7a4_1 : decode cJ6_bitCount_0f7a4 1 = .ok (.iload_n 0, 1) := by decide +kernel
theorem dJ6_bitCount_0f7a4_2 : decode cJ6_bitCount_0f7a4 2 = .ok (.iconst 1, 1) := by decide +kernel
theorem dJ6_bitCount_0f7a4_3 : decode cJ6_bitCount_0f7a4 3 = .ok (.iushr, 1) := by decide +kernel
theorem dJ6_bitCount_0f7a4_4 : decode cJ6_bitCount_0f7a4 4 = .ok (.ldc_w 265, 3) := by decide +kernel
theorem dJ6_bitCount_0f7a4_7 : decode cJ6_bitCount_0f7a4 7 = .ok (.iand, 1) := by decide +kernel
theorem dJ6_bitCount_0f7a4_8 : decode cJ6_bitCount_0f7a4 8 = .ok (.isub, 1) := by decide +kernel
theorem dJ6_bitCount_0f7a4_9 : decode cJ6_bitCount_0f7a4 9 = .ok (.istore_n 0, 1) := by decide +kernel
theorem dJ6_bitCount_0f7a4_10 : decode cJ6_bitCount_0f7a4 10 = .ok (.iload_n 0, 1) := by decide +kernel
theorem dJ6_bitCount_0f7a4_11 : decode cJ6_bitCount_0f7a4 11 = .ok (.ldc_w 266, 3) := by decide +kernel
theorem dJ6_bitCount_0f7a4_14 : decode cJ6_bitCount_0f7a4 14 = .ok (.iand, 1) := by decide +kernel
theorem dJ6_bitCount_0f7a4_15 : decode cJ6_bitCount_0f7a4 15 = .ok (.iload_n 0, 1) := by decide +kernel
theorem dJ6_bitCount_0f7a4_16 : decode cJ6_bitCount_0f7a4 16 = .ok (.iconst 2, 1) := by decide +kernel
theorem dJ6_bitCount_0f7a4_17 : decode cJ6_bitCount_0f7a4 17 = .ok (.iushr, 1) := by decide +kernel
theorem dJ6_bitCount_0f7a4_18 : decode cJ6_bitCount_0f7a4 18 = .ok (.ldc_w 266, 3) := by decide +kernel
theorem dJ6_bitCount_0f7a4_21 : decode cJ6_bitCount_0f7a4 21 = .ok (.iand, 1) := by decide +kernel
theorem dJ6_bitCount_0f7a4_22 : decode cJ6_bitCount_0f7a4 22 = .ok (.iadd, 1) := by decide +kernel
theorem dJ6_bitCount_0f7a4_23 : decode cJ6_bitCount_0f7a4 23 = .ok (.istore_n 0, 1) := by decide +kernel
theorem dJ6_bitCount_0f7a4_24 : decode cJ6_bitCount_0f7a4 24 = .ok (.iload_n 0, 1) := by decide +kernel
theorem dJ6_bitCount_0f7a4_25 : decode cJ6_bitCount_0f7a4 25 = .ok (.iload_n 0, 1) := by decide +kernel
theorem dJ6_bitCount_0f7a4_26 : decode cJ6_bitCount_0f7a4 26 = .ok (.iconst 4, 1) := by decide +kernel
theorem dJ6_bitCount_0f7a4_27 : decode cJ6_bitCount_0f7a4 27 = .ok (.iushr, 1) := by decide +kernel
theorem dJ6_bitCount_0f7a4_28 : decode cJ6_bitCount_0f7a4 28 = .ok (.iadd, 1) := by decide +kernel
theorem dJ6_bitCount_0f7a4_29 : decode cJ6_bitCount_0f7a4 29 = .ok (.ldc_w 267, 3) := by decide +kernel
theorem dJ6_bitCount_0f7a4_32 : decode cJ6_bitCount_0f7a4 32 = .ok (.iand, 1) := by decide +kernel
theorem dJ6_bitCount_0f7a4_33 : decode cJ6_bitCount_0f7a4 33 = .ok (.istore_n 0, 1) := by decide +kernel
theorem dJ6_bitCount_0f7a4_34 : decode cJ6_bitCount_0f7a4 34 = .ok (.iload_n 0, 1) := by decide +kernel
theorem dJ6_bitCount_0f7a4_35 : decode cJ6_bitCount_0f7a4 35 = .ok (.iload_n 0, 1) := by decide +kernel
theorem dJ6_bitCount_0f7a4_36 : decode cJ6_bitCount_0f7a4 36 = .ok (.bipush 8, 2) := by decide +kernel
theorem dJ6_bitCount_0f7a4_38 : decode cJ6_bitCount_0f7a4 38 = .ok (.iushr, 1) := by decide +kernel
theorem dJ6_bitCount_0f7a4_39 : decode cJ6_bitCount_0f7a4 39 = .ok (.iadd, 1) := by decide +kernel
theorem dJ6_bitCount_0f7a4_40 : decode cJ6_bitCount_0f7a4 40 = .ok (.istore_n 0, 1) := by decide +kernel
theorem dJ6_bitCount_0f7a4_41 : decode cJ6_bitCount_0f7a4 41 = .ok (.iload_n 0, 1) := by decide +kernel
theorem dJ6_bitCount_0f7a4_42 : decode cJ6_bitCount_0f7a4 42 = .ok (.iload_n 0, 1) := by decide +kernel
theorem dJ6_bitCount_0f7a4_43 : decode cJ6_bitCount_0f7a4 43 = .ok (.bipush 16, 2) := by decide +kernel
theorem dJ6_bitCount_0f7a4_45 : decode cJ6_bitCount_0f7a4 45 = .ok (.iushr, 1) := by decide +kernel
theorem dJ6_bitCount_0f7a4_46 : decode cJ6_bitCount_0f7a4 46 = .ok (.iadd, 1) := by decide +kernel
theorem dJ6_bitCount_0f7a4_47 : decode cJ6_bitCount_0f7a4 47 = .ok (.istore_n 0, 1) := by decide +kernel
theorem dJ6_bitCount_0f7a4_48 : decode cJ6_bitCount_0f7a4 48 = .ok (.iload_n 0, 1) := by decide +kernel
theorem dJ6_bitCount_0f7a4_49 : decode cJ6_bitCount_0f7a4 49 = .ok (.bipush 63, 2) := by decide +kernel
theorem dJ6_bitCount_0f7a4_51 : decode cJ6_bitCount_0f7a4 51 = .ok (.iand, 1) := by decide +kernel
theorem dJ6_bitCount_0f7a4_52 : decode cJ6_bitCount_0f7a4 52 = .ok (.ireturn, 1) := by decide +kernel
theorem dJ9_abs_0f7a4_0 : decode cJ9_abs_0f7a4 0 = .ok (.iload_n 0, 1) := by decide +kernel
theorem dJ9_abs_0f7a4_1 : decode cJ9_abs_0f7a4 1 = .ok (.ifCond .ge 8, 3) := by decide +kernel
theorem dJ9_abs_0f7a4_4 : decode cJ9_abs_0f7a4 4 = .ok (.iload_n 0, 1) := by decide +kernel
theorem dJ9_abs_0f7a4_5 : decode cJ9_abs_0f7a4 5 = .ok (.ineg, 1) := by decide +kernel
theorem dJ9_abs_0f7a4_6 : decode cJ9_abs_0f7a4 6 = .ok (.goto 4, 3) := by decide +kernel
theorem dJ9_abs_0f7a4_9 : decode cJ9_abs_0f7a4 9 = .ok (.iload_n 0, 1) := by decide +kernel
theorem dJ9_abs_0f7a4_10 : decode cJ9_abs_0f7a4 10 = .ok (.ireturn, 1) := by decide +kernel
theorem dJ9_max_7cf53_0 : decode cJ9_max_7cf53 0 = .ok (.iload_n 0, 1) := by decide +kernel
theorem dJ9_max_7cf53_1 : decode cJ9_max_7cf53 1 = .ok (.iload_n 1, 1) := by decide +kernel
theorem dJ9_max_7cf53_2 : decode cJ9_max_7cf53 2 = .ok (.if_icmp .lt 7, 3) := by decide +kernel
theorem dJ9_max_7cf53_5 : decode cJ9_max_7cf53 5 = .ok (.iload_n 0, 1) := by decide +kernel
theorem dJ9_max_7cf53_6 : decode cJ9_max_7cf53 6 = .ok (.goto 4, 3) := by decide +kernel
theorem dJ9_max_7cf53_9 : decode cJ9_max_7cf53 9 = .ok (.iload_n 1, 1) := by decide +kernel
theorem dJ9_max_7cf53_10 : decode cJ9_max_7cf53 10 = .ok (.ireturn, 1) := by decide +kernel
theorem dJ9_min_7cf53_0 : decode cJ9_min_7cf53 0 = .ok (.iload_n 0, 1) := by decide +kernel
theorem dJ9_min_7cf53_1 : decode cJ9_min_7cf53 1 = .ok (.iload_n 1, 1) := by decide +kernel
theorem dJ9_min_7cf53_2 : decode cJ9_min_7cf53 2 = .ok (.if_icmp .gt 7, 3) := by decide +kernel
theorem dJ9_min_7cf53_5 : decode cJ9_min_7cf53 5 = .ok (.iload_n 0, 1) := by decide +kernel
theorem dJ9_min_7cf53_6 : decode cJ9_min_7cf53 6 = .ok (.goto 4, 3) := by decide +kernel
theorem dJ9_min_7cf53_9 : decode cJ9_min_7cf53 9 = .ok (.iload_n 1, 1) := by decide +kernel
theorem dJ9_min_7cf53_10 : decode cJ9_min_7cf53 10 = .ok (.ireturn, 1) := by decide +kernel
theorem dJ0_length_8abf5_0 : decode cJ0_length_8abf5 0 = .ok (.aload_n 0, 1) := by decide +kernel
theorem dJ0_length_8abf5_1 : decode cJ0_length_8abf5 1 = .ok (.getfield 9, 3) := by decide +kernel
theorem dJ0_length_8abf5_4 : decode cJ0_length_8abf5 4 = .ok (.arraylength, 1) := by decide +kernel
theorem dJ0_length_8abf5_5 : decode cJ0_length_8abf5 5 = .ok (.aload_n 0, 1) := by decide +kernel
theorem dJ0_length_8abf5_6 : decode cJ0_length_8abf5 6 = .ok (.invokevirtual 335, 3) := by decide +kernel
theorem dJ0_length_8abf5_9 : decode cJ0_length_8abf5 9 = .ok (.ishr, 1) := by decide +kernel
theorem dJ0_length_8abf5_10 : decode cJ0_length_8abf5 10 = .ok (.ireturn, 1) := by decide +kernel
theorem dJ0_charAt_5068e_0 : decode cJ0_charAt_5068e 0 = .ok (.aload_n 0, 1) := by decide +kernel
theorem dJ0_charAt_5068e_1 : decode cJ0_charAt_5068e 1 = .ok (.invokevirtual 492, 3) := by decide +kernel
theorem dJ0_charAt_5068e_4 : decode cJ0_charAt_5068e 4 = .ok (.ifCond .eq 12, 3) := by decide +kernel
theorem dJ0_charAt_5068e_7 : decode cJ0_charAt_5068e 7 = .ok (.aload_n 0, 1) := by decide +kernel
theorem dJ0_charAt_5068e_8 : decode cJ0_charAt_5068e 8 = .ok (.getfield 9, 3) := by decide +kernel
theorem dJ0_charAt_5068e_11 : decode cJ0_charAt_5068e 11 = .ok (.iload_n 1, 1) := by decide +kernel
theorem dJ0_charAt_5068e_12 : decode cJ0_charAt_5068e 12 = .ok (.invokestatic 495, 3) := by decide +kernel
theorem dJ0_charAt_5068e_15 : decode cJ0_charAt_5068e 15 = .ok (.ireturn, 1) := by decide +kernel
theorem dJ0_charAt_5068e_16 : decode cJ0_charAt_5068e 16 = .ok (.aload_n 0, 1) := by decide +kernel
theorem dJ0_charAt_5068e_17 : decode cJ0_charAt_5068e 17 = .ok (.getfield 9, 3) := by decide +kernel
theorem dJ0_charAt_5068e_20 : decode cJ0_charAt_5068e 20 = .ok (.iload_n 1, 1) := by decide +kernel
theorem dJ0_charAt_5068e_21 : decode cJ0_charAt_5068e 21 = .ok (.invokestatic 498, 3) := by decide +kernel
theorem dJ0_charAt_5068e_24 : decode cJ0_charAt_5068e 24 = .ok (.ireturn, 1) := by decide +kernel
theorem dJ0_coder_7d493_0 : decode cJ0_coder_7d493 0 = .ok (.getstatic 38, 3) := by decide +kernel
theorem dJ0_coder_7d493_3 : decode cJ0_coder_7d493 3 = .ok (.ifCond .eq 10, 3) := by decide +kernel
theorem dJ0_coder_7d493_6 : decode cJ0_coder_7d493 6 = .ok (.aload_n 0, 1) := by decide +kernel
theorem dJ0_coder_7d493_7 : decode cJ0_coder_7d493 7 = .ok (.getfield 15, 3) := by decide +kernel
theorem dJ0_coder_7d493_10 : decode cJ0_coder_7d493 10 = .ok (.goto 4, 3) := by decide +kernel
theorem dJ0_coder_7d493_13 : decode cJ0_coder_7d493 13 = .ok (.iconst 1, 1) := by decide +kernel
theorem dJ0_coder_7d493_14 : decode cJ0_coder_7d493 14 = .ok (.ireturn, 1) := by decide +kernel
theorem dJ0_isLatin1_aae02_0 : decode cJ0_isLatin1_aae02 0 = .ok (.getstatic 38, 3) := by decide +kernel
theorem dJ0_isLatin1_aae02_3 : decode cJ0_isLatin1_aae02 3 = .ok (.ifCond .eq 14, 3) := by decide +kernel
theorem dJ0_isLatin1_aae02_6 : decode cJ0_isLatin1_aae02 6 = .ok (.aload_n 0, 1) := by decide +kernel
theorem dJ0_isLatin1_aae02_7 : decode cJ0_isLatin1_aae02 7 = .ok (.getfield 15, 3) := by decide +kernel
theorem dJ0_isLatin1_aae02_10 : decode cJ0_isLatin1_aae02 10 = .ok (.ifCond .ne 7, 3) := by decide +kernel
theorem dJ0_isLatin1_aae02_13 : decode cJ0_isLatin1_aae02 13 = .ok (.iconst 1, 1) := by decide +kernel
theorem dJ0_isLatin1_aae02_14 : decode cJ0_isLatin1_aae02 14 = .ok (.goto 4, 3) := by decide +kernel
theorem dJ0_isLatin1_aae02_17 : decode cJ0_isLatin1_aae02 17 = .ok (.iconst 0, 1) := by decide +kernel
theorem dJ0_isLatin1_aae02_18 : decode cJ0_isLatin1_aae02 18 = .ok (.ireturn, 1) := by decide +kernel
theorem dJ0_checkIndex_df160_0 : decode cJ0_checkIndex_df160 0 = .ok (.iload_n 0, 1) := by decide +kernel
theorem dJ0_checkIndex_df160_1 : decode cJ0_checkIndex_df160 1 = .ok (.iload_n 1, 1) := by decide +kernel
theorem dJ0_checkIndex_df160_2 : decode cJ0_checkIndex_df160 2 = .ok (.getstatic 1053, 3) := by decide +kernel
theorem dJ0_checkIndex_df160_5 : decode cJ0_checkIndex_df160 5 = .ok (.invokestatic 1059, 3) := by decide +kernel
theorem dJ0_checkIndex_df160_8 : decode cJ0_checkIndex_df160 8 = .ok (.pop, 1) := by decide +kernel
theorem dJ0_checkIndex_df160_9 : decode cJ0_checkIndex_df160 9 = .ok (.return_, 1) := by decide +kernel
theorem dJ1_charAt_3b067_0 : decode cJ1_charAt_3b067 0 = .ok (.iload_n 1, 1) := by decide +kernel
theorem dJ1_charAt_3b067_1 : decode cJ1_charAt_3b067 1 = .ok (.aload_n 0, 1) := by decide +kernel
theorem dJ1_charAt_3b067_2 : decode cJ1_charAt_3b067 2 = .ok (.arraylength, 1) := by decide +kernel
theorem dJ1_charAt_3b067_3 : decode cJ1_charAt_3b067 3 = .ok (.invokestatic 9, 3) := by decide +kernel
theorem dJ1_charAt_3b067_6 : decode cJ1_charAt_3b067 6 = .ok (.aload_n 0, 1) := by decide +kernel
theorem dJ1_charAt_3b067_7 : decode cJ1_charAt_3b067 7 = .ok (.iload_n 1, 1) := by decide +kernel
theorem dJ1_charAt_3b067_8 : decode cJ1_charAt_3b067 8 = .ok (.baload, 1) := by decide +kernel
theorem dJ1_charAt_3b067_9 : decode cJ1_charAt_3b067 9 = .ok (.sipush 255, 3) := by decide +kernel
theorem dJ1_charAt_3b067_12 : decode cJ1_charAt_3b067 12 = .ok (.iand, 1) := by decide +kernel
theorem dJ1_charAt_3b067_13 : decode cJ1_charAt_3b067 13 = .ok (.i2c, 1) := by decide +kernel
theorem dJ1_charAt_3b067_14 : decode cJ1_charAt_3b067 14 = .ok (.ireturn, 1) := by decide +kernel
theorem dJ2_getChar_3b067_0 : decode cJ2_getChar_3b067 0 = .ok (.getstatic 44, 3) := by decide +kernel
theorem dJ2_getChar_3b067_3 : decode cJ2_getChar_3b067 3 = .ok (.ifCond .ne 25, 3) := by decide +kernel
theorem dJ2_getChar_3b067_6 : decode cJ2_getChar_3b067 6 = .ok (.iload_n 1, 1) := by decide +kernel
theorem dJ2_getChar_3b067_7 : decode cJ2_getChar_3b067 7 = .ok (.ifCond .lt 11, 3) := by decide +kernel
theorem dJ2_getChar_3b067_10 : decode cJ2_getChar_3b067 10 = .ok (.iload_n 1, 1) := by decide +kernel
theorem dJ2_getChar_3b067_11 : decode cJ2_getChar_3b067 11 = .ok (.aload_n 0, 1) := by decide +kernel
theorem dJ2_getChar_3b067_12 : decode cJ2_getChar_3b067 12 = .ok (.invokestatic 48, 3) := by decide +kernel
theorem dJ2_getChar_3b067_15 : decode cJ2_getChar_3b067 15 = .ok (.if_icmp .lt 13, 3) := by decide +kernel
theorem dJ2_getChar_3b067_18 : decode cJ2_getChar_3b067 18 = .ok (.new 52, 3) := by decide +kernel
theorem dJ2_getChar_3b067_21 : decode cJ2_getChar_3b067 21 = .ok (.dup, 1) := by decide +kernel
theorem dJ2_getChar_3b067_22 : decode cJ2_getChar_3b067 22 = .ok (.ldc 54, 2) := by decide +kernel
theorem dJ2_getChar_3b067_24 : decode cJ2_getChar_3b067 24 = .ok (.invokespecial 56, 3) := by decide +kernel
theorem dJ2_getChar_3b067_27 : decode cJ2_getChar_3b067 27 = .ok (.athrow, 1) := by decide +kernel
theorem dJ2_getChar_3b067_28 : decode cJ2_getChar_3b067 28 = .ok (.iload_n 1, 1) := by decide +kernel
theorem dJ2_getChar_3b067_29 : decode cJ2_getChar_3b067 29 = .ok (.iconst 1, 1) := by decide +kernel
theorem dJ2_getChar_3b067_30 : decode cJ2_getChar_3b067 30 = .ok (.ishl, 1) := by decide +kernel
theorem dJ2_getChar_3b067_31 : decode cJ2_getChar_3b067 31 = .ok (.istore_n 1, 1) := by decide +kernel
theorem dJ2_getChar_3b067_32 : decode cJ2_getChar_3b067 32 = .ok (.aload_n 0, 1) := by decide +kernel
theorem dJ2_getChar_3b067_33 : decode cJ2_getChar_3b067 33 = .ok (.iload_n 1, 1) := by decide +kernel
theorem dJ2_getChar_3b067_34 : decode cJ2_getChar_3b067 34 = .ok (.iinc 1 1, 3) := by decide +kernel
theorem dJ2_getChar_3b067_37 : decode cJ2_getChar_3b067 37 = .ok (.baload, 1) := by decide +kernel
theorem dJ2_getChar_3b067_38 : decode cJ2_getChar_3b067 38 = .ok (.sipush 255, 3) := by decide +kernel
theorem dJ2_getChar_3b067_41 : decode cJ2_getChar_3b067 41 = .ok (.iand, 1) := by decide +kernel
theorem dJ2_getChar_3b067_42 : decode cJ2_getChar_3b067 42 = .ok (.getstatic 59, 3) := by decide +kernel
theorem dJ2_getChar_3b067_45 : decode cJ2_getChar_3b067 45 = .ok (.ishl, 1) := by decide +kernel
theorem dJ2_getChar_3b067_46 : decode cJ2_getChar_3b067 46 = .ok (.aload_n 0, 1) := by decide +kernel
theorem dJ2_getChar_3b067_47 : decode cJ2_getChar_3b067 47 = .ok (.iload_n 1, 1) := by decide +kernel
theorem dJ2_getChar_3b067_48 : decode cJ2_getChar_3b067 48 = .ok (.baload, 1) := by decide +kernel
theorem dJ2_getChar_3b067_49 : decode cJ2_getChar_3b067 49 = .ok (.sipush 255, 3) := by decide +kernel
theorem dJ2_getChar_3b067_52 : decode cJ2_getChar_3b067 52 = .ok (.iand, 1) := by decide +kernel
theorem dJ2_getChar_3b067_53 : decode cJ2_getChar_3b067 53 = .ok (.getstatic 63, 3) := by decide +kernel
theorem dJ2_getChar_3b067_56 : decode cJ2_getChar_3b067 56 = .ok (.ishl, 1) := by decide +kernel
theorem dJ2_getChar_3b067_57 : decode cJ2_getChar_3b067 57 = .ok (.ior, 1) := by decide +kernel
theorem dJ2_getChar_3b067_58 : decode cJ2_getChar_3b067 58 = .ok (.i2c, 1) := by decide +kernel
theorem dJ2_getChar_3b067_59 : decode cJ2_getChar_3b067 59 = .ok (.ireturn, 1) := by decide +kernel
theorem dJ2_length_9d52b_0 : decode cJ2_length_9d52b 0 = .ok (.aload_n 0, 1) := by decide +kernel
theorem dJ2_length_9d52b_1 : decode cJ2_length_9d52b 1 = .ok (.arraylength, 1) := by decide +kernel
theorem dJ2_length_9d52b_2 : decode cJ2_length_9d52b 2 = .ok (.iconst 1, 1) := by decide +kernel
theorem dJ2_length_9d52b_3 : decode cJ2_length_9d52b 3 = .ok (.ishr, 1) := by decide +kernel
theorem dJ2_length_9d52b_4 : decode cJ2_length_9d52b 4 = .ok (.ireturn, 1) := by decide +kernel
theorem dJ2_charAt_3b067_0 : decode cJ2_charAt_3b067 0 = .ok (.iload_n 1, 1) := by decide +kernel
theorem dJ2_charAt_3b067_1 : decode cJ2_charAt_3b067 1 = .ok (.aload_n 0, 1) := by decide +kernel
theorem dJ2_charAt_3b067_2 : decode cJ2_charAt_3b067 2 = .ok (.invokestatic 67, 3) := by decide +kernel
theorem dJ2_charAt_3b067_5 : decode cJ2_charAt_3b067 5 = .ok (.aload_n 0, 1) := by decide +kernel
theorem dJ2_charAt_3b067_6 : decode cJ2_charAt_3b067 6 = .ok (.iload_n 1, 1) := by decide +kernel
theorem dJ2_charAt_3b067_7 : decode cJ2_charAt_3b067 7 = .ok (.invokestatic 71, 3) := by decide +kernel
theorem dJ2_charAt_3b067_10 : decode cJ2_charAt_3b067 10 = .ok (.ireturn, 1) := by decide +kernel
theorem dJ2_checkIndex_2214a_0 : decode cJ2_checkIndex_2214a 0 = .ok (.iload_n 0, 1) := by decide +kernel
theorem dJ2_checkIndex_2214a_1 : decode cJ2_checkIndex_2214a 1 = .ok (.aload_n 1, 1) := by decide +kernel
theorem dJ2_checkIndex_2214a_2 : decode cJ2_checkIndex_2214a 2 = .ok (.invokestatic 48, 3) := by decide +kernel
theorem dJ2_checkIndex_2214a_5 : decode cJ2_checkIndex_2214a 5 = .ok (.invokestatic 414, 3) := by decide +kernel
theorem dJ2_checkIndex_2214a_8 : decode cJ2_checkIndex_2214a 8 = .ok (.return_, 1) := by decide +kernel
theorem dJ7_fill_53178_0 : decode cJ7_fill_53178 0 = .ok (.iconst 0, 1) := by decide +kernel
theorem dJ7_fill_53178_1 : decode cJ7_fill_53178 1 = .ok (.istore_n 2, 1) := by decide +kernel
theorem dJ7_fill_53178_2 : decode cJ7_fill_53178 2 = .ok (.aload_n 0, 1) := by decide +kernel
theorem dJ7_fill_53178_3 : decode cJ7_fill_53178 3 = .ok (.arraylength, 1) := by decide +kernel
theorem dJ7_fill_53178_4 : decode cJ7_fill_53178 4 = .ok (.istore_n 3, 1) := by decide +kernel
theorem dJ7_fill_53178_5 : decode cJ7_fill_53178 5 = .ok (.iload_n 2, 1) := by decide +kernel
theorem dJ7_fill_53178_6 : decode cJ7_fill_53178 6 = .ok (.iload_n 3, 1) := by decide +kernel
theorem dJ7_fill_53178_7 : decode cJ7_fill_53178 7 = .ok (.if_icmp .ge 13, 3) := by decide +kernel
theorem dJ7_fill_53178_10 : decode cJ7_fill_53178 10 = .ok (.aload_n 0, 1) := by decide +kernel
theorem dJ7_fill_53178_11 : decode cJ7_fill_53178 11 = .ok (.iload_n 2, 1) := by decide +kernel
theorem dJ7_fill_53178_12 : decode cJ7_fill_53178 12 = .ok (.iload_n 1, 1) := by decide +kernel
theorem dJ7_fill_53178_13 : decode cJ7_fill_53178 13 = .ok (.iastore, 1) := by decide +kernel
theorem dJ7_fill_53178_14 : decode cJ7_fill_53178 14 = .ok (.iinc 2 1, 3) := by decide +kernel
theorem dJ7_fill_53178_17 : decode cJ7_fill_53178 17 = .ok (.goto (-12), 3) := by decide +kernel
theorem dJ7_fill_53178_20 : decode cJ7_fill_53178 20 = .ok (.return_, 1) := by decide +kernel
theorem dJ3_checkIndex_8e157_0 : decode cJ3_checkIndex_8e157 0 = .ok (.iload_n 0, 1) := by decide +kernel
theorem dJ3_checkIndex_8e157_1 : decode cJ3_checkIndex_8e157 1 = .ok (.ifCond .lt 8, 3) := by decide +kernel
theorem dJ3_checkIndex_8e157_4 : decode cJ3_checkIndex_8e157 4 = .ok (.iload_n 0, 1) := by decide +kernel
theorem dJ3_checkIndex_8e157_5 : decode cJ3_checkIndex_8e157 5 = .ok (.iload_n 1, 1) := by decide +kernel
theorem dJ3_checkIndex_8e157_6 : decode cJ3_checkIndex_8e157 6 = .ok (.if_icmp .lt 10, 3) := by decide +kernel
theorem dJ3_checkIndex_8e157_9 : decode cJ3_checkIndex_8e157 9 = .ok (.aload_n 2, 1) := by decide +kernel
theorem dJ3_checkIndex_8e157_10 : decode cJ3_checkIndex_8e157 10 = .ok (.iload_n 0, 1) := by decide +kernel
theorem dJ3_checkIndex_8e157_11 : decode cJ3_checkIndex_8e157 11 = .ok (.iload_n 1, 1) := by decide +kernel
theorem dJ3_checkIndex_8e157_12 : decode cJ3_checkIndex_8e157 12 = .ok (.invokestatic 95, 3) := by decide +kernel
theorem dJ3_checkIndex_8e157_15 : decode cJ3_checkIndex_8e157 15 = .ok (.athrow, 1) := by decide +kernel
theorem dJ3_checkIndex_8e157_16 : decode cJ3_checkIndex_8e157 16 = .ok (.iload_n 0, 1) := by decide +kernel
theorem dJ3_checkIndex_8e157_17 : decode cJ3_checkIndex_8e157 17 = .ok (.ireturn, 1) := by decide +kernel
