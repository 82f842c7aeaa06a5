theorem dX7_nearestOf_38 : decode cX7_nearestOf 38 = .ok (.istore 5, 2) := by decide +kernel
theorem dX7_nearestOf_40 : decode cX7_nearestOf 40 = .ok (.iload_n 2, 1) := by decide +kernel
theorem dX7_nearestOf_41 : decode cX7_nearestOf 41 = .ok (.iconst (-1), 1) := by decide +kernel
theorem dX7_nearestOf_42 : decode cX7_nearestOf 42 = .ok (.if_icmp .eq 9, 3) := by decide +kernel
theorem dX7_nearestOf_45 : decode cX7_nearestOf 45 = .ok (.iload 5, 2) := by decide +kernel
theorem dX7_nearestOf_47 : decode cX7_nearestOf 47 = .ok (.iload_n 3, 1) := by decide +kernel
theorem dX7_nearestOf_48 : decode cX7_nearestOf 48 = .ok (.if_icmp .ge 7, 3) := by decide +kernel
theorem dX7_nearestOf_51 : decode cX7_nearestOf 51 = .ok (.iconst 1, 1) := by decide +kernel
theorem dX7_nearestOf_52 : decode cX7_nearestOf 52 = .ok (.goto 4, 3) := by decide +kernel
theorem dX7_nearestOf_55 : decode cX7_nearestOf 55 = .ok (.iconst 0, 1) := by decide +kernel
theorem dX7_nearestOf_56 : decode cX7_nearestOf 56 = .ok (.istore 6, 2) := by decide +kernel
theorem dX7_nearestOf_58 : decode cX7_nearestOf 58 = .ok (.iload 6, 2) := by decide +kernel
theorem dX7_nearestOf_60 : decode cX7_nearestOf 60 = .ok (.ifCond .eq 8, 3) := by decide +kernel
theorem dX7_nearestOf_63 : decode cX7_nearestOf 63 = .ok (.iload 4, 2) := by decide +kernel
theorem dX7_nearestOf_65 : decode cX7_nearestOf 65 = .ok (.goto 4, 3) := by decide +kernel
theorem dX7_nearestOf_68 : decode cX7_nearestOf 68 = .ok (.iload_n 2, 1) := by decide +kernel
theorem dX7_nearestOf_69 : decode cX7_nearestOf 69 = .ok (.istore_n 2, 1) := by decide +kernel
theorem dX7_nearestOf_70 : decode cX7_nearestOf 70 = .ok (.iload 6, 2) := by decide +kernel
theorem dX7_nearestOf_72 : decode cX7_nearestOf 72 = .ok (.ifCond .eq 8, 3) := by decide +kernel
theorem dX7_nearestOf_75 : decode cX7_nearestOf 75 = .ok (.iload 5, 2) := by decide +kernel
theorem dX7_nearestOf_77 : decode cX7_nearestOf 77 = .ok (.goto 4, 3) := by decide +kernel
theorem dX7_nearestOf_80 : decode cX7_nearestOf 80 = .ok (.iload_n 3, 1) := by decide +kernel
theorem dX7_nearestOf_81 : decode cX7_nearestOf 81 = .ok (.istore_n 3, 1) := by decide +kernel
theorem dX7_nearestOf_82 : decode cX7_nearestOf 82 = .ok (.iinc 4 1, 3) := by decide +kernel
theorem dX7_nearestOf_85 : decode cX7_nearestOf 85 = .ok (.goto (-78), 3) := by decide +kernel
theorem dX7_nearestOf_88 : decode cX7_nearestOf 88 = .ok (.iload_n 2, 1) := by decide +kernel
theorem dX7_nearestOf_89 : decode cX7_nearestOf 89 = .ok (.ireturn, 1) := by decide +kernel
theorem dX7_told_0 : decode cX7_told 0 = .ok (.aload_n 0, 1) := by decide +kernel
theorem dX7_told_1 : decode cX7_told 1 = .ok (.iload_n 1, 1) := by decide +kernel
theorem dX7_told_2 : decode cX7_told 2 = .ok (.invokevirtual 79, 3) := by decide +kernel
theorem dX7_told_5 : decode cX7_told 5 = .ok (.ifCond .ne 6, 3) := by decide +kernel
theorem dX7_told_8 : decode cX7_told 8 = .ok (.bipush (-5), 2) := by decide +kernel
theorem dX7_told_10 : decode cX7_told 10 = .ok (.ireturn, 1) := by decide +kernel
theorem dX7_told_11 : decode cX7_told 11 = .ok (.iload_n 2, 1) := by decide +kernel
theorem dX7_told_12 : decode cX7_told 12 = .ok (.tableswitch 107 0 8 #[52, 52, 52, 52, 63, 70, 77, 91, 97], 52) := by decide +kernel
theorem dX7_told_64 : decode cX7_told 64 = .ok (.aload_n 0, 1) := by decide +kernel
theorem dX7_told_65 : decode cX7_told 65 = .ok (.getfield 16, 3) := by decide +kernel
theorem dX7_told_68 : decode cX7_told 68 = .ok (.iconst 4, 1) := by decide +kernel
theorem dX7_told_69 : decode cX7_told 69 = .ok (.iload_n 1, 1) := by decide +kernel
theorem dX7_told_70 : decode cX7_told 70 = .ok (.imul, 1) := by decide +kernel
theorem dX7_told_71 : decode cX7_told 71 = .ok (.iload_n 2, 1) := by decide +kernel
theorem dX7_told_72 : decode cX7_told 72 = .ok (.iadd, 1) := by decide +kernel
theorem dX7_told_73 : decode cX7_told 73 = .ok (.iaload, 1) := by decide +kernel
theorem dX7_told_74 : decode cX7_told 74 = .ok (.ireturn, 1) := by decide +kernel
theorem dX7_told_75 : decode cX7_told 75 = .ok (.aload_n 0, 1) := by decide +kernel
theorem dX7_told_76 : decode cX7_told 76 = .ok (.getfield 7, 3) := by decide +kernel
theorem dX7_told_79 : decode cX7_told 79 = .ok (.iload_n 1, 1) := by decide +kernel
theorem dX7_told_80 : decode cX7_told 80 = .ok (.iaload, 1) := by decide +kernel
theorem dX7_told_81 : decode cX7_told 81 = .ok (.ireturn, 1) := by decide +kernel
theorem dX7_told_82 : decode cX7_told 82 = .ok (.aload_n 0, 1) := by decide +kernel
theorem dX7_told_83 : decode cX7_told 83 = .ok (.getfield 13, 3) := by decide +kernel
theorem dX7_told_86 : decode cX7_told 86 = .ok (.iload_n 1, 1) := by decide +kernel
theorem dX7_told_87 : decode cX7_told 87 = .ok (.iaload, 1) := by decide +kernel
theorem dX7_told_88 : decode cX7_told 88 = .ok (.ireturn, 1) := by decide +kernel
theorem dX7_told_89 : decode cX7_told 89 = .ok (.aload_n 0, 1) := by decide +kernel
theorem dX7_told_90 : decode cX7_told 90 = .ok (.iload_n 1, 1) := by decide +kernel
theorem dX7_told_91 : decode cX7_told 91 = .ok (.invokevirtual 182, 3) := by decide +kernel
theorem dX7_told_94 : decode cX7_told 94 = .ok (.ifCond .eq 7, 3) := by decide +kernel
theorem dX7_told_97 : decode cX7_told 97 = .ok (.iconst 1, 1) := by decide +kernel
theorem dX7_told_98 : decode cX7_told 98 = .ok (.goto 4, 3) := by decide +kernel
theorem dX7_told_101 : decode cX7_told 101 = .ok (.iconst 0, 1) := by decide +kernel
theorem dX7_told_102 : decode cX7_told 102 = .ok (.ireturn, 1) := by decide +kernel
theorem dX7_told_103 : decode cX7_told 103 = .ok (.aload_n 0, 1) := by decide +kernel
theorem dX7_told_104 : decode cX7_told 104 = .ok (.iload_n 1, 1) := by decide +kernel
theorem dX7_told_105 : decode cX7_told 105 = .ok (.invokevirtual 185, 3) := by decide +kernel
theorem dX7_told_108 : decode cX7_told 108 = .ok (.ireturn, 1) := by decide +kernel
theorem dX7_told_109 : decode cX7_told 109 = .ok (.sipush 1000, 3) := by decide +kernel
theorem dX7_told_112 : decode cX7_told 112 = .ok (.aload_n 0, 1) := by decide +kernel
theorem dX7_told_113 : decode cX7_told 113 = .ok (.iload_n 1, 1) := by decide +kernel
theorem dX7_told_114 : decode cX7_told 114 = .ok (.invokevirtual 176, 3) := by decide +kernel
theorem dX7_told_117 : decode cX7_told 117 = .ok (.iadd, 1) := by decide +kernel
theorem dX7_told_118 : decode cX7_told 118 = .ok (.ireturn, 1) := by decide +kernel
theorem dX7_told_119 : decode cX7_told 119 = .ok (.bipush (-7), 2) := by decide +kernel
theorem dX7_told_121 : decode cX7_told 121 = .ok (.ireturn, 1) := by decide +kernel
theorem dX7_duel_0 : decode cX7_duel 0 = .ok (.aload_n 0, 1) := by decide +kernel
theorem dX7_duel_1 : decode cX7_duel 1 = .ok (.iload_n 1, 1) := by decide +kernel
theorem dX7_duel_2 : decode cX7_duel 2 = .ok (.iload_n 2, 1) := by decide +kernel
theorem dX7_duel_3 : decode cX7_duel 3 = .ok (.invokevirtual 188, 3) := by decide +kernel
theorem dX7_duel_6 : decode cX7_duel 6 = .ok (.ifCond .ne 6, 3) := by decide +kernel
theorem dX7_duel_9 : decode cX7_duel 9 = .ok (.bipush (-5), 2) := by decide +kernel
theorem dX7_duel_11 : decode cX7_duel 11 = .ok (.ireturn, 1) := by decide +kernel
theorem dX7_duel_12 : decode cX7_duel 12 = .ok (.iload_n 3, 1) := by decide +kernel
theorem dX7_duel_13 : decode cX7_duel 13 = .ok (.tableswitch 64 0 3 #[31, 38, 45, 52], 31) := by decide +kernel
theorem dX7_duel_44 : decode cX7_duel 44 = .ok (.aload_n 0, 1) := by decide +kernel
theorem dX7_duel_45 : decode cX7_duel 45 = .ok (.iload_n 1, 1) := by decide +kernel
theorem dX7_duel_46 : decode cX7_duel 46 = .ok (.iload_n 2, 1) := by decide +kernel
theorem dX7_duel_47 : decode cX7_duel 47 = .ok (.invokevirtual 173, 3) := by decide +kernel
theorem dX7_duel_50 : decode cX7_duel 50 = .ok (.ireturn, 1) := by decide +kernel
theorem dX7_duel_51 : decode cX7_duel 51 = .ok (.aload_n 0, 1) := by decide +kernel
theorem dX7_duel_52 : decode cX7_duel 52 = .ok (.iload_n 1, 1) := by decide +kernel
theorem dX7_duel_53 : decode cX7_duel 53 = .ok (.iload_n 2, 1) := by decide +kernel
theorem dX7_duel_54 : decode cX7_duel 54 = .ok (.invokevirtual 192, 3) := by decide +kernel
theorem dX7_duel_57 : decode cX7_duel 57 = .ok (.ireturn, 1) := by decide +kernel
theorem dX7_duel_58 : decode cX7_duel 58 = .ok (.aload_n 0, 1) := by decide +kernel
theorem dX7_duel_59 : decode cX7_duel 59 = .ok (.iload_n 1, 1) := by decide +kernel
theorem dX7_duel_60 : decode cX7_duel 60 = .ok (.iload_n 2, 1) := by decide +kernel
theorem dX7_duel_61 : decode cX7_duel 61 = .ok (.invokevirtual 179, 3) := by decide +kernel
theorem dX7_duel_64 : decode cX7_duel 64 = .ok (.ireturn, 1) := by decide +kernel
theorem dX7_duel_65 : decode cX7_duel 65 = .ok (.aload_n 0, 1) := by decide +kernel
theorem dX7_duel_66 : decode cX7_duel 66 = .ok (.getfield 19, 3) := by decide +kernel
theorem dX7_duel_69 : decode cX7_duel 69 = .ok (.bipush 6, 2) := by decide +kernel
theorem dX7_duel_71 : decode cX7_duel 71 = .ok (.iload_n 1, 1) := by decide +kernel
theorem dX7_duel_72 : decode cX7_duel 72 = .ok (.imul, 1) := by decide +kernel
theorem dX7_duel_73 : decode cX7_duel 73 = .ok (.iload_n 2, 1) := by decide +kernel
theorem dX7_duel_74 : decode cX7_duel 74 = .ok (.iadd, 1) := by decide +kernel
theorem dX7_duel_75 : decode cX7_duel 75 = .ok (.iaload, 1) := by decide +kernel
theorem dX7_duel_76 : decode cX7_duel 76 = .ok (.ireturn, 1) := by decide +kernel
theorem dX7_duel_77 : decode cX7_duel 77 = .ok (.bipush (-7), 2) := by decide +kernel
theorem dX7_duel_79 : decode cX7_duel 79 = .ok (.ireturn, 1) := by decide +kernel
theorem dX7_steps_0 : decode cX7_steps 0 = .ok (.aload_n 0, 1) := by decide +kernel
theorem dX7_steps_1 : decode cX7_steps 1 = .ok (.getfield 16, 3) := by decide +kernel
theorem dX7_steps_4 : decode cX7_steps 4 = .ok (.iconst 4, 1) := by decide +kernel
theorem dX7_steps_5 : decode cX7_steps 5 = .ok (.iload_n 1, 1) := by decide +kernel
theorem dX7_steps_6 : decode cX7_steps 6 = .ok (.imul, 1) := by decide +kernel
theorem dX7_steps_7 : decode cX7_steps 7 = .ok (.iaload, 1) := by decide +kernel
theorem dX7_steps_8 : decode cX7_steps 8 = .ok (.bipush 8, 2) := by decide +kernel
theorem dX7_steps_10 : decode cX7_steps 10 = .ok (.idiv, 1) := by decide +kernel
theorem dX7_steps_11 : decode cX7_steps 11 = .ok (.istore_n 3, 1) := by decide +kernel
theorem dX7_steps_12 : decode cX7_steps 12 = .ok (.aload_n 0, 1) := by decide +kernel
theorem dX7_steps_13 : decode cX7_steps 13 = .ok (.getfield 16, 3) := by decide +kernel
theorem dX7_steps_16 : decode cX7_steps 16 = .ok (.iconst 4, 1) := by decide +kernel
theorem dX7_steps_17 : decode cX7_steps 17 = .ok (.iload_n 2, 1) := by decide +kernel
theorem dX7_steps_18 : decode cX7_steps 18 = .ok (.imul, 1) := by decide +kernel
theorem dX7_steps_19 : decode cX7_steps 19 = .ok (.iaload, 1) := by decide +kernel
theorem dX7_steps_20 : decode cX7_steps 20 = .ok (.bipush 8, 2) := by decide +kernel
theorem dX7_steps_22 : decode cX7_steps 22 = .ok (.idiv, 1) := by decide +kernel
theorem dX7_steps_23 : decode cX7_steps 23 = .ok (.istore 4, 2) := by decide +kernel
theorem dX7_steps_25 : decode cX7_steps 25 = .ok (.iload_n 3, 1) := by decide +kernel
theorem dX7_steps_26 : decode cX7_steps 26 = .ok (.iload 4, 2) := by decide +kernel
theorem dX7_steps_28 : decode cX7_steps 28 = .ok (.if_icmp .eq 30, 3) := by decide +kernel
theorem dX7_steps_31 : decode cX7_steps 31 = .ok (.aload_n 0, 1) := by decide +kernel
theorem dX7_steps_32 : decode cX7_steps 32 = .ok (.getfield 16, 3) := by decide +kernel
theorem dX7_steps_35 : decode cX7_steps 35 = .ok (.iconst 4, 1) := by decide +kernel
theorem dX7_steps_36 : decode cX7_steps 36 = .ok (.iload_n 1, 1) := by decide +kernel
theorem dX7_steps_37 : decode cX7_steps 37 = .ok (.imul, 1) := by decide +kernel
theorem dX7_steps_38 : decode cX7_steps 38 = .ok (.dup2, 1) := by decide +kernel
theorem dX7_steps_39 : decode cX7_steps 39 = .ok (.iaload, 1) := by decide +kernel
theorem dX7_steps_40 : decode cX7_steps 40 = .ok (.iload_n 3, 1) := by decide +kernel
theorem dX7_steps_41 : decode cX7_steps 41 = .ok (.iload 4, 2) := by decide +kernel
theorem dX7_steps_43 : decode cX7_steps 43 = .ok (.if_icmp .ge 8, 3) := by decide +kernel
theorem dX7_steps_46 : decode cX7_steps 46 = .ok (.bipush 8, 2) := by decide +kernel
theorem dX7_steps_48 : decode cX7_steps 48 = .ok (.goto 5, 3) := by decide +kernel
theorem dX7_steps_51 : decode cX7_steps 51 = .ok (.bipush (-8), 2) := by decide +kernel
theorem dX7_steps_53 : decode cX7_steps 53 = .ok (.iadd, 1) := by decide +kernel
theorem dX7_steps_54 : decode cX7_steps 54 = .ok (.iastore, 1) := by decide +kernel
theorem dX7_steps_55 : decode cX7_steps 55 = .ok (.goto 44, 3) := by decide +kernel
theorem dX7_steps_58 : decode cX7_steps 58 = .ok (.aload_n 0, 1) := by decide +kernel
theorem dX7_steps_59 : decode cX7_steps 59 = .ok (.getfield 16, 3) := by decide +kernel
theorem dX7_steps_62 : decode cX7_steps 62 = .ok (.iconst 4, 1) := by decide +kernel
theorem dX7_steps_63 : decode cX7_steps 63 = .ok (.iload_n 1, 1) := by decide +kernel
theorem dX7_steps_64 : decode cX7_steps 64 = .ok (.imul, 1) := by decide +kernel
theorem dX7_steps_65 : decode cX7_steps 65 = .ok (.dup2, 1) := by decide +kernel
theorem dX7_steps_66 : decode cX7_steps 66 = .ok (.iaload, 1) := by decide +kernel
theorem dX7_steps_67 : decode cX7_steps 67 = .ok (.aload_n 0, 1) := by decide +kernel
theorem dX7_steps_68 : decode cX7_steps 68 = .ok (.getfield 16, 3) := by decide +kernel
theorem dX7_steps_71 : decode cX7_steps 71 = .ok (.iconst 4, 1) := by decide +kernel
theorem dX7_steps_72 : decode cX7_steps 72 = .ok (.iload_n 1, 1) := by decide +kernel
theorem dX7_steps_73 : decode cX7_steps 73 = .ok (.imul, 1) := by decide +kernel
theorem dX7_steps_74 : decode cX7_steps 74 = .ok (.iaload, 1) := by decide +kernel
theorem dX7_steps_75 : decode cX7_steps 75 = .ok (.bipush 8, 2) := by decide +kernel
theorem dX7_steps_77 : decode cX7_steps 77 = .ok (.irem, 1) := by decide +kernel
theorem dX7_steps_78 : decode cX7_steps 78 = .ok (.aload_n 0, 1) := by decide +kernel
theorem dX7_steps_79 : decode cX7_steps 79 = .ok (.getfield 16, 3) := by decide +kernel
theorem dX7_steps_82 : decode cX7_steps 82 = .ok (.iconst 4, 1) := by decide +kernel
theorem dX7_steps_83 : decode cX7_steps 83 = .ok (.iload_n 2, 1) := by decide +kernel
theorem dX7_steps_84 : decode cX7_steps 84 = .ok (.imul, 1) := by decide +kernel
theorem dX7_steps_85 : decode cX7_steps 85 = .ok (.iaload, 1) := by decide +kernel
theorem dX7_steps_86 : decode cX7_steps 86 = .ok (.bipush 8, 2) := by decide +kernel
theorem dX7_steps_88 : decode cX7_steps 88 = .ok (.irem, 1) := by decide +kernel
theorem dX7_steps_89 : decode cX7_steps 89 = .ok (.if_icmp .ge 7, 3) := by decide +kernel
theorem dX7_steps_92 : decode cX7_steps 92 = .ok (.iconst 1, 1) := by decide +kernel
theorem dX7_steps_93 : decode cX7_steps 93 = .ok (.goto 4, 3) := by decide +kernel
theorem dX7_steps_96 : decode cX7_steps 96 = .ok (.iconst (-1), 1) := by decide +kernel
theorem dX7_steps_97 : decode cX7_steps 97 = .ok (.iadd, 1) := by decide +kernel
theorem dX7_steps_98 : decode cX7_steps 98 = .ok (.iastore, 1) := by decide +kernel
theorem dX7_steps_99 : decode cX7_steps 99 = .ok (.return_, 1) := by decide +kernel
theorem dX7_hitBy_0 : decode cX7_hitBy 0 = .ok (.aload_n 0, 1) := by decide +kernel
theorem dX7_hitBy_1 : decode cX7_hitBy 1 = .ok (.iload_n 1, 1) := by decide +kernel
theorem dX7_hitBy_2 : decode cX7_hitBy 2 = .ok (.iload_n 2, 1) := by decide +kernel
theorem dX7_hitBy_3 : decode cX7_hitBy 3 = .ok (.invokevirtual 192, 3) := by decide +kernel
theorem dX7_hitBy_6 : decode cX7_hitBy 6 = .ok (.istore_n 3, 1) := by decide +kernel
theorem dX7_hitBy_7 : decode cX7_hitBy 7 = .ok (.aload_n 0, 1) := by decide +kernel
theorem dX7_hitBy_8 : decode cX7_hitBy 8 = .ok (.getfield 16, 3) := by decide +kernel
theorem dX7_hitBy_11 : decode cX7_hitBy 11 = .ok (.iconst 4, 1) := by decide +kernel
theorem dX7_hitBy_12 : decode cX7_hitBy 12 = .ok (.iload_n 2, 1) := by decide +kernel
theorem dX7_hitBy_13 : decode cX7_hitBy 13 = .ok (.imul, 1) := by decide +kernel
theorem dX7_hitBy_14 : decode cX7_hitBy 14 = .ok (.iconst 1, 1) := by decide +kernel
theorem dX7_hitBy_15 : decode cX7_hitBy 15 = .ok (.iadd, 1) := by decide +kernel
theorem dX7_hitBy_16 : decode cX7_hitBy 16 = .ok (.aload_n 0, 1) := by decide +kernel
theorem dX7_hitBy_17 : decode cX7_hitBy 17 = .ok (.getfield 16, 3) := by decide +kernel
theorem dX7_hitBy_20 : decode cX7_hitBy 20 = .ok (.iconst 4, 1) := by decide +kernel
theorem dX7_hitBy_21 : decode cX7_hitBy 21 = .ok (.iload_n 2, 1) := by decide +kernel
theorem dX7_hitBy_22 : decode cX7_hitBy 22 = .ok (.imul, 1) := by decide +kernel
theorem dX7_hitBy_23 : decode cX7_hitBy 23 = .ok (.iconst 1, 1) := by decide +kernel
theorem dX7_hitBy_24 : decode cX7_hitBy 24 = .ok (.iadd, 1) := by decide +kernel
theorem dX7_hitBy_25 : decode cX7_hitBy 25 = .ok (.iaload, 1) := by decide +kernel
theorem dX7_hitBy_26 : decode cX7_hitBy 26 = .ok (.iload_n 3, 1) := by decide +kernel
theorem dX7_hitBy_27 : decode cX7_hitBy 27 = .ok (.isub, 1) := by decide +kernel
theorem dX7_hitBy_28 : decode cX7_hitBy 28 = .ok (.iconst 0, 1) := by decide +kernel
theorem dX7_hitBy_29 : decode cX7_hitBy 29 = .ok (.bipush 99, 2) := by decide +kernel
theorem dX7_hitBy_31 : decode cX7_hitBy 31 = .ok (.invokestatic 167, 3) := by decide +kernel
theorem dX7_hitBy_34 : decode cX7_hitBy 34 = .ok (.iastore, 1) := by decide +kernel
theorem dX7_hitBy_35 : decode cX7_hitBy 35 = .ok (.aload_n 0, 1) := by decide +kernel
theorem dX7_hitBy_36 : decode cX7_hitBy 36 = .ok (.getfield 16, 3) := by decide +kernel
theorem dX7_hitBy_39 : decode cX7_hitBy 39 = .ok (.iconst 4, 1) := by decide +kernel
theorem dX7_hitBy_40 : decode cX7_hitBy 40 = .ok (.iload_n 2, 1) := by decide +kernel
theorem dX7_hitBy_41 : decode cX7_hitBy 41 = .ok (.imul, 1) := by decide +kernel
theorem dX7_hitBy_42 : decode cX7_hitBy 42 = .ok (.iconst 3, 1) := by decide +kernel
theorem dX7_hitBy_43 : decode cX7_hitBy 43 = .ok (.iadd, 1) := by decide +kernel
theorem dX7_hitBy_44 : decode cX7_hitBy 44 = .ok (.aload_n 0, 1) := by decide +kernel
theorem dX7_hitBy_45 : decode cX7_hitBy 45 = .ok (.getfield 16, 3) := by decide +kernel
theorem dX7_hitBy_48 : decode cX7_hitBy 48 = .ok (.iconst 4, 1) := by decide +kernel
theorem dX7_hitBy_49 : decode cX7_hitBy 49 = .ok (.iload_n 2, 1) := by decide +kernel
theorem dX7_hitBy_50 : decode cX7_hitBy 50 = .ok (.imul, 1) := by decide +kernel
theorem dX7_hitBy_51 : decode cX7_hitBy 51 = .ok (.iconst 3, 1) := by decide +kernel
theorem dX7_hitBy_52 : decode cX7_hitBy 52 = .ok (.iadd, 1) := by decide +kernel
theorem dX7_hitBy_53 : decode cX7_hitBy 53 = .ok (.iaload, 1) := by decide +kernel
theorem dX7_hitBy_54 : decode cX7_hitBy 54 = .ok (.iconst 1, 1) := by decide +kernel
theorem dX7_hitBy_55 : decode cX7_hitBy 55 = .ok (.iadd, 1) := by decide +kernel
theorem dX7_hitBy_56 : decode cX7_hitBy 56 = .ok (.iconst 0, 1) := by decide +kernel
theorem dX7_hitBy_57 : decode cX7_hitBy 57 = .ok (.bipush 99, 2) := by decide +kernel
theorem dX7_hitBy_59 : decode cX7_hitBy 59 = .ok (.invokestatic 167, 3) := by decide +kernel
theorem dX7_hitBy_62 : decode cX7_hitBy 62 = .ok (.iastore, 1) := by decide +kernel
theorem dX7_hitBy_63 : decode cX7_hitBy 63 = .ok (.aload_n 0, 1) := by decide +kernel
theorem dX7_hitBy_64 : decode cX7_hitBy 64 = .ok (.getfield 19, 3) := by decide +kernel
theorem dX7_hitBy_67 : decode cX7_hitBy 67 = .ok (.bipush 6, 2) := by decide +kernel
theorem dX7_hitBy_69 : decode cX7_hitBy 69 = .ok (.iload_n 1, 1) := by decide +kernel
theorem dX7_hitBy_70 : decode cX7_hitBy 70 = .ok (.imul, 1) := by decide +kernel
theorem dX7_hitBy_71 : decode cX7_hitBy 71 = .ok (.iload_n 2, 1) := by decide +kernel
theorem dX7_hitBy_72 : decode cX7_hitBy 72 = .ok (.iadd, 1) := by decide +kernel
theorem dX7_hitBy_73 : decode cX7_hitBy 73 = .ok (.aload_n 0, 1) := by decide +kernel
theorem dX7_hitBy_74 : decode cX7_hitBy 74 = .ok (.getfield 19, 3) := by decide +kernel
theorem dX7_hitBy_77 : decode cX7_hitBy 77 = .ok (.bipush 6, 2) := by decide +kernel
theorem dX7_hitBy_79 : decode cX7_hitBy 79 = .ok (.iload_n 1, 1) := by decide +kernel
theorem dX7_hitBy_80 : decode cX7_hitBy 80 = .ok (.imul, 1) := by decide +kernel
theorem dX7_hitBy_81 : decode cX7_hitBy 81 = .ok (.iload_n 2, 1) := by decide +kernel
theorem dX7_hitBy_82 : decode cX7_hitBy 82 = .ok (.iadd, 1) := by decide +kernel
theorem dX7_hitBy_83 : decode cX7_hitBy 83 = .ok (.iaload, 1) := by decide +kernel
theorem dX7_hitBy_84 : decode cX7_hitBy 84 = .ok (.iconst 1, 1) := by decide +kernel
theorem dX7_hitBy_85 : decode cX7_hitBy 85 = .ok (.iadd, 1) := by decide +kernel
theorem dX7_hitBy_86 : decode cX7_hitBy 86 = .ok (.iconst 0, 1) := by decide +kernel
theorem dX7_hitBy_87 : decode cX7_hitBy 87 = .ok (.bipush 99, 2) := by decide +kernel
theorem dX7_hitBy_89 : decode cX7_hitBy 89 = .ok (.invokestatic 167, 3) := by decide +kernel
theorem dX7_hitBy_92 : decode cX7_hitBy 92 = .ok (.iastore, 1) := by decide +kernel
theorem dX7_hitBy_93 : decode cX7_hitBy 93 = .ok (.aload_n 0, 1) := by decide +kernel
theorem dX7_hitBy_94 : decode cX7_hitBy 94 = .ok (.getfield 16, 3) := by decide +kernel
theorem dX7_hitBy_97 : decode cX7_hitBy 97 = .ok (.iconst 4, 1) := by decide +kernel
theorem dX7_hitBy_98 : decode cX7_hitBy 98 = .ok (.iload_n 1, 1) := by decide +kernel
theorem dX7_hitBy_99 : decode cX7_hitBy 99 = .ok (.imul, 1) := by decide +kernel
theorem dX7_hitBy_100 : decode cX7_hitBy 100 = .ok (.iconst 2, 1) := by decide +kernel
theorem dX7_hitBy_101 : decode cX7_hitBy 101 = .ok (.iadd, 1) := by decide +kernel
theorem dX7_hitBy_102 : decode cX7_hitBy 102 = .ok (.aload_n 0, 1) := by decide +kernel
theorem dX7_hitBy_103 : decode cX7_hitBy 103 = .ok (.getfield 16, 3) := by decide +kernel
theorem dX7_hitBy_106 : decode cX7_hitBy 106 = .ok (.iconst 4, 1) := by decide +kernel
theorem dX7_hitBy_107 : decode cX7_hitBy 107 = .ok (.iload_n 1, 1) := by decide +kernel
theorem dX7_hitBy_108 : decode cX7_hitBy 108 = .ok (.imul, 1) := by decide +kernel
theorem dX7_hitBy_109 : decode cX7_hitBy 109 = .ok (.iconst 2, 1) := by decide +kernel
theorem dX7_hitBy_110 : decode cX7_hitBy 110 = .ok (.iadd, 1) := by decide +kernel
theorem dX7_hitBy_111 : decode cX7_hitBy 111 = .ok (.iaload, 1) := by decide +kernel
theorem dX7_hitBy_112 : decode cX7_hitBy 112 = .ok (.iconst 1, 1) := by decide +kernel
theorem dX7_hitBy_113 : decode cX7_hitBy 113 = .ok (.iadd, 1) := by decide +kernel
theorem dX7_hitBy_114 : decode cX7_hitBy 114 = .ok (.iconst 0, 1) := by decide +kernel
theorem dX7_hitBy_115 : decode cX7_hitBy 115 = .ok (.bipush 99, 2) := by decide +kernel
theorem dX7_hitBy_117 : decode cX7_hitBy 117 = .ok (.invokestatic 167, 3) := by decide +kernel
theorem dX7_hitBy_120 : decode cX7_hitBy 120 = .ok (.iastore, 1) := by decide +kernel
theorem dX7_hitBy_121 : decode cX7_hitBy 121 = .ok (.aload_n 0, 1) := by decide +kernel
theorem dX7_hitBy_122 : decode cX7_hitBy 122 = .ok (.iload_n 2, 1) := by decide +kernel
theorem dX7_hitBy_123 : decode cX7_hitBy 123 = .ok (.invokevirtual 83, 3) := by decide +kernel
theorem dX7_hitBy_126 : decode cX7_hitBy 126 = .ok (.ifCond .ne 7, 3) := by decide +kernel
theorem dX7_hitBy_129 : decode cX7_hitBy 129 = .ok (.iconst 1, 1) := by decide +kernel
theorem dX7_hitBy_130 : decode cX7_hitBy 130 = .ok (.goto 4, 3) := by decide +kernel
theorem dX7_hitBy_133 : decode cX7_hitBy 133 = .ok (.iconst 0, 1) := by decide +kernel
theorem dX7_hitBy_134 : decode cX7_hitBy 134 = .ok (.ireturn, 1) := by decide +kernel
theorem dX7_roundOf_0 : decode cX7_roundOf 0 = .ok (.iconst 0, 1) := by decide +kernel
theorem dX7_roundOf_1 : decode cX7_roundOf 1 = .ok (.istore_n 1, 1) := by decide +kernel
theorem dX7_roundOf_2 : decode cX7_roundOf 2 = .ok (.iconst 0, 1) := by decide +kernel
theorem dX7_roundOf_3 : decode cX7_roundOf 3 = .ok (.istore_n 2, 1) := by decide +kernel
theorem dX7_roundOf_4 : decode cX7_roundOf 4 = .ok (.iload_n 2, 1) := by decide +kernel
theorem dX7_roundOf_5 : decode cX7_roundOf 5 = .ok (.aload_n 0, 1) := by decide +kernel
theorem dX7_roundOf_6 : decode cX7_roundOf 6 = .ok (.getfield 72, 3) := by decide +kernel
theorem dX7_roundOf_9 : decode cX7_roundOf 9 = .ok (.if_icmp .ge 94, 3) := by decide +kernel
theorem dX7_roundOf_12 : decode cX7_roundOf 12 = .ok (.aload_n 0, 1) := by decide +kernel
theorem dX7_roundOf_13 : decode cX7_roundOf 13 = .ok (.iload_n 2, 1) := by decide +kernel
theorem dX7_roundOf_14 : decode cX7_roundOf 14 = .ok (.invokevirtual 83, 3) := by decide +kernel
theorem dX7_roundOf_17 : decode cX7_roundOf 17 = .ok (.ifCond .eq 11, 3) := by decide +kernel
theorem dX7_roundOf_20 : decode cX7_roundOf 20 = .ok (.aload_n 0, 1) := by decide +kernel
theorem dX7_roundOf_21 : decode cX7_roundOf 21 = .ok (.iload_n 2, 1) := by decide +kernel
theorem dX7_roundOf_22 : decode cX7_roundOf 22 = .ok (.invokevirtual 185, 3) := by decide +kernel
theorem dX7_roundOf_25 : decode cX7_roundOf 25 = .ok (.goto 4, 3) := by decide +kernel
theorem dX7_roundOf_28 : decode cX7_roundOf 28 = .ok (.iconst (-1), 1) := by decide +kernel
theorem dX7_roundOf_29 : decode cX7_roundOf 29 = .ok (.istore_n 3, 1) := by decide +kernel
theorem dX7_roundOf_30 : decode cX7_roundOf 30 = .ok (.iload_n 3, 1) := by decide +kernel
theorem dX7_roundOf_31 : decode cX7_roundOf 31 = .ok (.iconst (-1), 1) := by decide +kernel
theorem dX7_roundOf_32 : decode cX7_roundOf 32 = .ok (.if_icmp .eq 7, 3) := by decide +kernel
theorem dX7_roundOf_35 : decode cX7_roundOf 35 = .ok (.iconst 1, 1) := by decide +kernel
theorem dX7_roundOf_36 : decode cX7_roundOf 36 = .ok (.goto 4, 3) := by decide +kernel
theorem dX7_roundOf_39 : decode cX7_roundOf 39 = .ok (.iconst 0, 1) := by decide +kernel
theorem dX7_roundOf_40 : decode cX7_roundOf 40 = .ok (.istore 4, 2) := by decide +kernel
theorem dX7_roundOf_42 : decode cX7_roundOf 42 = .ok (.iload 4, 2) := by decide +kernel
theorem dX7_roundOf_44 : decode cX7_roundOf 44 = .ok (.ifCond .eq 10, 3) := by decide +kernel
theorem dX7_roundOf_47 : decode cX7_roundOf 47 = .ok (.aload_n 0, 1) := by decide +kernel
theorem dX7_roundOf_48 : decode cX7_roundOf 48 = .ok (.iload_n 2, 1) := by decide +kernel
theorem dX7_roundOf_49 : decode cX7_roundOf 49 = .ok (.invokevirtual 182, 3) := by decide +kernel
theorem dX7_roundOf_52 : decode cX7_roundOf 52 = .ok (.istore 4, 2) := by decide +kernel
theorem dX7_roundOf_54 : decode cX7_roundOf 54 = .ok (.iload 4, 2) := by decide +kernel
theorem dX7_roundOf_56 : decode cX7_roundOf 56 = .ok (.ifCond .eq 41, 3) := by decide +kernel
theorem dX7_roundOf_59 : decode cX7_roundOf 59 = .ok (.aload_n 0, 1) := by decide +kernel
theorem dX7_roundOf_60 : decode cX7_roundOf 60 = .ok (.iload_n 2, 1) := by decide +kernel
theorem dX7_roundOf_61 : decode cX7_roundOf 61 = .ok (.iload_n 3, 1) := by decide +kernel
theorem dX7_roundOf_62 : decode cX7_roundOf 62 = .ok (.invokevirtual 179, 3) := by decide +kernel
theorem dX7_roundOf_65 : decode cX7_roundOf 65 = .ok (.iconst 1, 1) := by decide +kernel
theorem dX7_roundOf_66 : decode cX7_roundOf 66 = .ok (.if_icmp .le 12, 3) := by decide +kernel
theorem dX7_roundOf_69 : decode cX7_roundOf 69 = .ok (.aload_n 0, 1) := by decide +kernel
theorem dX7_roundOf_70 : decode cX7_roundOf 70 = .ok (.iload_n 2, 1) := by decide +kernel
theorem dX7_roundOf_71 : decode cX7_roundOf 71 = .ok (.iload_n 3, 1) := by decide +kernel
theorem dX7_roundOf_72 : decode cX7_roundOf 72 = .ok (.invokevirtual 195, 3) := by decide +kernel
theorem dX7_roundOf_75 : decode cX7_roundOf 75 = .ok (.goto 22, 3) := by decide +kernel
theorem dX7_roundOf_78 : decode cX7_roundOf 78 = .ok (.iload_n 1, 1) := by decide +kernel
theorem dX7_roundOf_79 : decode cX7_roundOf 79 = .ok (.aload_n 0, 1) := by decide +kernel
theorem dX7_roundOf_80 : decode cX7_roundOf 80 = .ok (.iload_n 2, 1) := by decide +kernel
theorem dX7_roundOf_81 : decode cX7_roundOf 81 = .ok (.iload_n 3, 1) := by decide +kernel
theorem dX7_roundOf_82 : decode cX7_roundOf 82 = .ok (.invokevirtual 199, 3) := by decide +kernel
theorem dX7_roundOf_85 : decode cX7_roundOf 85 = .ok (.ifCond .eq 9, 3) := by decide +kernel
theorem dX7_roundOf_88 : decode cX7_roundOf 88 = .ok (.iconst 1, 1) := by decide +kernel
theorem dX7_roundOf_89 : decode cX7_roundOf 89 = .ok (.iload_n 3, 1) := by decide +kernel
theorem dX7_roundOf_90 : decode cX7_roundOf 90 = .ok (.ishl, 1) := by decide +kernel
theorem dX7_roundOf_91 : decode cX7_roundOf 91 = .ok (.goto 4, 3) := by decide +kernel
theorem dX7_roundOf_94 : decode cX7_roundOf 94 = .ok (.iconst 0, 1) := by decide +kernel
theorem dX7_roundOf_95 : decode cX7_roundOf 95 = .ok (.ior, 1) := by decide +kernel
theorem dX7_roundOf_96 : decode cX7_roundOf 96 = .ok (.istore_n 1, 1) := by decide +kernel
theorem dX7_roundOf_97 : decode cX7_roundOf 97 = .ok (.iinc 2 1, 3) := by decide +kernel
theorem dX7_roundOf_100 : decode cX7_roundOf 100 = .ok (.goto (-96), 3) := by decide +kernel
theorem dX7_roundOf_103 : decode cX7_roundOf 103 = .ok (.aload_n 0, 1) := by decide +kernel
theorem dX7_roundOf_104 : decode cX7_roundOf 104 = .ok (.dup, 1) := by decide +kernel
theorem dX7_roundOf_105 : decode cX7_roundOf 105 = .ok (.getfield 86, 3) := by decide +kernel
theorem dX7_roundOf_108 : decode cX7_roundOf 108 = .ok (.iconst 1, 1) := by decide +kernel
theorem dX7_roundOf_109 : decode cX7_roundOf 109 = .ok (.iadd, 1) := by decide +kernel
theorem dX7_roundOf_110 : decode cX7_roundOf 110 = .ok (.putfield 86, 3) := by decide +kernel
theorem dX7_roundOf_113 : decode cX7_roundOf 113 = .ok (.iload_n 1, 1) := by decide +kernel
theorem dX7_roundOf_114 : decode cX7_roundOf 114 = .ok (.ireturn, 1) := by decide +kernel
theorem dX7_round_0 : decode cX7_round 0 = .ok (.aload_n 0, 1) := by decide +kernel
theorem dX7_round_1 : decode cX7_round 1 = .ok (.getfield 86, 3) := by decide +kernel
theorem dX7_round_4 : decode cX7_round 4 = .ok (.sipush 999, 3) := by decide +kernel
theorem dX7_round_7 : decode cX7_round 7 = .ok (.if_icmp .ne 8, 3) := by decide +kernel
theorem dX7_round_10 : decode cX7_round 10 = .ok (.bipush (-3), 2) := by decide +kernel
theorem dX7_round_12 : decode cX7_round 12 = .ok (.goto 7, 3) := by decide +kernel
theorem dX7_round_15 : decode cX7_round 15 = .ok (.aload_n 0, 1) := by decide +kernel
theorem dX7_round_16 : decode cX7_round 16 = .ok (.invokevirtual 202, 3) := by decide +kernel
theorem dX7_round_19 : decode cX7_round 19 = .ok (.ireturn, 1) := by decide +kernel
theorem dX7_bell_0 : decode cX7_bell 0 = .ok (.iload_n 1, 1) := by decide +kernel
theorem dX7_bell_1 : decode cX7_bell 1 = .ok (.iconst 0, 1) := by decide +kernel
theorem dX7_bell_2 : decode cX7_bell 2 = .ok (.sipush 999, 3) := by decide +kernel
theorem dX7_bell_5 : decode cX7_bell 5 = .ok (.invokestatic 75, 3) := by decide +kernel
theorem dX7_bell_8 : decode cX7_bell 8 = .ok (.ifCond .ne 6, 3) := by decide +kernel
theorem dX7_bell_11 : decode cX7_bell 11 = .ok (.bipush (-2), 2) := by decide +kernel
theorem dX7_bell_13 : decode cX7_bell 13 = .ok (.ireturn, 1) := by decide +kernel
theorem dX7_bell_14 : decode cX7_bell 14 = .ok (.aload_n 0, 1) := by decide +kernel
theorem dX7_bell_15 : decode cX7_bell 15 = .ok (.getfield 86, 3) := by decide +kernel
theorem dX7_bell_18 : decode cX7_bell 18 = .ok (.istore_n 2, 1) := by decide +kernel
theorem dX7_bell_19 : decode cX7_bell 19 = .ok (.aload_n 0, 1) := by decide +kernel
theorem dX7_bell_20 : decode cX7_bell 20 = .ok (.iload_n 1, 1) := by decide +kernel
theorem dX7_bell_21 : decode cX7_bell 21 = .ok (.putfield 86, 3) := by decide +kernel
theorem dX7_bell_24 : decode cX7_bell 24 = .ok (.iload_n 2, 1) := by decide +kernel
theorem dX7_bell_25 : decode cX7_bell 25 = .ok (.ireturn, 1) := by decide +kernel
theorem dX7_keeps_0 : decode cX7_keeps 0 = .ok (.iconst 0, 1) := by decide +kernel
theorem dX7_keeps_1 : decode cX7_keeps 1 = .ok (.istore_n 1, 1) := by decide +kernel
theorem dX7_keeps_2 : decode cX7_keeps 2 = .ok (.iload_n 1, 1) := by decide +kernel
theorem dX7_keeps_3 : decode cX7_keeps 3 = .ok (.bipush 24, 2) := by decide +kernel
theorem dX7_keeps_5 : decode cX7_keeps 5 = .ok (.if_icmp .ge 21, 3) := by decide +kernel
theorem dX7_keeps_8 : decode cX7_keeps 8 = .ok (.aload_n 0, 1) := by decide +kernel
theorem dX7_keeps_9 : decode cX7_keeps 9 = .ok (.getfield 61, 3) := by decide +kernel
theorem dX7_keeps_12 : decode cX7_keeps 12 = .ok (.iload_n 1, 1) := by decide +kernel
theorem dX7_keeps_13 : decode cX7_keeps 13 = .ok (.aload_n 0, 1) := by decide +kernel
theorem dX7_keeps_14 : decode cX7_keeps 14 = .ok (.getfield 16, 3) := by decide +kernel
theorem dX7_keeps_17 : decode cX7_keeps 17 = .ok (.iload_n 1, 1) := by decide +kernel
theorem dX7_keeps_18 : decode cX7_keeps 18 = .ok (.iaload, 1) := by decide +kernel
theorem dX7_keeps_19 : decode cX7_keeps 19 = .ok (.iastore, 1) := by decide +kernel
theorem dX7_keeps_20 : decode cX7_keeps 20 = .ok (.iinc 1 1, 3) := by decide +kernel
theorem dX7_keeps_23 : decode cX7_keeps 23 = .ok (.goto (-21), 3) := by decide +kernel
theorem dX7_keeps_26 : decode cX7_keeps 26 = .ok (.iconst 0, 1) := by decide +kernel
theorem dX7_keeps_27 : decode cX7_keeps 27 = .ok (.istore_n 1, 1) := by decide +kernel
theorem dX7_keeps_28 : decode cX7_keeps 28 = .ok (.iload_n 1, 1) := by decide +kernel
theorem dX7_keeps_29 : decode cX7_keeps 29 = .ok (.bipush 36, 2) := by decide +kernel
theorem dX7_keeps_31 : decode cX7_keeps 31 = .ok (.if_icmp .ge 24, 3) := by decide +kernel
theorem dX7_keeps_34 : decode cX7_keeps 34 = .ok (.aload_n 0, 1) := by decide +kernel
theorem dX7_keeps_35 : decode cX7_keeps 35 = .ok (.getfield 61, 3) := by decide +kernel
theorem dX7_keeps_38 : decode cX7_keeps 38 = .ok (.bipush 24, 2) := by decide +kernel
theorem dX7_keeps_40 : decode cX7_keeps 40 = .ok (.iload_n 1, 1) := by decide +kernel
theorem dX7_keeps_41 : decode cX7_keeps 41 = .ok (.iadd, 1) := by decide +kernel
theorem dX7_keeps_42 : decode cX7_keeps 42 = .ok (.aload_n 0, 1) := by decide +kernel
theorem dX7_keeps_43 : decode cX7_keeps 43 = .ok (.getfield 19, 3) := by decide +kernel
theorem dX7_keeps_46 : decode cX7_keeps 46 = .ok (.iload_n 1, 1) := by decide +kernel
theorem dX7_keeps_47 : decode cX7_keeps 47 = .ok (.iaload, 1) := by decide +kernel
theorem dX7_keeps_48 : decode cX7_keeps 48 = .ok (.iastore, 1) := by decide +kernel
theorem dX7_keeps_49 : decode cX7_keeps 49 = .ok (.iinc 1 1, 3) := by decide +kernel
theorem dX7_keeps_52 : decode cX7_keeps 52 = .ok (.goto (-24), 3) := by decide +kernel
theorem dX7_keeps_55 : decode cX7_keeps 55 = .ok (.aload_n 0, 1) := by decide +kernel
theorem dX7_keeps_56 : decode cX7_keeps 56 = .ok (.getfield 61, 3) := by decide +kernel
theorem dX7_keeps_59 : decode cX7_keeps 59 = .ok (.bipush 60, 2) := by decide +kernel
theorem dX7_keeps_61 : decode cX7_keeps 61 = .ok (.aload_n 0, 1) := by decide +kernel
theorem dX7_keeps_62 : decode cX7_keeps 62 = .ok (.getfield 86, 3) := by decide +kernel
theorem dX7_keeps_65 : decode cX7_keeps 65 = .ok (.iastore, 1) := by decide +kernel
theorem dX7_keeps_66 : decode cX7_keeps 66 = .ok (.return_, 1) := by decide +kernel
theorem dX7_lays_0 : decode cX7_lays 0 = .ok (.iconst 0, 1) := by decide +kernel
theorem dX7_lays_1 : decode cX7_lays 1 = .ok (.istore_n 1, 1) := by decide +kernel
theorem dX7_lays_2 : decode cX7_lays 2 = .ok (.iload_n 1, 1) := by decide +kernel
theorem dX7_lays_3 : decode cX7_lays 3 = .ok (.bipush 24, 2) := by decide +kernel
theorem dX7_lays_5 : decode cX7_lays 5 = .ok (.if_icmp .ge 21, 3) := by decide +kernel
theorem dX7_lays_8 : decode cX7_lays 8 = .ok (.aload_n 0, 1) := by decide +kernel
theorem dX7_lays_9 : decode cX7_lays 9 = .ok (.getfield 16, 3) := by decide +kernel
theorem dX7_lays_12 : decode cX7_lays 12 = .ok (.iload_n 1, 1) := by decide +kernel
theorem dX7_lays_13 : decode cX7_lays 13 = .ok (.aload_n 0, 1) := by decide +kernel
theorem dX7_lays_14 : decode cX7_lays 14 = .ok (.getfield 61, 3) := by decide +kernel
theorem dX7_lays_17 : decode cX7_lays 17 = .ok (.iload_n 1, 1) := by decide +kernel
theorem dX7_lays_18 : decode cX7_lays 18 = .ok (.iaload, 1) := by decide +kernel
theorem dX7_lays_19 : decode cX7_lays 19 = .ok (.iastore, 1) := by decide +kernel
theorem dX7_lays_20 : decode cX7_lays 20 = .ok (.iinc 1 1, 3) := by decide +kernel
theorem dX7_lays_23 : decode cX7_lays 23 = .ok (.goto (-21), 3) := by decide +kernel
theorem dX7_lays_26 : decode cX7_lays 26 = .ok (.iconst 0, 1) := by decide +kernel
theorem dX7_lays_27 : decode cX7_lays 27 = .ok (.istore_n 1, 1) := by decide +kernel
theorem dX7_lays_28 : decode cX7_lays 28 = .ok (.iload_n 1, 1) := by decide +kernel
theorem dX7_lays_29 : decode cX7_lays 29 = .ok (.bipush 36, 2) := by decide +kernel
theorem dX7_lays_31 : decode cX7_lays 31 = .ok (.if_icmp .ge 24, 3) := by decide +kernel
theorem dX7_lays_34 : decode cX7_lays 34 = .ok (.aload_n 0, 1) := by decide +kernel
theorem dX7_lays_35 : decode cX7_lays 35 = .ok (.getfield 19, 3) := by decide +kernel
theorem dX7_lays_38 : decode cX7_lays 38 = .ok (.iload_n 1, 1) := by decide +kernel
theorem dX7_lays_39 : decode cX7_lays 39 = .ok (.aload_n 0, 1) := by decide +kernel
theorem dX7_lays_40 : decode cX7_lays 40 = .ok (.getfield 61, 3) := by decide +kernel
theorem dX7_lays_43 : decode cX7_lays 43 = .ok (.bipush 24, 2) := by decide +kernel
theorem dX7_lays_45 : decode cX7_lays 45 = .ok (.iload_n 1, 1) := by decide +kernel
theorem dX7_lays_46 : decode cX7_lays 46 = .ok (.iadd, 1) := by decide +kernel
theorem dX7_lays_47 : decode cX7_lays 47 = .ok (.iaload, 1) := by decide +kernel
theorem dX7_lays_48 : decode cX7_lays 48 = .ok (.iastore, 1) := by decide +kernel
theorem dX7_lays_49 : decode cX7_lays 49 = .ok (.iinc 1 1, 3) := by decide +kernel
theorem dX7_lays_52 : decode cX7_lays 52 = .ok (.goto (-24), 3) := by decide +kernel
theorem dX7_lays_55 : decode cX7_lays 55 = .ok (.aload_n 0, 1) := by decide +kernel
theorem dX7_lays_56 : decode cX7_lays 56 = .ok (.aload_n 0, 1) := by decide +kernel
theorem dX7_lays_57 : decode cX7_lays 57 = .ok (.getfield 61, 3) := by decide +kernel
theorem dX7_lays_60 : decode cX7_lays 60 = .ok (.bipush 60, 2) := by decide +kernel
theorem dX7_lays_62 : decode cX7_lays 62 = .ok (.iaload, 1) := by decide +kernel
theorem dX7_lays_63 : decode cX7_lays 63 = .ok (.putfield 86, 3) := by decide +kernel
theorem dX7_lays_66 : decode cX7_lays 66 = .ok (.return_, 1) := by decide +kernel
theorem dX7_passes_0 : decode cX7_passes 0 = .ok (.iconst 0, 1) := by decide +kernel
theorem dX7_passes_1 : decode cX7_passes 1 = .ok (.istore_n 2, 1) := by decide +kernel
theorem dX7_passes_2 : decode cX7_passes 2 = .ok (.iload_n 2, 1) := by decide +kernel
theorem dX7_passes_3 : decode cX7_passes 3 = .ok (.iload_n 1, 1) := by decide +kernel
theorem dX7_passes_4 : decode cX7_passes 4 = .ok (.if_icmp .ge 14, 3) := by decide +kernel
theorem dX7_passes_7 : decode cX7_passes 7 = .ok (.aload_n 0, 1) := by decide +kernel
theorem dX7_passes_8 : decode cX7_passes 8 = .ok (.invokevirtual 202, 3) := by decide +kernel
theorem dX7_passes_11 : decode cX7_passes 11 = .ok (.pop, 1) := by decide +kernel
theorem dX7_passes_12 : decode cX7_passes 12 = .ok (.iinc 2 1, 3) := by decide +kernel
theorem dX7_passes_15 : decode cX7_passes 15 = .ok (.goto (-13), 3) := by decide +kernel
theorem dX7_passes_18 : decode cX7_passes 18 = .ok (.return_, 1) := by decide +kernel
theorem dX7_run_0 : decode cX7_run 0 = .ok (.iload_n 2, 1) := by decide +kernel
theorem dX7_run_1 : decode cX7_run 1 = .ok (.bipush 10, 2) := by decide +kernel
theorem dX7_run_3 : decode cX7_run 3 = .ok (.irem, 1) := by decide +kernel
theorem dX7_run_4 : decode cX7_run 4 = .ok (.istore_n 3, 1) := by decide +kernel
theorem dX7_run_5 : decode cX7_run 5 = .ok (.iload_n 1, 1) := by decide +kernel
theorem dX7_run_6 : decode cX7_run 6 = .ok (.iconst 0, 1) := by decide +kernel
theorem dX7_run_7 : decode cX7_run 7 = .ok (.bipush 60, 2) := by decide +kernel
theorem dX7_run_9 : decode cX7_run 9 = .ok (.invokestatic 75, 3) := by decide +kernel
theorem dX7_run_12 : decode cX7_run 12 = .ok (.ifCond .eq 31, 3) := by decide +kernel
theorem dX7_run_15 : decode cX7_run 15 = .ok (.iload_n 2, 1) := by decide +kernel
theorem dX7_run_16 : decode cX7_run 16 = .ok (.iconst 0, 1) := by decide +kernel
theorem dX7_run_17 : decode cX7_run 17 = .ok (.iconst 1, 1) := by decide +kernel
theorem dX7_run_18 : decode cX7_run 18 = .ok (.invokestatic 75, 3) := by decide +kernel
theorem dX7_run_21 : decode cX7_run 21 = .ok (.ifCond .ne 25, 3) := by decide +kernel
theorem dX7_run_24 : decode cX7_run 24 = .ok (.iload_n 2, 1) := by decide +kernel
theorem dX7_run_25 : decode cX7_run 25 = .ok (.bipush 10, 2) := by decide +kernel
theorem dX7_run_27 : decode cX7_run 27 = .ok (.bipush 39, 2) := by decide +kernel
theorem dX7_run_29 : decode cX7_run 29 = .ok (.invokestatic 75, 3) := by decide +kernel
theorem dX7_run_32 : decode cX7_run 32 = .ok (.ifCond .eq 11, 3) := by decide +kernel
theorem dX7_run_35 : decode cX7_run 35 = .ok (.aload_n 0, 1) := by decide +kernel
theorem dX7_run_36 : decode cX7_run 36 = .ok (.iload_n 3, 1) := by decide +kernel
theorem dX7_run_37 : decode cX7_run 37 = .ok (.invokevirtual 79, 3) := by decide +kernel
theorem dX7_run_40 : decode cX7_run 40 = .ok (.ifCond .ne 6, 3) := by decide +kernel
theorem dX7_run_43 : decode cX7_run 43 = .ok (.bipush (-2), 2) := by decide +kernel
theorem dX7_run_45 : decode cX7_run 45 = .ok (.ireturn, 1) := by decide +kernel
theorem dX7_run_46 : decode cX7_run 46 = .ok (.aload_n 0, 1) := by decide +kernel
theorem dX7_run_47 : decode cX7_run 47 = .ok (.invokevirtual 205, 3) := by decide +kernel
theorem dX7_run_50 : decode cX7_run 50 = .ok (.aload_n 0, 1) := by decide +kernel
theorem dX7_run_51 : decode cX7_run 51 = .ok (.iload_n 1, 1) := by decide +kernel
theorem dX7_run_52 : decode cX7_run 52 = .ok (.invokevirtual 208, 3) := by decide +kernel
theorem dX7_run_55 : decode cX7_run 55 = .ok (.iconst 0, 1) := by decide +kernel
theorem dX7_run_56 : decode cX7_run 56 = .ok (.istore 4, 2) := by decide +kernel
theorem dX7_run_58 : decode cX7_run 58 = .ok (.iload_n 2, 1) := by decide +kernel
theorem dX7_run_59 : decode cX7_run 59 = .ok (.iconst 2, 1) := by decide +kernel
theorem dX7_run_60 : decode cX7_run 60 = .ok (.if_icmp .ge 23, 3) := by decide +kernel
theorem dX7_run_63 : decode cX7_run 63 = .ok (.iload_n 2, 1) := by decide +kernel
theorem dX7_run_64 : decode cX7_run 64 = .ok (.ifCond .ne 10, 3) := by decide +kernel
theorem dX7_run_67 : decode cX7_run 67 = .ok (.aload_n 0, 1) := by decide +kernel
theorem dX7_run_68 : decode cX7_run 68 = .ok (.invokevirtual 89, 3) := by decide +kernel
theorem dX7_run_71 : decode cX7_run 71 = .ok (.goto 7, 3) := by decide +kernel
theorem dX7_run_74 : decode cX7_run 74 = .ok (.aload_n 0, 1) := by decide +kernel
theorem dX7_run_75 : decode cX7_run 75 = .ok (.invokevirtual 211, 3) := by decide +kernel
theorem dX7_run_78 : decode cX7_run 78 = .ok (.istore 4, 2) := by decide +kernel
theorem dX7_run_80 : decode cX7_run 80 = .ok (.goto 35, 3) := by decide +kernel
theorem dX7_run_83 : decode cX7_run 83 = .ok (.aload_n 0, 1) := by decide +kernel
theorem dX7_run_84 : decode cX7_run 84 = .ok (.getfield 16, 3) := by decide +kernel
theorem dX7_run_87 : decode cX7_run 87 = .ok (.iconst 4, 1) := by decide +kernel
theorem dX7_run_88 : decode cX7_run 88 = .ok (.iload_n 3, 1) := by decide +kernel
theorem dX7_run_89 : decode cX7_run 89 = .ok (.imul, 1) := by decide +kernel
theorem dX7_run_90 : decode cX7_run 90 = .ok (.iload_n 2, 1) := by decide +kernel
theorem dX7_run_91 : decode cX7_run 91 = .ok (.bipush 20, 2) := by decide +kernel
theorem dX7_run_93 : decode cX7_run 93 = .ok (.if_icmp .ge 7, 3) := by decide +kernel
theorem dX7_run_96 : decode cX7_run 96 = .ok (.iconst 0, 1) := by decide +kernel
theorem dX7_run_97 : decode cX7_run 97 = .ok (.goto 14, 3) := by decide +kernel
theorem dX7_run_100 : decode cX7_run 100 = .ok (.iload_n 2, 1) := by decide +kernel
theorem dX7_run_101 : decode cX7_run 101 = .ok (.bipush 30, 2) := by decide +kernel
theorem dX7_run_103 : decode cX7_run 103 = .ok (.if_icmp .ge 7, 3) := by decide +kernel
theorem dX7_run_106 : decode cX7_run 106 = .ok (.iconst 1, 1) := by decide +kernel
theorem dX7_run_107 : decode cX7_run 107 = .ok (.goto 4, 3) := by decide +kernel
theorem dX7_run_110 : decode cX7_run 110 = .ok (.iconst 3, 1) := by decide +kernel
theorem dX7_run_111 : decode cX7_run 111 = .ok (.iadd, 1) := by decide +kernel
theorem dX7_run_112 : decode cX7_run 112 = .ok (.iaload, 1) := by decide +kernel
theorem dX7_run_113 : decode cX7_run 113 = .ok (.istore 4, 2) := by decide +kernel
theorem dX7_run_115 : decode cX7_run 115 = .ok (.aload_n 0, 1) := by decide +kernel
theorem dX7_run_116 : decode cX7_run 116 = .ok (.invokevirtual 214, 3) := by decide +kernel
theorem dX7_run_119 : decode cX7_run 119 = .ok (.iload 4, 2) := by decide +kernel
theorem dX7_run_121 : decode cX7_run 121 = .ok (.ireturn, 1) := by decide +kernel
theorem dX7_when_0 : decode cX7_when 0 = .ok (.iload_n 1, 1) := by decide +kernel
theorem dX7_when_1 : decode cX7_when 1 = .ok (.bipush 6, 2) := by decide +kernel
theorem dX7_when_3 : decode cX7_when 3 = .ok (.if_icmp .eq 23, 3) := by decide +kernel
theorem dX7_when_6 : decode cX7_when 6 = .ok (.iload_n 1, 1) := by decide +kernel
theorem dX7_when_7 : decode cX7_when 7 = .ok (.iconst 0, 1) := by decide +kernel
theorem dX7_when_8 : decode cX7_when 8 = .ok (.iconst 5, 1) := by decide +kernel
theorem dX7_when_9 : decode cX7_when 9 = .ok (.invokestatic 75, 3) := by decide +kernel
theorem dX7_when_12 : decode cX7_when 12 = .ok (.ifCond .eq 11, 3) := by decide +kernel
theorem dX7_when_15 : decode cX7_when 15 = .ok (.aload_n 0, 1) := by decide +kernel
theorem dX7_when_16 : decode cX7_when 16 = .ok (.iload_n 1, 1) := by decide +kernel
theorem dX7_when_17 : decode cX7_when 17 = .ok (.invokevirtual 79, 3) := by decide +kernel
theorem dX7_when_20 : decode cX7_when 20 = .ok (.ifCond .ne 6, 3) := by decide +kernel
theorem dX7_when_23 : decode cX7_when 23 = .ok (.bipush (-5), 2) := by decide +kernel
theorem dX7_when_25 : decode cX7_when 25 = .ok (.ireturn, 1) := by decide +kernel
theorem dX7_when_26 : decode cX7_when 26 = .ok (.iconst (-1), 1) := by decide +kernel
theorem dX7_when_27 : decode cX7_when 27 = .ok (.istore_n 2, 1) := by decide +kernel
theorem dX7_when_28 : decode cX7_when 28 = .ok (.aload_n 0, 1) := by decide +kernel
theorem dX7_when_29 : decode cX7_when 29 = .ok (.invokevirtual 205, 3) := by decide +kernel
theorem dX7_when_32 : decode cX7_when 32 = .ok (.iconst 0, 1) := by decide +kernel
theorem dX7_when_33 : decode cX7_when 33 = .ok (.istore_n 3, 1) := by decide +kernel
theorem dX7_when_34 : decode cX7_when 34 = .ok (.iload_n 3, 1) := by decide +kernel
theorem dX7_when_35 : decode cX7_when 35 = .ok (.bipush 60, 2) := by decide +kernel
theorem dX7_when_37 : decode cX7_when 37 = .ok (.if_icmp .gt 75, 3) := by decide +kernel
theorem dX7_when_40 : decode cX7_when 40 = .ok (.iload_n 2, 1) := by decide +kernel
theorem dX7_when_41 : decode cX7_when 41 = .ok (.iconst (-1), 1) := by decide +kernel
theorem dX7_when_42 : decode cX7_when 42 = .ok (.if_icmp .ne 70, 3) := by decide +kernel
theorem dX7_when_45 : decode cX7_when 45 = .ok (.iload_n 1, 1) := by decide +kernel
theorem dX7_when_46 : decode cX7_when 46 = .ok (.bipush 6, 2) := by decide +kernel
theorem dX7_when_48 : decode cX7_when 48 = .ok (.if_icmp .ne 22, 3) := by decide +kernel
theorem dX7_when_51 : decode cX7_when 51 = .ok (.aload_n 0, 1) := by decide +kernel
theorem dX7_when_52 : decode cX7_when 52 = .ok (.invokevirtual 89, 3) := by decide +kernel
theorem dX7_when_55 : decode cX7_when 55 = .ok (.invokestatic 92, 3) := by decide +kernel
theorem dX7_when_58 : decode cX7_when 58 = .ok (.iconst 2, 1) := by decide +kernel
theorem dX7_when_59 : decode cX7_when 59 = .ok (.if_icmp .ge 7, 3) := by decide +kernel
theorem dX7_when_62 : decode cX7_when 62 = .ok (.iconst 1, 1) := by decide +kernel
theorem dX7_when_63 : decode cX7_when 63 = .ok (.goto 25, 3) := by decide +kernel
theorem dX7_when_66 : decode cX7_when 66 = .ok (.iconst 0, 1) := by decide +kernel
theorem dX7_when_67 : decode cX7_when 67 = .ok (.goto 21, 3) := by decide +kernel
theorem dX7_when_70 : decode cX7_when 70 = .ok (.aload_n 0, 1) := by decide +kernel
theorem dX7_when_71 : decode cX7_when 71 = .ok (.iload_n 1, 1) := by decide +kernel
theorem dX7_when_72 : decode cX7_when 72 = .ok (.iconst 0, 1) := by decide +kernel
theorem dX7_when_73 : decode cX7_when 73 = .ok (.iconst 5, 1) := by decide +kernel
theorem dX7_when_74 : decode cX7_when 74 = .ok (.invokestatic 167, 3) := by decide +kernel
theorem dX7_when_77 : decode cX7_when 77 = .ok (.invokevirtual 83, 3) := by decide +kernel
theorem dX7_when_80 : decode cX7_when 80 = .ok (.ifCond .ne 7, 3) := by decide +kernel
theorem dX7_when_83 : decode cX7_when 83 = .ok (.iconst 1, 1) := by decide +kernel
theorem dX7_when_84 : decode cX7_when 84 = .ok (.goto 4, 3) := by decide +kernel
theorem dX7_when_87 : decode cX7_when 87 = .ok (.iconst 0, 1) := by decide +kernel
theorem dX7_when_88 : decode cX7_when 88 = .ok (.istore 4, 2) := by decide +kernel
theorem dX7_when_90 : decode cX7_when 90 = .ok (.iload 4, 2) := by decide +kernel
theorem dX7_when_92 : decode cX7_when 92 = .ok (.ifCond .eq 7, 3) := by decide +kernel
theorem dX7_when_95 : decode cX7_when 95 = .ok (.iload_n 3, 1) := by decide +kernel
theorem dX7_when_96 : decode cX7_when 96 = .ok (.goto 4, 3) := by decide +kernel
theorem dX7_when_99 : decode cX7_when 99 = .ok (.iconst (-1), 1) := by decide +kernel
theorem dX7_when_100 : decode cX7_when 100 = .ok (.istore_n 2, 1) := by decide +kernel
theorem dX7_when_101 : decode cX7_when 101 = .ok (.aload_n 0, 1) := by decide +kernel
theorem dX7_when_102 : decode cX7_when 102 = .ok (.invokevirtual 202, 3) := by decide +kernel
theorem dX7_when_105 : decode cX7_when 105 = .ok (.pop, 1) := by decide +kernel
theorem dX7_when_106 : decode cX7_when 106 = .ok (.iinc 3 1, 3) := by decide +kernel
theorem dX7_when_109 : decode cX7_when 109 = .ok (.goto (-75), 3) := by decide +kernel
theorem dX7_when_112 : decode cX7_when 112 = .ok (.aload_n 0, 1) := by decide +kernel
theorem dX7_when_113 : decode cX7_when 113 = .ok (.invokevirtual 214, 3) := by decide +kernel
theorem dX7_when_116 : decode cX7_when 116 = .ok (.iload_n 2, 1) := by decide +kernel
theorem dX7_when_117 : decode cX7_when 117 = .ok (.ireturn, 1) := by decide +kernel
theorem dX7_mostFelt_0 : decode cX7_mostFelt 0 = .ok (.iconst (-1), 1) := by decide +kernel
theorem dX7_mostFelt_1 : decode cX7_mostFelt 1 = .ok (.istore_n 1, 1) := by decide +kernel
theorem dX7_mostFelt_2 : decode cX7_mostFelt 2 = .ok (.iconst 0, 1) := by decide +kernel
theorem dX7_mostFelt_3 : decode cX7_mostFelt 3 = .ok (.istore_n 2, 1) := by decide +kernel
theorem dX7_mostFelt_4 : decode cX7_mostFelt 4 = .ok (.iload_n 2, 1) := by decide +kernel
theorem dX7_mostFelt_5 : decode cX7_mostFelt 5 = .ok (.aload_n 0, 1) := by decide +kernel
theorem dX7_mostFelt_6 : decode cX7_mostFelt 6 = .ok (.getfield 72, 3) := by decide +kernel
theorem dX7_mostFelt_9 : decode cX7_mostFelt 9 = .ok (.if_icmp .ge 71, 3) := by decide +kernel
theorem dX7_mostFelt_12 : decode cX7_mostFelt 12 = .ok (.aload_n 0, 1) := by decide +kernel
theorem dX7_mostFelt_13 : decode cX7_mostFelt 13 = .ok (.iload_n 2, 1) := by decide +kernel
theorem dX7_mostFelt_14 : decode cX7_mostFelt 14 = .ok (.invokevirtual 83, 3) := by decide +kernel
theorem dX7_mostFelt_17 : decode cX7_mostFelt 17 = .ok (.ifCond .eq 57, 3) := by decide +kernel
theorem dX7_mostFelt_20 : decode cX7_mostFelt 20 = .ok (.iload_n 1, 1) := by decide +kernel
theorem dX7_mostFelt_21 : decode cX7_mostFelt 21 = .ok (.iconst (-1), 1) := by decide +kernel
theorem dX7_mostFelt_22 : decode cX7_mostFelt 22 = .ok (.if_icmp .ne 7, 3) := by decide +kernel
theorem dX7_mostFelt_25 : decode cX7_mostFelt 25 = .ok (.iconst 1, 1) := by decide +kernel
theorem dX7_mostFelt_26 : decode cX7_mostFelt 26 = .ok (.goto 4, 3) := by decide +kernel
theorem dX7_mostFelt_29 : decode cX7_mostFelt 29 = .ok (.iconst 0, 1) := by decide +kernel
theorem dX7_mostFelt_30 : decode cX7_mostFelt 30 = .ok (.istore_n 3, 1) := by decide +kernel
theorem dX7_mostFelt_31 : decode cX7_mostFelt 31 = .ok (.iload_n 3, 1) := by decide +kernel
theorem dX7_mostFelt_32 : decode cX7_mostFelt 32 = .ok (.ifCond .ne 32, 3) := by decide +kernel
theorem dX7_mostFelt_35 : decode cX7_mostFelt 35 = .ok (.aload_n 0, 1) := by decide +kernel
theorem dX7_mostFelt_36 : decode cX7_mostFelt 36 = .ok (.getfield 16, 3) := by decide +kernel
theorem dX7_mostFelt_39 : decode cX7_mostFelt 39 = .ok (.iconst 4, 1) := by decide +kernel
theorem dX7_mostFelt_40 : decode cX7_mostFelt 40 = .ok (.iload_n 2, 1) := by decide +kernel
theorem dX7_mostFelt_41 : decode cX7_mostFelt 41 = .ok (.imul, 1) := by decide +kernel
theorem dX7_mostFelt_42 : decode cX7_mostFelt 42 = .ok (.iconst 1, 1) := by decide +kernel
theorem dX7_mostFelt_43 : decode cX7_mostFelt 43 = .ok (.iadd, 1) := by decide +kernel
theorem dX7_mostFelt_44 : decode cX7_mostFelt 44 = .ok (.iaload, 1) := by decide +kernel
theorem dX7_mostFelt_45 : decode cX7_mostFelt 45 = .ok (.aload_n 0, 1) := by decide +kernel
theorem dX7_mostFelt_46 : decode cX7_mostFelt 46 = .ok (.getfield 16, 3) := by decide +kernel
theorem dX7_mostFelt_49 : decode cX7_mostFelt 49 = .ok (.iconst 4, 1) := by decide +kernel
theorem dX7_mostFelt_50 : decode cX7_mostFelt 50 = .ok (.iload_n 1, 1) := by decide +kernel
theorem dX7_mostFelt_51 : decode cX7_mostFelt 51 = .ok (.imul, 1) := by decide +kernel
theorem dX7_mostFelt_52 : decode cX7_mostFelt 52 = .ok (.iconst 1, 1) := by decide +kernel
theorem dX7_mostFelt_53 : decode cX7_mostFelt 53 = .ok (.iadd, 1) := by decide +kernel
theorem dX7_mostFelt_54 : decode cX7_mostFelt 54 = .ok (.iaload, 1) := by decide +kernel
theorem dX7_mostFelt_55 : decode cX7_mostFelt 55 = .ok (.if_icmp .le 7, 3) := by decide +kernel
theorem dX7_mostFelt_58 : decode cX7_mostFelt 58 = .ok (.iconst 1, 1) := by decide +kernel
theorem dX7_mostFelt_59 : decode cX7_mostFelt 59 = .ok (.goto 4, 3) := by decide +kernel
theorem dX7_mostFelt_62 : decode cX7_mostFelt 62 = .ok (.iconst 0, 1) := by decide +kernel
theorem dX7_mostFelt_63 : decode cX7_mostFelt 63 = .ok (.istore_n 3, 1) := by decide +kernel
theorem dX7_mostFelt_64 : decode cX7_mostFelt 64 = .ok (.iload_n 3, 1) := by decide +kernel
theorem dX7_mostFelt_65 : decode cX7_mostFelt 65 = .ok (.ifCond .eq 7, 3) := by decide +kernel
theorem dX7_mostFelt_68 : decode cX7_mostFelt 68 = .ok (.iload_n 2, 1) := by decide +kernel
theorem dX7_mostFelt_69 : decode cX7_mostFelt 69 = .ok (.goto 4, 3) := by decide +kernel
theorem dX7_mostFelt_72 : decode cX7_mostFelt 72 = .ok (.iload_n 1, 1) := by decide +kernel
theorem dX7_mostFelt_73 : decode cX7_mostFelt 73 = .ok (.istore_n 1, 1) := by decide +kernel
theorem dX7_mostFelt_74 : decode cX7_mostFelt 74 = .ok (.iinc 2 1, 3) := by decide +kernel
theorem dX7_mostFelt_77 : decode cX7_mostFelt 77 = .ok (.goto (-73), 3) := by decide +kernel
theorem dX7_mostFelt_80 : decode cX7_mostFelt 80 = .ok (.iload_n 1, 1) := by decide +kernel
theorem dX7_mostFelt_81 : decode cX7_mostFelt 81 = .ok (.ireturn, 1) := by decide +kernel
theorem dX7_end_0 : decode cX7_end 0 = .ok (.iload_n 1, 1) := by decide +kernel
theorem dX7_end_1 : decode cX7_end 1 = .ok (.iconst 0, 1) := by decide +kernel
theorem dX7_end_2 : decode cX7_end 2 = .ok (.iconst 3, 1) := by decide +kernel
theorem dX7_end_3 : decode cX7_end 3 = .ok (.invokestatic 75, 3) := by decide +kernel
theorem dX7_end_6 : decode cX7_end 6 = .ok (.ifCond .ne 6, 3) := by decide +kernel
theorem dX7_end_9 : decode cX7_end 9 = .ok (.bipush (-2), 2) := by decide +kernel
theorem dX7_end_11 : decode cX7_end 11 = .ok (.ireturn, 1) := by decide +kernel
theorem dX7_end_12 : decode cX7_end 12 = .ok (.iconst (-1), 1) := by decide +kernel
theorem dX7_end_13 : decode cX7_end 13 = .ok (.istore_n 2, 1) := by decide +kernel
theorem dX7_end_14 : decode cX7_end 14 = .ok (.iconst (-1), 1) := by decide +kernel
theorem dX7_end_15 : decode cX7_end 15 = .ok (.istore_n 3, 1) := by decide +kernel
theorem dX7_end_16 : decode cX7_end 16 = .ok (.aload_n 0, 1) := by decide +kernel
theorem dX7_end_17 : decode cX7_end 17 = .ok (.invokevirtual 205, 3) := by decide +kernel
theorem dX7_end_20 : decode cX7_end 20 = .ok (.iconst 0, 1) := by decide +kernel
theorem dX7_end_21 : decode cX7_end 21 = .ok (.istore 4, 2) := by decide +kernel
theorem dX7_end_23 : decode cX7_end 23 = .ok (.iload 4, 2) := by decide +kernel
theorem dX7_end_25 : decode cX7_end 25 = .ok (.bipush 60, 2) := by decide +kernel
theorem dX7_end_27 : decode cX7_end 27 = .ok (.if_icmp .ge 60, 3) := by decide +kernel
theorem dX7_end_30 : decode cX7_end 30 = .ok (.aload_n 0, 1) := by decide +kernel
theorem dX7_end_31 : decode cX7_end 31 = .ok (.invokevirtual 202, 3) := by decide +kernel
theorem dX7_end_34 : decode cX7_end 34 = .ok (.istore 5, 2) := by decide +kernel
theorem dX7_end_36 : decode cX7_end 36 = .ok (.iload 5, 2) := by decide +kernel
theorem dX7_end_38 : decode cX7_end 38 = .ok (.ifCond .eq 43, 3) := by decide +kernel
theorem dX7_end_41 : decode cX7_end 41 = .ok (.iload_n 2, 1) := by decide +kernel
theorem dX7_end_42 : decode cX7_end 42 = .ok (.iconst (-1), 1) := by decide +kernel
theorem dX7_end_43 : decode cX7_end 43 = .ok (.if_icmp .ne 38, 3) := by decide +kernel
theorem dX7_end_46 : decode cX7_end 46 = .ok (.iload 4, 2) := by decide +kernel
theorem dX7_end_48 : decode cX7_end 48 = .ok (.istore_n 3, 1) := by decide +kernel
theorem dX7_end_49 : decode cX7_end 49 = .ok (.iconst 5, 1) := by decide +kernel
theorem dX7_end_50 : decode cX7_end 50 = .ok (.istore 6, 2) := by decide +kernel
theorem dX7_end_52 : decode cX7_end 52 = .ok (.iload 6, 2) := by decide +kernel
theorem dX7_end_54 : decode cX7_end 54 = .ok (.ifCond .lt 27, 3) := by decide +kernel
theorem dX7_end_57 : decode cX7_end 57 = .ok (.iload 5, 2) := by decide +kernel
theorem dX7_end_59 : decode cX7_end 59 = .ok (.iload 6, 2) := by decide +kernel
theorem dX7_end_61 : decode cX7_end 61 = .ok (.ishr, 1) := by decide +kernel
theorem dX7_end_62 : decode cX7_end 62 = .ok (.iconst 1, 1) := by decide +kernel
theorem dX7_end_63 : decode cX7_end 63 = .ok (.iand, 1) := by decide +kernel
theorem dX7_end_64 : decode cX7_end 64 = .ok (.iconst 1, 1) := by decide +kernel
theorem dX7_end_65 : decode cX7_end 65 = .ok (.if_icmp .ne 8, 3) := by decide +kernel
theorem dX7_end_68 : decode cX7_end 68 = .ok (.iload 6, 2) := by decide +kernel
theorem dX7_end_70 : decode cX7_end 70 = .ok (.goto 4, 3) := by decide +kernel
theorem dX7_end_73 : decode cX7_end 73 = .ok (.iload_n 2, 1) := by decide +kernel
theorem dX7_end_74 : decode cX7_end 74 = .ok (.istore_n 2, 1) := by decide +kernel
theorem dX7_end_75 : decode cX7_end 75 = .ok (.iinc 6 (-1), 3) := by decide +kernel
theorem dX7_end_78 : decode cX7_end 78 = .ok (.goto (-26), 3) := by decide +kernel
theorem dX7_end_81 : decode cX7_end 81 = .ok (.iinc 4 1, 3) := by decide +kernel
theorem dX7_end_84 : decode cX7_end 84 = .ok (.goto (-61), 3) := by decide +kernel
theorem dX7_end_87 : decode cX7_end 87 = .ok (.aload_n 0, 1) := by decide +kernel
theorem dX7_end_88 : decode cX7_end 88 = .ok (.invokevirtual 217, 3) := by decide +kernel
theorem dX7_end_91 : decode cX7_end 91 = .ok (.istore 4, 2) := by decide +kernel
theorem dX7_end_93 : decode cX7_end 93 = .ok (.iconst 0, 1) := by decide +kernel
theorem dX7_end_94 : decode cX7_end 94 = .ok (.istore 5, 2) := by decide +kernel
theorem dX7_end_96 : decode cX7_end 96 = .ok (.iload 4, 2) := by decide +kernel
theorem dX7_end_98 : decode cX7_end 98 = .ok (.iconst (-1), 1) := by decide +kernel
theorem dX7_end_99 : decode cX7_end 99 = .ok (.if_icmp .eq 16, 3) := by decide +kernel
theorem dX7_end_102 : decode cX7_end 102 = .ok (.aload_n 0, 1) := by decide +kernel
theorem dX7_end_103 : decode cX7_end 103 = .ok (.getfield 16, 3) := by decide +kernel
theorem dX7_end_106 : decode cX7_end 106 = .ok (.iconst 4, 1) := by decide +kernel
theorem dX7_end_107 : decode cX7_end 107 = .ok (.iload 4, 2) := by decide +kernel
theorem dX7_end_109 : decode cX7_end 109 = .ok (.imul, 1) := by decide +kernel
theorem dX7_end_110 : decode cX7_end 110 = .ok (.iconst 1, 1) := by decide +kernel
theorem dX7_end_111 : decode cX7_end 111 = .ok (.iadd, 1) := by decide +kernel
theorem dX7_end_112 : decode cX7_end 112 = .ok (.iaload, 1) := by decide +kernel
theorem dX7_end_113 : decode cX7_end 113 = .ok (.istore 5, 2) := by decide +kernel
theorem dX7_end_115 : decode cX7_end 115 = .ok (.aload_n 0, 1) := by decide +kernel
theorem dX7_end_116 : decode cX7_end 116 = .ok (.invokevirtual 214, 3) := by decide +kernel
theorem dX7_end_119 : decode cX7_end 119 = .ok (.iload_n 1, 1) := by decide +kernel
theorem dX7_end_120 : decode cX7_end 120 = .ok (.ifCond .ne 8, 3) := by decide +kernel
theorem dX7_end_123 : decode cX7_end 123 = .ok (.iload 4, 2) := by decide +kernel
theorem dX7_end_125 : decode cX7_end 125 = .ok (.goto 23, 3) := by decide +kernel
theorem dX7_end_128 : decode cX7_end 128 = .ok (.iload_n 1, 1) := by decide +kernel
theorem dX7_end_129 : decode cX7_end 129 = .ok (.iconst 1, 1) := by decide +kernel
theorem dX7_end_130 : decode cX7_end 130 = .ok (.if_icmp .ne 8, 3) := by decide +kernel
theorem dX7_end_133 : decode cX7_end 133 = .ok (.iload 5, 2) := by decide +kernel
theorem dX7_end_135 : decode cX7_end 135 = .ok (.goto 13, 3) := by decide +kernel
theorem dX7_end_138 : decode cX7_end 138 = .ok (.iload_n 1, 1) := by decide +kernel
theorem dX7_end_139 : decode cX7_end 139 = .ok (.iconst 2, 1) := by decide +kernel
theorem dX7_end_140 : decode cX7_end 140 = .ok (.if_icmp .ne 7, 3) := by decide +kernel
theorem dX7_end_143 : decode cX7_end 143 = .ok (.iload_n 2, 1) := by decide +kernel
theorem dX7_end_144 : decode cX7_end 144 = .ok (.goto 4, 3) := by decide +kernel
theorem dX7_end_147 : decode cX7_end 147 = .ok (.iload_n 3, 1) := by decide +kernel
theorem dX7_end_148 : decode cX7_end 148 = .ok (.ireturn, 1) := by decide +kernel
theorem dX7_beaten_0 : decode cX7_beaten 0 = .ok (.aload_n 0, 1) := by decide +kernel
theorem dX7_beaten_1 : decode cX7_beaten 1 = .ok (.iload_n 1, 1) := by decide +kernel
theorem dX7_beaten_2 : decode cX7_beaten 2 = .ok (.invokevirtual 79, 3) := by decide +kernel
theorem dX7_beaten_5 : decode cX7_beaten 5 = .ok (.ifCond .ne 6, 3) := by decide +kernel
theorem dX7_beaten_8 : decode cX7_beaten 8 = .ok (.bipush (-5), 2) := by decide +kernel
theorem dX7_beaten_10 : decode cX7_beaten 10 = .ok (.ireturn, 1) := by decide +kernel
theorem dX7_beaten_11 : decode cX7_beaten 11 = .ok (.iload_n 2, 1) := by decide +kernel
theorem dX7_beaten_12 : decode cX7_beaten 12 = .ok (.iconst 0, 1) := by decide +kernel
theorem dX7_beaten_13 : decode cX7_beaten 13 = .ok (.iconst 1, 1) := by decide +kernel
theorem dX7_beaten_14 : decode cX7_beaten 14 = .ok (.invokestatic 75, 3) := by decide +kernel
theorem dX7_beaten_17 : decode cX7_beaten 17 = .ok (.ifCond .ne 6, 3) := by decide +kernel
theorem dX7_beaten_20 : decode cX7_beaten 20 = .ok (.bipush (-7), 2) := by decide +kernel
theorem dX7_beaten_22 : decode cX7_beaten 22 = .ok (.ireturn, 1) := by decide +kernel
theorem dX7_beaten_23 : decode cX7_beaten 23 = .ok (.iconst 0, 1) := by decide +kernel
theorem dX7_beaten_24 : decode cX7_beaten 24 = .ok (.istore_n 3, 1) := by decide +kernel
theorem dX7_beaten_25 : decode cX7_beaten 25 = .ok (.aload_n 0, 1) := by decide +kernel
theorem dX7_beaten_26 : decode cX7_beaten 26 = .ok (.invokevirtual 205, 3) := by decide +kernel
theorem dX7_beaten_29 : decode cX7_beaten 29 = .ok (.iconst 0, 1) := by decide +kernel
theorem dX7_beaten_30 : decode cX7_beaten 30 = .ok (.istore 4, 2) := by decide +kernel
theorem dX7_beaten_32 : decode cX7_beaten 32 = .ok (.iload 4, 2) := by decide +kernel
theorem dX7_beaten_34 : decode cX7_beaten 34 = .ok (.aload_n 0, 1) := by decide +kernel
theorem dX7_beaten_35 : decode cX7_beaten 35 = .ok (.getfield 72, 3) := by decide +kernel
theorem dX7_beaten_38 : decode cX7_beaten 38 = .ok (.if_icmp .ge 110, 3) := by decide +kernel
theorem dX7_beaten_41 : decode cX7_beaten 41 = .ok (.iload 4, 2) := by decide +kernel
theorem dX7_beaten_43 : decode cX7_beaten 43 = .ok (.iload_n 1, 1) := by decide +kernel
theorem dX7_beaten_44 : decode cX7_beaten 44 = .ok (.if_icmp .eq 98, 3) := by decide +kernel
theorem dX7_beaten_47 : decode cX7_beaten 47 = .ok (.iconst 0, 1) := by decide +kernel
theorem dX7_beaten_48 : decode cX7_beaten 48 = .ok (.istore 5, 2) := by decide +kernel
theorem dX7_beaten_50 : decode cX7_beaten 50 = .ok (.iload 5, 2) := by decide +kernel
theorem dX7_beaten_52 : decode cX7_beaten 52 = .ok (.aload_n 0, 1) := by decide +kernel
theorem dX7_beaten_53 : decode cX7_beaten 53 = .ok (.getfield 72, 3) := by decide +kernel
theorem dX7_beaten_56 : decode cX7_beaten 56 = .ok (.if_icmp .ge 48, 3) := by decide +kernel
theorem dX7_beaten_59 : decode cX7_beaten 59 = .ok (.aload_n 0, 1) := by decide +kernel
theorem dX7_beaten_60 : decode cX7_beaten 60 = .ok (.getfield 16, 3) := by decide +kernel
theorem dX7_beaten_63 : decode cX7_beaten 63 = .ok (.iconst 4, 1) := by decide +kernel
theorem dX7_beaten_64 : decode cX7_beaten 64 = .ok (.iload 5, 2) := by decide +kernel
theorem dX7_beaten_66 : decode cX7_beaten 66 = .ok (.imul, 1) := by decide +kernel
theorem dX7_beaten_67 : decode cX7_beaten 67 = .ok (.iconst 1, 1) := by decide +kernel
theorem dX7_beaten_68 : decode cX7_beaten 68 = .ok (.iadd, 1) := by decide +kernel
theorem dX7_beaten_69 : decode cX7_beaten 69 = .ok (.iload 5, 2) := by decide +kernel
theorem dX7_beaten_71 : decode cX7_beaten 71 = .ok (.iload_n 1, 1) := by decide +kernel
theorem dX7_beaten_72 : decode cX7_beaten 72 = .ok (.if_icmp .eq 10, 3) := by decide +kernel
theorem dX7_beaten_75 : decode cX7_beaten 75 = .ok (.iload 5, 2) := by decide +kernel
theorem dX7_beaten_77 : decode cX7_beaten 77 = .ok (.iload 4, 2) := by decide +kernel
theorem dX7_beaten_79 : decode cX7_beaten 79 = .ok (.if_icmp .ne 17, 3) := by decide +kernel
theorem dX7_beaten_82 : decode cX7_beaten 82 = .ok (.aload_n 0, 1) := by decide +kernel
theorem dX7_beaten_83 : decode cX7_beaten 83 = .ok (.getfield 16, 3) := by decide +kernel
theorem dX7_beaten_86 : decode cX7_beaten 86 = .ok (.iconst 4, 1) := by decide +kernel
theorem dX7_beaten_87 : decode cX7_beaten 87 = .ok (.iload 5, 2) := by decide +kernel
theorem dX7_beaten_89 : decode cX7_beaten 89 = .ok (.imul, 1) := by decide +kernel
theorem dX7_beaten_90 : decode cX7_beaten 90 = .ok (.iconst 1, 1) := by decide +kernel
theorem dX7_beaten_91 : decode cX7_beaten 91 = .ok (.iadd, 1) := by decide +kernel
theorem dX7_beaten_92 : decode cX7_beaten 92 = .ok (.iaload, 1) := by decide +kernel
theorem dX7_beaten_93 : decode cX7_beaten 93 = .ok (.goto 4, 3) := by decide +kernel
theorem dX7_beaten_96 : decode cX7_beaten 96 = .ok (.iconst 0, 1) := by decide +kernel
theorem dX7_beaten_97 : decode cX7_beaten 97 = .ok (.iastore, 1) := by decide +kernel
theorem dX7_beaten_98 : decode cX7_beaten 98 = .ok (.iinc 5 1, 3) := by decide +kernel
theorem dX7_beaten_101 : decode cX7_beaten 101 = .ok (.goto (-51), 3) := by decide +kernel
theorem dX7_beaten_104 : decode cX7_beaten 104 = .ok (.aload_n 0, 1) := by decide +kernel
theorem dX7_beaten_105 : decode cX7_beaten 105 = .ok (.bipush 60, 2) := by decide +kernel
theorem dX7_beaten_107 : decode cX7_beaten 107 = .ok (.invokevirtual 208, 3) := by decide +kernel
theorem dX7_beaten_110 : decode cX7_beaten 110 = .ok (.iload_n 3, 1) := by decide +kernel
theorem dX7_beaten_111 : decode cX7_beaten 111 = .ok (.aload_n 0, 1) := by decide +kernel
theorem dX7_beaten_112 : decode cX7_beaten 112 = .ok (.iload_n 1, 1) := by decide +kernel
theorem dX7_beaten_113 : decode cX7_beaten 113 = .ok (.invokevirtual 83, 3) := by decide +kernel
theorem dX7_beaten_116 : decode cX7_beaten 116 = .ok (.ifCond .eq 19, 3) := by decide +kernel
theorem dX7_beaten_119 : decode cX7_beaten 119 = .ok (.aload_n 0, 1) := by decide +kernel
theorem dX7_beaten_120 : decode cX7_beaten 120 = .ok (.iload 4, 2) := by decide +kernel
theorem dX7_beaten_122 : decode cX7_beaten 122 = .ok (.invokevirtual 83, 3) := by decide +kernel
theorem dX7_beaten_125 : decode cX7_beaten 125 = .ok (.ifCond .ne 10, 3) := by decide +kernel
theorem dX7_beaten_128 : decode cX7_beaten 128 = .ok (.iconst 1, 1) := by decide +kernel
theorem dX7_beaten_129 : decode cX7_beaten 129 = .ok (.iload 4, 2) := by decide +kernel
theorem dX7_beaten_131 : decode cX7_beaten 131 = .ok (.ishl, 1) := by decide +kernel
theorem dX7_beaten_132 : decode cX7_beaten 132 = .ok (.goto 4, 3) := by decide +kernel
theorem dX7_beaten_135 : decode cX7_beaten 135 = .ok (.iconst 0, 1) := by decide +kernel
theorem dX7_beaten_136 : decode cX7_beaten 136 = .ok (.ior, 1) := by decide +kernel
theorem dX7_beaten_137 : decode cX7_beaten 137 = .ok (.istore_n 3, 1) := by decide +kernel
theorem dX7_beaten_138 : decode cX7_beaten 138 = .ok (.aload_n 0, 1) := by decide +kernel
theorem dX7_beaten_139 : decode cX7_beaten 139 = .ok (.invokevirtual 214, 3) := by decide +kernel
theorem dX7_beaten_142 : decode cX7_beaten 142 = .ok (.iinc 4 1, 3) := by decide +kernel
theorem dX7_beaten_145 : decode cX7_beaten 145 = .ok (.goto (-113), 3) := by decide +kernel
theorem dX7_beaten_148 : decode cX7_beaten 148 = .ok (.iload_n 2, 1) := by decide +kernel
theorem dX7_beaten_149 : decode cX7_beaten 149 = .ok (.ifCond .ne 7, 3) := by decide +kernel
theorem dX7_beaten_152 : decode cX7_beaten 152 = .ok (.iload_n 3, 1) := by decide +kernel
theorem dX7_beaten_153 : decode cX7_beaten 153 = .ok (.goto 7, 3) := by decide +kernel
theorem dX7_beaten_156 : decode cX7_beaten 156 = .ok (.iload_n 3, 1) := by decide +kernel
theorem dX7_beaten_157 : decode cX7_beaten 157 = .ok (.invokestatic 92, 3) := by decide +kernel
theorem dX7_beaten_160 : decode cX7_beaten 160 = .ok (.ireturn, 1) := by decide +kernel
theorem dX7_feltBehind_0 : decode cX7_feltBehind 0 = .ok (.aload_n 0, 1) := by decide +kernel
theorem dX7_feltBehind_1 : decode cX7_feltBehind 1 = .ok (.iload_n 2, 1) := by decide +kernel
theorem dX7_feltBehind_2 : decode cX7_feltBehind 2 = .ok (.invokevirtual 208, 3) := by decide +kernel
theorem dX7_feltBehind_5 : decode cX7_feltBehind 5 = .ok (.aload_n 0, 1) := by decide +kernel
theorem dX7_feltBehind_6 : decode cX7_feltBehind 6 = .ok (.getfield 16, 3) := by decide +kernel
theorem dX7_feltBehind_9 : decode cX7_feltBehind 9 = .ok (.iconst 4, 1) := by decide +kernel
theorem dX7_feltBehind_10 : decode cX7_feltBehind 10 = .ok (.iload_n 1, 1) := by decide +kernel
theorem dX7_feltBehind_11 : decode cX7_feltBehind 11 = .ok (.imul, 1) := by decide +kernel
theorem dX7_feltBehind_12 : decode cX7_feltBehind 12 = .ok (.iconst 1, 1) := by decide +kernel
theorem dX7_feltBehind_13 : decode cX7_feltBehind 13 = .ok (.iadd, 1) := by decide +kernel
theorem dX7_feltBehind_14 : decode cX7_feltBehind 14 = .ok (.iaload, 1) := by decide +kernel
theorem dX7_feltBehind_15 : decode cX7_feltBehind 15 = .ok (.istore_n 3, 1) := by decide +kernel
theorem dX7_feltBehind_16 : decode cX7_feltBehind 16 = .ok (.aload_n 0, 1) := by decide +kernel
theorem dX7_feltBehind_17 : decode cX7_feltBehind 17 = .ok (.invokevirtual 214, 3) := by decide +kernel
theorem dX7_feltBehind_20 : decode cX7_feltBehind 20 = .ok (.iload_n 3, 1) := by decide +kernel
theorem dX7_feltBehind_21 : decode cX7_feltBehind 21 = .ok (.ireturn, 1) := by decide +kernel
theorem dX7_toss_0 : decode cX7_toss 0 = .ok (.aload_n 0, 1) := by decide +kernel
theorem dX7_toss_1 : decode cX7_toss 1 = .ok (.iload_n 1, 1) := by decide +kernel
theorem dX7_toss_2 : decode cX7_toss 2 = .ok (.invokevirtual 79, 3) := by decide +kernel
theorem dX7_toss_5 : decode cX7_toss 5 = .ok (.ifCond .ne 6, 3) := by decide +kernel
theorem dX7_toss_8 : decode cX7_toss 8 = .ok (.bipush (-5), 2) := by decide +kernel
theorem dX7_toss_10 : decode cX7_toss 10 = .ok (.ireturn, 1) := by decide +kernel
theorem dX7_toss_11 : decode cX7_toss 11 = .ok (.iload_n 2, 1) := by decide +kernel
theorem dX7_toss_12 : decode cX7_toss 12 = .ok (.iconst 0, 1) := by decide +kernel
theorem dX7_toss_13 : decode cX7_toss 13 = .ok (.bipush 40, 2) := by decide +kernel
theorem dX7_toss_15 : decode cX7_toss 15 = .ok (.invokestatic 75, 3) := by decide +kernel
theorem dX7_toss_18 : decode cX7_toss 18 = .ok (.ifCond .eq 12, 3) := by decide +kernel
theorem dX7_toss_21 : decode cX7_toss 21 = .ok (.iload_n 3, 1) := by decide +kernel
theorem dX7_toss_22 : decode cX7_toss 22 = .ok (.iconst 0, 1) := by decide +kernel
theorem dX7_toss_23 : decode cX7_toss 23 = .ok (.iconst 1, 1) := by decide +kernel
theorem dX7_toss_24 : decode cX7_toss 24 = .ok (.invokestatic 75, 3) := by decide +kernel
theorem dX7_toss_27 : decode cX7_toss 27 = .ok (.ifCond .ne 6, 3) := by decide +kernel
theorem dX7_toss_30 : decode cX7_toss 30 = .ok (.bipush (-7), 2) := by decide +kernel
theorem dX7_toss_32 : decode cX7_toss 32 = .ok (.ireturn, 1) := by decide +kernel
theorem dX7_toss_33 : decode cX7_toss 33 = .ok (.iconst (-1), 1) := by decide +kernel
theorem dX7_toss_34 : decode cX7_toss 34 = .ok (.istore 4, 2) := by decide +kernel
theorem dX7_toss_36 : decode cX7_toss 36 = .ok (.iconst (-1), 1) := by decide +kernel
theorem dX7_toss_37 : decode cX7_toss 37 = .ok (.istore 5, 2) := by decide +kernel
theorem dX7_toss_39 : decode cX7_toss 39 = .ok (.aload_n 0, 1) := by decide +kernel
theorem dX7_toss_40 : decode cX7_toss 40 = .ok (.invokevirtual 205, 3) := by decide +kernel
theorem dX7_toss_43 : decode cX7_toss 43 = .ok (.iconst 0, 1) := by decide +kernel
theorem dX7_toss_44 : decode cX7_toss 44 = .ok (.istore 6, 2) := by decide +kernel
theorem dX7_toss_46 : decode cX7_toss 46 = .ok (.iload 6, 2) := by decide +kernel
theorem dX7_toss_48 : decode cX7_toss 48 = .ok (.bipush 64, 2) := by decide +kernel
theorem dX7_toss_50 : decode cX7_toss 50 = .ok (.if_icmp .ge 59, 3) := by decide +kernel
theorem dX7_toss_53 : decode cX7_toss 53 = .ok (.aload_n 0, 1) := by decide +kernel
theorem dX7_toss_54 : decode cX7_toss 54 = .ok (.getfield 16, 3) := by decide +kernel
theorem dX7_toss_57 : decode cX7_toss 57 = .ok (.iconst 4, 1) := by decide +kernel
theorem dX7_toss_58 : decode cX7_toss 58 = .ok (.iload_n 1, 1) := by decide +kernel
theorem dX7_toss_59 : decode cX7_toss 59 = .ok (.imul, 1) := by decide +kernel
theorem dX7_toss_60 : decode cX7_toss 60 = .ok (.iload 6, 2) := by decide +kernel
theorem dX7_toss_62 : decode cX7_toss 62 = .ok (.iastore, 1) := by decide +kernel
theorem dX7_toss_63 : decode cX7_toss 63 = .ok (.aload_n 0, 1) := by decide +kernel
theorem dX7_toss_64 : decode cX7_toss 64 = .ok (.iload_n 1, 1) := by decide +kernel
theorem dX7_toss_65 : decode cX7_toss 65 = .ok (.iload_n 2, 1) := by decide +kernel
theorem dX7_toss_66 : decode cX7_toss 66 = .ok (.invokevirtual 220, 3) := by decide +kernel
theorem dX7_toss_69 : decode cX7_toss 69 = .ok (.istore 7, 2) := by decide +kernel
theorem dX7_toss_71 : decode cX7_toss 71 = .ok (.iload 7, 2) := by decide +kernel
theorem dX7_toss_73 : decode cX7_toss 73 = .ok (.iload 5, 2) := by decide +kernel
theorem dX7_toss_75 : decode cX7_toss 75 = .ok (.if_icmp .le 8, 3) := by decide +kernel
theorem dX7_toss_78 : decode cX7_toss 78 = .ok (.iload 6, 2) := by decide +kernel
theorem dX7_toss_80 : decode cX7_toss 80 = .ok (.goto 5, 3) := by decide +kernel
theorem dX7_toss_83 : decode cX7_toss 83 = .ok (.iload 4, 2) := by decide +kernel
theorem dX7_toss_85 : decode cX7_toss 85 = .ok (.istore 4, 2) := by decide +kernel
theorem dX7_toss_87 : decode cX7_toss 87 = .ok (.iload 7, 2) := by decide +kernel
theorem dX7_toss_89 : decode cX7_toss 89 = .ok (.iload 5, 2) := by decide +kernel
theorem dX7_toss_91 : decode cX7_toss 91 = .ok (.if_icmp .le 8, 3) := by decide +kernel
theorem dX7_toss_94 : decode cX7_toss 94 = .ok (.iload 7, 2) := by decide +kernel
theorem dX7_toss_96 : decode cX7_toss 96 = .ok (.goto 5, 3) := by decide +kernel
theorem dX7_toss_99 : decode cX7_toss 99 = .ok (.iload 5, 2) := by decide +kernel
theorem dX7_toss_101 : decode cX7_toss 101 = .ok (.istore 5, 2) := by decide +kernel
theorem dX7_toss_103 : decode cX7_toss 103 = .ok (.iinc 6 1, 3) := by decide +kernel
theorem dX7_toss_106 : decode cX7_toss 106 = .ok (.goto (-60), 3) := by decide +kernel
theorem dX7_toss_109 : decode cX7_toss 109 = .ok (.iload_n 3, 1) := by decide +kernel
theorem dX7_toss_110 : decode cX7_toss 110 = .ok (.ifCond .ne 8, 3) := by decide +kernel
theorem dX7_toss_113 : decode cX7_toss 113 = .ok (.iload 4, 2) := by decide +kernel
theorem dX7_toss_115 : decode cX7_toss 115 = .ok (.goto 5, 3) := by decide +kernel
theorem dX7_toss_118 : decode cX7_toss 118 = .ok (.iload 5, 2) := by decide +kernel
theorem dX7_toss_120 : decode cX7_toss 120 = .ok (.ireturn, 1) := by decide +kernel
theorem dX7_rid_0 : decode cX7_rid 0 = .ok (.aload_n 0, 1) := by decide +kernel
theorem dX7_rid_1 : decode cX7_rid 1 = .ok (.iload_n 1, 1) := by decide +kernel
theorem dX7_rid_2 : decode cX7_rid 2 = .ok (.invokevirtual 79, 3) := by decide +kernel
theorem dX7_rid_5 : decode cX7_rid 5 = .ok (.ifCond .ne 6, 3) := by decide +kernel
theorem dX7_rid_8 : decode cX7_rid 8 = .ok (.bipush (-5), 2) := by decide +kernel
theorem dX7_rid_10 : decode cX7_rid 10 = .ok (.ireturn, 1) := by decide +kernel
theorem dX7_rid_11 : decode cX7_rid 11 = .ok (.iload_n 2, 1) := by decide +kernel
theorem dX7_rid_12 : decode cX7_rid 12 = .ok (.iconst 0, 1) := by decide +kernel
theorem dX7_rid_13 : decode cX7_rid 13 = .ok (.bipush 40, 2) := by decide +kernel
theorem dX7_rid_15 : decode cX7_rid 15 = .ok (.invokestatic 75, 3) := by decide +kernel
theorem dX7_rid_18 : decode cX7_rid 18 = .ok (.ifCond .eq 12, 3) := by decide +kernel
theorem dX7_rid_21 : decode cX7_rid 21 = .ok (.iload_n 3, 1) := by decide +kernel
theorem dX7_rid_22 : decode cX7_rid 22 = .ok (.iconst 0, 1) := by decide +kernel
theorem dX7_rid_23 : decode cX7_rid 23 = .ok (.iconst 1, 1) := by decide +kernel
theorem dX7_rid_24 : decode cX7_rid 24 = .ok (.invokestatic 75, 3) := by decide +kernel
theorem dX7_rid_27 : decode cX7_rid 27 = .ok (.ifCond .ne 6, 3) := by decide +kernel
theorem dX7_rid_30 : decode cX7_rid 30 = .ok (.bipush (-7), 2) := by decide +kernel
theorem dX7_rid_32 : decode cX7_rid 32 = .ok (.ireturn, 1) := by decide +kernel
theorem dX7_rid_33 : decode cX7_rid 33 = .ok (.aload_n 0, 1) := by decide +kernel
theorem dX7_rid_34 : decode cX7_rid 34 = .ok (.invokevirtual 205, 3) := by decide +kernel
theorem dX7_rid_37 : decode cX7_rid 37 = .ok (.iconst (-1), 1) := by decide +kernel
theorem dX7_rid_38 : decode cX7_rid 38 = .ok (.istore 4, 2) := by decide +kernel
theorem dX7_rid_40 : decode cX7_rid 40 = .ok (.aload_n 0, 1) := by decide +kernel
theorem dX7_rid_41 : decode cX7_rid 41 = .ok (.iload_n 1, 1) := by decide +kernel
theorem dX7_rid_42 : decode cX7_rid 42 = .ok (.iload_n 2, 1) := by decide +kernel
theorem dX7_rid_43 : decode cX7_rid 43 = .ok (.invokevirtual 220, 3) := by decide +kernel
theorem dX7_rid_46 : decode cX7_rid 46 = .ok (.istore 5, 2) := by decide +kernel
theorem dX7_rid_48 : decode cX7_rid 48 = .ok (.iconst 0, 1) := by decide +kernel
theorem dX7_rid_49 : decode cX7_rid 49 = .ok (.istore 6, 2) := by decide +kernel
theorem dX7_rid_51 : decode cX7_rid 51 = .ok (.iload 6, 2) := by decide +kernel
theorem dX7_rid_53 : decode cX7_rid 53 = .ok (.aload_n 0, 1) := by decide +kernel
theorem dX7_rid_54 : decode cX7_rid 54 = .ok (.getfield 72, 3) := by decide +kernel
theorem dX7_rid_57 : decode cX7_rid 57 = .ok (.if_icmp .ge 76, 3) := by decide +kernel
theorem dX7_rid_60 : decode cX7_rid 60 = .ok (.iload 6, 2) := by decide +kernel
theorem dX7_rid_62 : decode cX7_rid 62 = .ok (.iload_n 1, 1) := by decide +kernel
theorem dX7_rid_63 : decode cX7_rid 63 = .ok (.if_icmp .eq 64, 3) := by decide +kernel
theorem dX7_rid_66 : decode cX7_rid 66 = .ok (.aload_n 0, 1) := by decide +kernel
theorem dX7_rid_67 : decode cX7_rid 67 = .ok (.iload 6, 2) := by decide +kernel
theorem dX7_rid_69 : decode cX7_rid 69 = .ok (.invokevirtual 83, 3) := by decide +kernel
theorem dX7_rid_72 : decode cX7_rid 72 = .ok (.ifCond .eq 55, 3) := by decide +kernel
theorem dX7_rid_75 : decode cX7_rid 75 = .ok (.aload_n 0, 1) := by decide +kernel
theorem dX7_rid_76 : decode cX7_rid 76 = .ok (.getfield 16, 3) := by decide +kernel
theorem dX7_rid_79 : decode cX7_rid 79 = .ok (.iconst 4, 1) := by decide +kernel
theorem dX7_rid_80 : decode cX7_rid 80 = .ok (.iload 6, 2) := by decide +kernel
theorem dX7_rid_82 : decode cX7_rid 82 = .ok (.imul, 1) := by decide +kernel
theorem dX7_rid_83 : decode cX7_rid 83 = .ok (.iconst 1, 1) := by decide +kernel
theorem dX7_rid_84 : decode cX7_rid 84 = .ok (.iadd, 1) := by decide +kernel
theorem dX7_rid_85 : decode cX7_rid 85 = .ok (.iconst 0, 1) := by decide +kernel
theorem dX7_rid_86 : decode cX7_rid 86 = .ok (.iastore, 1) := by decide +kernel
theorem dX7_rid_87 : decode cX7_rid 87 = .ok (.aload_n 0, 1) := by decide +kernel
theorem dX7_rid_88 : decode cX7_rid 88 = .ok (.iload_n 1, 1) := by decide +kernel
theorem dX7_rid_89 : decode cX7_rid 89 = .ok (.iload_n 2, 1) := by decide +kernel
theorem dX7_rid_90 : decode cX7_rid 90 = .ok (.invokevirtual 220, 3) := by decide +kernel
theorem dX7_rid_93 : decode cX7_rid 93 = .ok (.istore 7, 2) := by decide +kernel
theorem dX7_rid_95 : decode cX7_rid 95 = .ok (.iload 7, 2) := by decide +kernel
theorem dX7_rid_97 : decode cX7_rid 97 = .ok (.iload 5, 2) := by decide +kernel
theorem dX7_rid_99 : decode cX7_rid 99 = .ok (.if_icmp .le 8, 3) := by decide +kernel
theorem dX7_rid_102 : decode cX7_rid 102 = .ok (.iload 6, 2) := by decide +kernel
theorem dX7_rid_104 : decode cX7_rid 104 = .ok (.goto 5, 3) := by decide +kernel
theorem dX7_rid_107 : decode cX7_rid 107 = .ok (.iload 4, 2) := by decide +kernel
theorem dX7_rid_109 : decode cX7_rid 109 = .ok (.istore 4, 2) := by decide +kernel
theorem dX7_rid_111 : decode cX7_rid 111 = .ok (.iload 7, 2) := by decide +kernel
theorem dX7_rid_113 : decode cX7_rid 113 = .ok (.iload 5, 2) := by decide +kernel
theorem dX7_rid_115 : decode cX7_rid 115 = .ok (.if_icmp .le 8, 3) := by decide +kernel
theorem dX7_rid_118 : decode cX7_rid 118 = .ok (.iload 7, 2) := by decide +kernel
theorem dX7_rid_120 : decode cX7_rid 120 = .ok (.goto 5, 3) := by decide +kernel
theorem dX7_rid_123 : decode cX7_rid 123 = .ok (.iload 5, 2) := by decide +kernel
theorem dX7_rid_125 : decode cX7_rid 125 = .ok (.istore 5, 2) := by decide +kernel
theorem dX7_rid_127 : decode cX7_rid 127 = .ok (.iinc 6 1, 3) := by decide +kernel
theorem dX7_rid_130 : decode cX7_rid 130 = .ok (.goto (-79), 3) := by decide +kernel
theorem dX7_rid_133 : decode cX7_rid 133 = .ok (.iload_n 3, 1) := by decide +kernel
theorem dX7_rid_134 : decode cX7_rid 134 = .ok (.ifCond .ne 8, 3) := by decide +kernel
theorem dX7_rid_137 : decode cX7_rid 137 = .ok (.iload 4, 2) := by decide +kernel
theorem dX7_rid_139 : decode cX7_rid 139 = .ok (.goto 5, 3) := by decide +kernel
theorem dX7_rid_142 : decode cX7_rid 142 = .ok (.iload 5, 2) := by decide +kernel
theorem dX7_rid_144 : decode cX7_rid 144 = .ok (.ireturn, 1) := by decide +kernel
theorem dX7_lasts_0 : decode cX7_lasts 0 = .ok (.aload_n 0, 1) := by decide +kernel
theorem dX7_lasts_1 : decode cX7_lasts 1 = .ok (.iload_n 1, 1) := by decide +kernel
theorem dX7_lasts_2 : decode cX7_lasts 2 = .ok (.invokevirtual 79, 3) := by decide +kernel
theorem dX7_lasts_5 : decode cX7_lasts 5 = .ok (.ifCond .ne 6, 3) := by decide +kernel
theorem dX7_lasts_8 : decode cX7_lasts 8 = .ok (.bipush (-5), 2) := by decide +kernel
theorem dX7_lasts_10 : decode cX7_lasts 10 = .ok (.ireturn, 1) := by decide +kernel
theorem dX7_lasts_11 : decode cX7_lasts 11 = .ok (.iload_n 2, 1) := by decide +kernel
theorem dX7_lasts_12 : decode cX7_lasts 12 = .ok (.iconst 0, 1) := by decide +kernel
theorem dX7_lasts_13 : decode cX7_lasts 13 = .ok (.bipush 40, 2) := by decide +kernel
theorem dX7_lasts_15 : decode cX7_lasts 15 = .ok (.invokestatic 75, 3) := by decide +kernel
theorem dX7_lasts_18 : decode cX7_lasts 18 = .ok (.ifCond .ne 6, 3) := by decide +kernel
theorem dX7_lasts_21 : decode cX7_lasts 21 = .ok (.bipush (-7), 2) := by decide +kernel
theorem dX7_lasts_23 : decode cX7_lasts 23 = .ok (.ireturn, 1) := by decide +kernel
theorem dX7_lasts_24 : decode cX7_lasts 24 = .ok (.iconst (-1), 1) := by decide +kernel
theorem dX7_lasts_25 : decode cX7_lasts 25 = .ok (.istore_n 3, 1) := by decide +kernel
theorem dX7_lasts_26 : decode cX7_lasts 26 = .ok (.aload_n 0, 1) := by decide +kernel
theorem dX7_lasts_27 : decode cX7_lasts 27 = .ok (.invokevirtual 205, 3) := by decide +kernel
theorem dX7_lasts_30 : decode cX7_lasts 30 = .ok (.iconst 0, 1) := by decide +kernel
theorem dX7_lasts_31 : decode cX7_lasts 31 = .ok (.istore 4, 2) := by decide +kernel
theorem dX7_lasts_33 : decode cX7_lasts 33 = .ok (.iload 4, 2) := by decide +kernel
theorem dX7_lasts_35 : decode cX7_lasts 35 = .ok (.bipush 99, 2) := by decide +kernel
theorem dX7_lasts_37 : decode cX7_lasts 37 = .ok (.if_icmp .gt 42, 3) := by decide +kernel
theorem dX7_lasts_40 : decode cX7_lasts 40 = .ok (.iload_n 3, 1) := by decide +kernel
theorem dX7_lasts_41 : decode cX7_lasts 41 = .ok (.iconst (-1), 1) := by decide +kernel
theorem dX7_lasts_42 : decode cX7_lasts 42 = .ok (.if_icmp .ne 37, 3) := by decide +kernel
theorem dX7_lasts_45 : decode cX7_lasts 45 = .ok (.aload_n 0, 1) := by decide +kernel
theorem dX7_lasts_46 : decode cX7_lasts 46 = .ok (.getfield 16, 3) := by decide +kernel
theorem dX7_lasts_49 : decode cX7_lasts 49 = .ok (.iconst 4, 1) := by decide +kernel
theorem dX7_lasts_50 : decode cX7_lasts 50 = .ok (.iload_n 1, 1) := by decide +kernel
theorem dX7_lasts_51 : decode cX7_lasts 51 = .ok (.imul, 1) := by decide +kernel
theorem dX7_lasts_52 : decode cX7_lasts 52 = .ok (.iconst 1, 1) := by decide +kernel
theorem dX7_lasts_53 : decode cX7_lasts 53 = .ok (.iadd, 1) := by decide +kernel
theorem dX7_lasts_54 : decode cX7_lasts 54 = .ok (.iload 4, 2) := by decide +kernel
theorem dX7_lasts_56 : decode cX7_lasts 56 = .ok (.iastore, 1) := by decide +kernel
theorem dX7_lasts_57 : decode cX7_lasts 57 = .ok (.aload_n 0, 1) := by decide +kernel
theorem dX7_lasts_58 : decode cX7_lasts 58 = .ok (.iload_n 1, 1) := by decide +kernel
theorem dX7_lasts_59 : decode cX7_lasts 59 = .ok (.iload_n 2, 1) := by decide +kernel
theorem dX7_lasts_60 : decode cX7_lasts 60 = .ok (.invokevirtual 220, 3) := by decide +kernel
theorem dX7_lasts_63 : decode cX7_lasts 63 = .ok (.ifCond .le 8, 3) := by decide +kernel
theorem dX7_lasts_66 : decode cX7_lasts 66 = .ok (.iload 4, 2) := by decide +kernel
theorem dX7_lasts_68 : decode cX7_lasts 68 = .ok (.goto 4, 3) := by decide +kernel
theorem dX7_lasts_71 : decode cX7_lasts 71 = .ok (.iconst (-1), 1) := by decide +kernel
theorem dX7_lasts_72 : decode cX7_lasts 72 = .ok (.istore_n 3, 1) := by decide +kernel
theorem dX7_lasts_73 : decode cX7_lasts 73 = .ok (.iinc 4 1, 3) := by decide +kernel
theorem dX7_lasts_76 : decode cX7_lasts 76 = .ok (.goto (-43), 3) := by decide +kernel
theorem dX7_lasts_79 : decode cX7_lasts 79 = .ok (.iload_n 3, 1) := by decide +kernel
theorem dX7_lasts_80 : decode cX7_lasts 80 = .ok (.ireturn, 1) := by decide +kernel
theorem dX7_lowest_0 : decode cX7_lowest 0 = .ok (.lload_n 0, 1) := by decide +kernel
theorem dX7_lowest_1 : decode cX7_lowest 1 = .ok (.lconst 0, 1) := by decide +kernel
theorem dX7_lowest_2 : decode cX7_lowest 2 = .ok (.lcmp, 1) := by decide +kernel
theorem dX7_lowest_3 : decode cX7_lowest 3 = .ok (.ifCond .ne 7, 3) := by decide +kernel
theorem dX7_lowest_6 : decode cX7_lowest 6 = .ok (.iload 4, 2) := by decide +kernel
theorem dX7_lowest_8 : decode cX7_lowest 8 = .ok (.i2l, 1) := by decide +kernel
theorem dX7_lowest_9 : decode cX7_lowest 9 = .ok (.lreturn, 1) := by decide +kernel
theorem dX7_lowest_10 : decode cX7_lowest 10 = .ok (.lload_n 0, 1) := by decide +kernel
theorem dX7_lowest_11 : decode cX7_lowest 11 = .ok (.lstore 5, 2) := by decide +kernel
theorem dX7_lowest_13 : decode cX7_lowest 13 = .ok (.lload_n 2, 1) := by decide +kernel
theorem dX7_lowest_14 : decode cX7_lowest 14 = .ok (.lstore 7, 2) := by decide +kernel
theorem dX7_lowest_16 : decode cX7_lowest 16 = .ok (.lload 7, 2) := by decide +kernel
theorem dX7_lowest_18 : decode cX7_lowest 18 = .ok (.lconst 0, 1) := by decide +kernel
theorem dX7_lowest_19 : decode cX7_lowest 19 = .ok (.lcmp, 1) := by decide +kernel
theorem dX7_lowest_20 : decode cX7_lowest 20 = .ok (.ifCond .eq 21, 3) := by decide +kernel
theorem dX7_lowest_23 : decode cX7_lowest 23 = .ok (.lload 5, 2) := by decide +kernel
theorem dX7_lowest_25 : decode cX7_lowest 25 = .ok (.lload 7, 2) := by decide +kernel
theorem dX7_lowest_27 : decode cX7_lowest 27 = .ok (.lrem, 1) := by decide +kernel
theorem dX7_lowest_28 : decode cX7_lowest 28 = .ok (.lstore 9, 2) := by decide +kernel
theorem dX7_lowest_30 : decode cX7_lowest 30 = .ok (.lload 7, 2) := by decide +kernel
theorem dX7_lowest_32 : decode cX7_lowest 32 = .ok (.lstore 5, 2) := by decide +kernel
theorem dX7_lowest_34 : decode cX7_lowest 34 = .ok (.lload 9, 2) := by decide +kernel
theorem dX7_lowest_36 : decode cX7_lowest 36 = .ok (.lstore 7, 2) := by decide +kernel
theorem dX7_lowest_38 : decode cX7_lowest 38 = .ok (.goto (-22), 3) := by decide +kernel
theorem dX7_lowest_41 : decode cX7_lowest 41 = .ok (.iload 4, 2) := by decide +kernel
theorem dX7_lowest_43 : decode cX7_lowest 43 = .ok (.ifCond .ne 7, 3) := by decide +kernel
theorem dX7_lowest_46 : decode cX7_lowest 46 = .ok (.lload_n 0, 1) := by decide +kernel
theorem dX7_lowest_47 : decode cX7_lowest 47 = .ok (.goto 4, 3) := by decide +kernel
theorem dX7_lowest_50 : decode cX7_lowest 50 = .ok (.lload_n 2, 1) := by decide +kernel
theorem dX7_lowest_51 : decode cX7_lowest 51 = .ok (.lload 5, 2) := by decide +kernel
theorem dX7_lowest_53 : decode cX7_lowest 53 = .ok (.ldiv, 1) := by decide +kernel
theorem dX7_lowest_54 : decode cX7_lowest 54 = .ok (.lreturn, 1) := by decide +kernel
theorem dX7_betting_0 : decode cX7_betting 0 = .ok (.iconst 0, 1) := by decide +kernel
theorem dX7_betting_1 : decode cX7_betting 1 = .ok (.istore_n 3, 1) := by decide +kernel
theorem dX7_betting_2 : decode cX7_betting 2 = .ok (.iconst 0, 1) := by decide +kernel
theorem dX7_betting_3 : decode cX7_betting 3 = .ok (.istore 4, 2) := by decide +kernel
theorem dX7_betting_5 : decode cX7_betting 5 = .ok (.iload 4, 2) := by decide +kernel
theorem dX7_betting_7 : decode cX7_betting 7 = .ok (.aload_n 0, 1) := by decide +kernel
theorem dX7_betting_8 : decode cX7_betting 8 = .ok (.getfield 72, 3) := by decide +kernel
theorem dX7_betting_11 : decode cX7_betting 11 = .ok (.if_icmp .ge 23, 3) := by decide +kernel
theorem dX7_betting_14 : decode cX7_betting 14 = .ok (.iload_n 3, 1) := by decide +kernel
theorem dX7_betting_15 : decode cX7_betting 15 = .ok (.aload_n 0, 1) := by decide +kernel
theorem dX7_betting_16 : decode cX7_betting 16 = .ok (.getfield 16, 3) := by decide +kernel
theorem dX7_betting_19 : decode cX7_betting 19 = .ok (.iconst 4, 1) := by decide +kernel
theorem dX7_betting_20 : decode cX7_betting 20 = .ok (.iload 4, 2) := by decide +kernel
theorem dX7_betting_22 : decode cX7_betting 22 = .ok (.imul, 1) := by decide +kernel
theorem dX7_betting_23 : decode cX7_betting 23 = .ok (.iconst 1, 1) := by decide +kernel
theorem dX7_betting_24 : decode cX7_betting 24 = .ok (.iadd, 1) := by decide +kernel
theorem dX7_betting_25 : decode cX7_betting 25 = .ok (.iaload, 1) := by decide +kernel
theorem dX7_betting_26 : decode cX7_betting 26 = .ok (.iadd, 1) := by decide +kernel
theorem dX7_betting_27 : decode cX7_betting 27 = .ok (.istore_n 3, 1) := by decide +kernel
theorem dX7_betting_28 : decode cX7_betting 28 = .ok (.iinc 4 1, 3) := by decide +kernel
theorem dX7_betting_31 : decode cX7_betting 31 = .ok (.goto (-26), 3) := by decide +kernel
theorem dX7_betting_34 : decode cX7_betting 34 = .ok (.aload_n 0, 1) := by decide +kernel
theorem dX7_betting_35 : decode cX7_betting 35 = .ok (.iload_n 1, 1) := by decide +kernel
theorem dX7_betting_36 : decode cX7_betting 36 = .ok (.invokevirtual 79, 3) := by decide +kernel
theorem dX7_betting_39 : decode cX7_betting 39 = .ok (.ifCond .eq 36, 3) := by decide +kernel
theorem dX7_betting_42 : decode cX7_betting 42 = .ok (.iload_n 2, 1) := by decide +kernel
theorem dX7_betting_43 : decode cX7_betting 43 = .ok (.iconst 0, 1) := by decide +kernel
theorem dX7_betting_44 : decode cX7_betting 44 = .ok (.iconst 1, 1) := by decide +kernel
theorem dX7_betting_45 : decode cX7_betting 45 = .ok (.invokestatic 75, 3) := by decide +kernel
theorem dX7_betting_48 : decode cX7_betting 48 = .ok (.ifCond .eq 27, 3) := by decide +kernel
theorem dX7_betting_51 : decode cX7_betting 51 = .ok (.iload_n 3, 1) := by decide +kernel
theorem dX7_betting_52 : decode cX7_betting 52 = .ok (.ifCond .le 23, 3) := by decide +kernel
theorem dX7_betting_55 : decode cX7_betting 55 = .ok (.aload_n 0, 1) := by decide +kernel
theorem dX7_betting_56 : decode cX7_betting 56 = .ok (.getfield 16, 3) := by decide +kernel
theorem dX7_betting_59 : decode cX7_betting 59 = .ok (.iconst 4, 1) := by decide +kernel
theorem dX7_betting_60 : decode cX7_betting 60 = .ok (.iload_n 1, 1) := by decide +kernel
theorem dX7_betting_61 : decode cX7_betting 61 = .ok (.imul, 1) := by decide +kernel
theorem dX7_betting_62 : decode cX7_betting 62 = .ok (.iconst 1, 1) := by decide +kernel
theorem dX7_betting_63 : decode cX7_betting 63 = .ok (.iadd, 1) := by decide +kernel
theorem dX7_betting_64 : decode cX7_betting 64 = .ok (.iaload, 1) := by decide +kernel
theorem dX7_betting_65 : decode cX7_betting 65 = .ok (.i2l, 1) := by decide +kernel
theorem dX7_betting_66 : decode cX7_betting 66 = .ok (.iload_n 3, 1) := by decide +kernel
theorem dX7_betting_67 : decode cX7_betting 67 = .ok (.i2l, 1) := by decide +kernel
theorem dX7_betting_68 : decode cX7_betting 68 = .ok (.iload_n 2, 1) := by decide +kernel
theorem dX7_betting_69 : decode cX7_betting 69 = .ok (.invokestatic 223, 3) := by decide +kernel
theorem dX7_betting_72 : decode cX7_betting 72 = .ok (.goto 6, 3) := by decide +kernel
theorem dX7_betting_75 : decode cX7_betting 75 = .ok (.ldc2_w 227, 3) := by decide +kernel
theorem dX7_betting_78 : decode cX7_betting 78 = .ok (.lreturn, 1) := by decide +kernel
theorem dX7_sheetWrong_0 : decode cX7_sheetWrong 0 = .ok (.iload_n 1, 1) := by decide +kernel
theorem dX7_sheetWrong_1 : decode cX7_sheetWrong 1 = .ok (.iconst 0, 1) := by decide +kernel
theorem dX7_sheetWrong_2 : decode cX7_sheetWrong 2 = .ok (.iconst 3, 1) := by decide +kernel
theorem dX7_sheetWrong_3 : decode cX7_sheetWrong 3 = .ok (.invokestatic 75, 3) := by decide +kernel
theorem dX7_sheetWrong_6 : decode cX7_sheetWrong 6 = .ok (.ifCond .ne 6, 3) := by decide +kernel
theorem dX7_sheetWrong_9 : decode cX7_sheetWrong 9 = .ok (.bipush (-2), 2) := by decide +kernel
theorem dX7_sheetWrong_11 : decode cX7_sheetWrong 11 = .ok (.ireturn, 1) := by decide +kernel
theorem dX7_sheetWrong_12 : decode cX7_sheetWrong 12 = .ok (.aload_n 0, 1) := by decide +kernel
theorem dX7_sheetWrong_13 : decode cX7_sheetWrong 13 = .ok (.getfield 37, 3) := by decide +kernel
theorem dX7_sheetWrong_16 : decode cX7_sheetWrong 16 = .ok (.iload_n 1, 1) := by decide +kernel
theorem dX7_sheetWrong_17 : decode cX7_sheetWrong 17 = .ok (.iaload, 1) := by decide +kernel
theorem dX7_sheetWrong_18 : decode cX7_sheetWrong 18 = .ok (.iconst (-1), 1) := by decide +kernel
theorem dX7_sheetWrong_19 : decode cX7_sheetWrong 19 = .ok (.if_icmp .ne 6, 3) := by decide +kernel
theorem dX7_sheetWrong_22 : decode cX7_sheetWrong 22 = .ok (.bipush (-11), 2) := by decide +kernel
theorem dX7_sheetWrong_24 : decode cX7_sheetWrong 24 = .ok (.ireturn, 1) := by decide +kernel
theorem dX7_sheetWrong_25 : decode cX7_sheetWrong 25 = .ok (.aload_n 0, 1) := by decide +kernel
theorem dX7_sheetWrong_26 : decode cX7_sheetWrong 26 = .ok (.getfield 40, 3) := by decide +kernel
theorem dX7_sheetWrong_29 : decode cX7_sheetWrong 29 = .ok (.iload_n 1, 1) := by decide +kernel
theorem dX7_sheetWrong_30 : decode cX7_sheetWrong 30 = .ok (.iaload, 1) := by decide +kernel
theorem dX7_sheetWrong_31 : decode cX7_sheetWrong 31 = .ok (.bipush 20, 2) := by decide +kernel
theorem dX7_sheetWrong_33 : decode cX7_sheetWrong 33 = .ok (.if_icmp .le 8, 3) := by decide +kernel
theorem dX7_sheetWrong_36 : decode cX7_sheetWrong 36 = .ok (.bipush (-2), 2) := by decide +kernel
theorem dX7_sheetWrong_38 : decode cX7_sheetWrong 38 = .ok (.goto 4, 3) := by decide +kernel
theorem dX7_sheetWrong_41 : decode cX7_sheetWrong 41 = .ok (.iconst 0, 1) := by decide +kernel
theorem dX7_sheetWrong_42 : decode cX7_sheetWrong 42 = .ok (.ireturn, 1) := by decide +kernel
theorem dX7_toldWrong_0 : decode cX7_toldWrong 0 = .ok (.aload_n 0, 1) := by decide +kernel
theorem dX7_toldWrong_1 : decode cX7_toldWrong 1 = .ok (.iload_n 1, 1) := by decide +kernel
theorem dX7_toldWrong_2 : decode cX7_toldWrong 2 = .ok (.invokevirtual 229, 3) := by decide +kernel
theorem dX7_toldWrong_5 : decode cX7_toldWrong 5 = .ok (.istore_n 3, 1) := by decide +kernel
theorem dX7_toldWrong_6 : decode cX7_toldWrong 6 = .ok (.iload_n 3, 1) := by decide +kernel
theorem dX7_toldWrong_7 : decode cX7_toldWrong 7 = .ok (.ifCond .eq 7, 3) := by decide +kernel
theorem dX7_toldWrong_10 : decode cX7_toldWrong 10 = .ok (.iload_n 3, 1) := by decide +kernel
theorem dX7_toldWrong_11 : decode cX7_toldWrong 11 = .ok (.goto 17, 3) := by decide +kernel
theorem dX7_toldWrong_14 : decode cX7_toldWrong 14 = .ok (.aload_n 0, 1) := by decide +kernel
theorem dX7_toldWrong_15 : decode cX7_toldWrong 15 = .ok (.iload_n 2, 1) := by decide +kernel
theorem dX7_toldWrong_16 : decode cX7_toldWrong 16 = .ok (.invokevirtual 79, 3) := by decide +kernel
theorem dX7_toldWrong_19 : decode cX7_toldWrong 19 = .ok (.ifCond .eq 7, 3) := by decide +kernel
theorem dX7_toldWrong_22 : decode cX7_toldWrong 22 = .ok (.iconst 0, 1) := by decide +kernel
theorem dX7_toldWrong_23 : decode cX7_toldWrong 23 = .ok (.goto 5, 3) := by decide +kernel
theorem dX7_toldWrong_26 : decode cX7_toldWrong 26 = .ok (.bipush (-5), 2) := by decide +kernel
theorem dX7_toldWrong_28 : decode cX7_toldWrong 28 = .ok (.ireturn, 1) := by decide +kernel
theorem dX7_unlike_0 : decode cX7_unlike 0 = .ok (.iconst (-1), 1) := by decide +kernel
theorem dX7_unlike_1 : decode cX7_unlike 1 = .ok (.istore_n 3, 1) := by decide +kernel
theorem dX7_unlike_2 : decode cX7_unlike 2 = .ok (.aload_n 0, 1) := by decide +kernel
theorem dX7_unlike_3 : decode cX7_unlike 3 = .ok (.invokevirtual 205, 3) := by decide +kernel
theorem dX7_unlike_6 : decode cX7_unlike 6 = .ok (.iconst 0, 1) := by decide +kernel
theorem dX7_unlike_7 : decode cX7_unlike 7 = .ok (.istore 4, 2) := by decide +kernel
theorem dX7_unlike_9 : decode cX7_unlike 9 = .ok (.iload 4, 2) := by decide +kernel
theorem dX7_unlike_11 : decode cX7_unlike 11 = .ok (.aload_n 0, 1) := by decide +kernel
theorem dX7_unlike_12 : decode cX7_unlike 12 = .ok (.getfield 40, 3) := by decide +kernel
theorem dX7_unlike_15 : decode cX7_unlike 15 = .ok (.iload_n 1, 1) := by decide +kernel
theorem dX7_unlike_16 : decode cX7_unlike 16 = .ok (.iaload, 1) := by decide +kernel
theorem dX7_unlike_17 : decode cX7_unlike 17 = .ok (.if_icmp .ge 51, 3) := by decide +kernel
theorem dX7_unlike_20 : decode cX7_unlike 20 = .ok (.iload_n 3, 1) := by decide +kernel
theorem dX7_unlike_21 : decode cX7_unlike 21 = .ok (.iconst (-1), 1) := by decide +kernel
theorem dX7_unlike_22 : decode cX7_unlike 22 = .ok (.if_icmp .ne 46, 3) := by decide +kernel
theorem dX7_unlike_25 : decode cX7_unlike 25 = .ok (.aload_n 0, 1) := by decide +kernel
theorem dX7_unlike_26 : decode cX7_unlike 26 = .ok (.invokevirtual 202, 3) := by decide +kernel
theorem dX7_unlike_29 : decode cX7_unlike 29 = .ok (.pop, 1) := by decide +kernel
theorem dX7_unlike_30 : decode cX7_unlike 30 = .ok (.aload_n 0, 1) := by decide +kernel
theorem dX7_unlike_31 : decode cX7_unlike 31 = .ok (.getfield 43, 3) := by decide +kernel
theorem dX7_unlike_34 : decode cX7_unlike 34 = .ok (.bipush 40, 2) := by decide +kernel
theorem dX7_unlike_36 : decode cX7_unlike 36 = .ok (.iload_n 1, 1) := by decide +kernel
theorem dX7_unlike_37 : decode cX7_unlike 37 = .ok (.imul, 1) := by decide +kernel
theorem dX7_unlike_38 : decode cX7_unlike 38 = .ok (.iload 4, 2) := by decide +kernel
theorem dX7_unlike_40 : decode cX7_unlike 40 = .ok (.iadd, 1) := by decide +kernel
theorem dX7_unlike_41 : decode cX7_unlike 41 = .ok (.iaload, 1) := by decide +kernel
theorem dX7_unlike_42 : decode cX7_unlike 42 = .ok (.aload_n 0, 1) := by decide +kernel
theorem dX7_unlike_43 : decode cX7_unlike 43 = .ok (.getfield 16, 3) := by decide +kernel
theorem dX7_unlike_46 : decode cX7_unlike 46 = .ok (.iconst 4, 1) := by decide +kernel
theorem dX7_unlike_47 : decode cX7_unlike 47 = .ok (.iload_n 2, 1) := by decide +kernel
theorem dX7_unlike_48 : decode cX7_unlike 48 = .ok (.imul, 1) := by decide +kernel
theorem dX7_unlike_49 : decode cX7_unlike 49 = .ok (.iconst 1, 1) := by decide +kernel
theorem dX7_unlike_50 : decode cX7_unlike 50 = .ok (.iadd, 1) := by decide +kernel
theorem dX7_unlike_51 : decode cX7_unlike 51 = .ok (.iaload, 1) := by decide +kernel
theorem dX7_unlike_52 : decode cX7_unlike 52 = .ok (.if_icmp .ne 7, 3) := by decide +kernel
theorem dX7_unlike_55 : decode cX7_unlike 55 = .ok (.iconst (-1), 1) := by decide +kernel
theorem dX7_unlike_56 : decode cX7_unlike 56 = .ok (.goto 5, 3) := by decide +kernel
theorem dX7_unlike_59 : decode cX7_unlike 59 = .ok (.iload 4, 2) := by decide +kernel
theorem dX7_unlike_61 : decode cX7_unlike 61 = .ok (.istore_n 3, 1) := by decide +kernel
theorem dX7_unlike_62 : decode cX7_unlike 62 = .ok (.iinc 4 1, 3) := by decide +kernel
theorem dX7_unlike_65 : decode cX7_unlike 65 = .ok (.goto (-56), 3) := by decide +kernel
theorem dX7_unlike_68 : decode cX7_unlike 68 = .ok (.aload_n 0, 1) := by decide +kernel
theorem dX7_unlike_69 : decode cX7_unlike 69 = .ok (.invokevirtual 214, 3) := by decide +kernel
theorem dX7_unlike_72 : decode cX7_unlike 72 = .ok (.iload_n 3, 1) := by decide +kernel
theorem dX7_unlike_73 : decode cX7_unlike 73 = .ok (.ireturn, 1) := by decide +kernel
theorem dX7_judge_0 : decode cX7_judge 0 = .ok (.aload_n 0, 1) := by decide +kernel
theorem dX7_judge_1 : decode cX7_judge 1 = .ok (.iload_n 1, 1) := by decide +kernel
theorem dX7_judge_2 : decode cX7_judge 2 = .ok (.iload_n 2, 1) := by decide +kernel
theorem dX7_judge_3 : decode cX7_judge 3 = .ok (.invokevirtual 232, 3) := by decide +kernel
theorem dX7_judge_6 : decode cX7_judge 6 = .ok (.istore_n 3, 1) := by decide +kernel
theorem dX7_judge_7 : decode cX7_judge 7 = .ok (.iload_n 3, 1) := by decide +kernel
theorem dX7_judge_8 : decode cX7_judge 8 = .ok (.ifCond .ne 12, 3) := by decide +kernel
theorem dX7_judge_11 : decode cX7_judge 11 = .ok (.aload_n 0, 1) := by decide +kernel
theorem dX7_judge_12 : decode cX7_judge 12 = .ok (.iload_n 1, 1) := by decide +kernel
theorem dX7_judge_13 : decode cX7_judge 13 = .ok (.iload_n 2, 1) := by decide +kernel
theorem dX7_judge_14 : decode cX7_judge 14 = .ok (.invokevirtual 235, 3) := by decide +kernel
theorem dX7_judge_17 : decode cX7_judge 17 = .ok (.goto 4, 3) := by decide +kernel
theorem dX7_judge_20 : decode cX7_judge 20 = .ok (.iload_n 3, 1) := by decide +kernel
theorem dX7_judge_21 : decode cX7_judge 21 = .ok (.ireturn, 1) := by decide +kernel
theorem dX7_kinds_0 : decode cX7_kinds 0 = .ok (.aload_n 0, 1) := by decide +kernel
theorem dX7_kinds_1 : decode cX7_kinds 1 = .ok (.iload_n 1, 1) := by decide +kernel
theorem dX7_kinds_2 : decode cX7_kinds 2 = .ok (.iload_n 2, 1) := by decide +kernel
theorem dX7_kinds_3 : decode cX7_kinds 3 = .ok (.invokevirtual 232, 3) := by decide +kernel
theorem dX7_kinds_6 : decode cX7_kinds 6 = .ok (.istore 5, 2) := by decide +kernel
theorem dX7_kinds_8 : decode cX7_kinds 8 = .ok (.iload 5, 2) := by decide +kernel
theorem dX7_kinds_10 : decode cX7_kinds 10 = .ok (.ifCond .eq 6, 3) := by decide +kernel
theorem dX7_kinds_13 : decode cX7_kinds 13 = .ok (.iload 5, 2) := by decide +kernel
theorem dX7_kinds_15 : decode cX7_kinds 15 = .ok (.ireturn, 1) := by decide +kernel
theorem dX7_kinds_16 : decode cX7_kinds 16 = .ok (.aload_n 0, 1) := by decide +kernel
theorem dX7_kinds_17 : decode cX7_kinds 17 = .ok (.iload_n 3, 1) := by decide +kernel
theorem dX7_kinds_18 : decode cX7_kinds 18 = .ok (.invokevirtual 79, 3) := by decide +kernel
theorem dX7_kinds_21 : decode cX7_kinds 21 = .ok (.ifCond .ne 6, 3) := by decide +kernel
theorem dX7_kinds_24 : decode cX7_kinds 24 = .ok (.bipush (-6), 2) := by decide +kernel
theorem dX7_kinds_26 : decode cX7_kinds 26 = .ok (.ireturn, 1) := by decide +kernel
theorem dX7_kinds_27 : decode cX7_kinds 27 = .ok (.iload 4, 2) := by decide +kernel
theorem dX7_kinds_29 : decode cX7_kinds 29 = .ok (.iconst 0, 1) := by decide +kernel
theorem dX7_kinds_30 : decode cX7_kinds 30 = .ok (.iconst 1, 1) := by decide +kernel
theorem dX7_kinds_31 : decode cX7_kinds 31 = .ok (.invokestatic 75, 3) := by decide +kernel
theorem dX7_kinds_34 : decode cX7_kinds 34 = .ok (.ifCond .ne 6, 3) := by decide +kernel
theorem dX7_kinds_37 : decode cX7_kinds 37 = .ok (.bipush (-7), 2) := by decide +kernel
theorem dX7_kinds_39 : decode cX7_kinds 39 = .ok (.ireturn, 1) := by decide +kernel
theorem dX7_kinds_40 : decode cX7_kinds 40 = .ok (.aload_n 0, 1) := by decide +kernel
theorem dX7_kinds_41 : decode cX7_kinds 41 = .ok (.getfield 7, 3) := by decide +kernel
theorem dX7_kinds_44 : decode cX7_kinds 44 = .ok (.iload_n 3, 1) := by decide +kernel
theorem dX7_kinds_45 : decode cX7_kinds 45 = .ok (.iaload, 1) := by decide +kernel
theorem dX7_kinds_46 : decode cX7_kinds 46 = .ok (.istore 6, 2) := by decide +kernel
theorem dX7_kinds_48 : decode cX7_kinds 48 = .ok (.aload_n 0, 1) := by decide +kernel
theorem dX7_kinds_49 : decode cX7_kinds 49 = .ok (.getfield 13, 3) := by decide +kernel
theorem dX7_kinds_52 : decode cX7_kinds 52 = .ok (.iload_n 3, 1) := by decide +kernel
theorem dX7_kinds_53 : decode cX7_kinds 53 = .ok (.iaload, 1) := by decide +kernel
theorem dX7_kinds_54 : decode cX7_kinds 54 = .ok (.istore 7, 2) := by decide +kernel
theorem dX7_kinds_56 : decode cX7_kinds 56 = .ok (.iconst 0, 1) := by decide +kernel
theorem dX7_kinds_57 : decode cX7_kinds 57 = .ok (.istore 8, 2) := by decide +kernel
theorem dX7_kinds_59 : decode cX7_kinds 59 = .ok (.iconst 0, 1) := by decide +kernel
theorem dX7_kinds_60 : decode cX7_kinds 60 = .ok (.istore 9, 2) := by decide +kernel
theorem dX7_kinds_62 : decode cX7_kinds 62 = .ok (.iload 9, 2) := by decide +kernel
theorem dX7_kinds_64 : decode cX7_kinds 64 = .ok (.iload 4, 2) := by decide +kernel
theorem dX7_kinds_66 : decode cX7_kinds 66 = .ok (.ifCond .ne 8, 3) := by decide +kernel
theorem dX7_kinds_69 : decode cX7_kinds 69 = .ok (.bipush 6, 2) := by decide +kernel
theorem dX7_kinds_71 : decode cX7_kinds 71 = .ok (.goto 5, 3) := by decide +kernel
theorem dX7_kinds_74 : decode cX7_kinds 74 = .ok (.bipush 10, 2) := by decide +kernel
theorem dX7_kinds_76 : decode cX7_kinds 76 = .ok (.if_icmp .ge 69, 3) := by decide +kernel
theorem dX7_kinds_79 : decode cX7_kinds 79 = .ok (.aload_n 0, 1) := by decide +kernel
theorem dX7_kinds_80 : decode cX7_kinds 80 = .ok (.getfield 7, 3) := by decide +kernel
theorem dX7_kinds_83 : decode cX7_kinds 83 = .ok (.iload_n 3, 1) := by decide +kernel
theorem dX7_kinds_84 : decode cX7_kinds 84 = .ok (.iload 4, 2) := by decide +kernel
theorem dX7_kinds_86 : decode cX7_kinds 86 = .ok (.ifCond .ne 8, 3) := by decide +kernel
theorem dX7_kinds_89 : decode cX7_kinds 89 = .ok (.iload 9, 2) := by decide +kernel
theorem dX7_kinds_91 : decode cX7_kinds 91 = .ok (.goto 5, 3) := by decide +kernel
theorem dX7_kinds_94 : decode cX7_kinds 94 = .ok (.iload 6, 2) := by decide +kernel
theorem dX7_kinds_96 : decode cX7_kinds 96 = .ok (.iastore, 1) := by decide +kernel
theorem dX7_kinds_97 : decode cX7_kinds 97 = .ok (.aload_n 0, 1) := by decide +kernel
theorem dX7_kinds_98 : decode cX7_kinds 98 = .ok (.getfield 13, 3) := by decide +kernel
theorem dX7_kinds_101 : decode cX7_kinds 101 = .ok (.iload_n 3, 1) := by decide +kernel
theorem dX7_kinds_102 : decode cX7_kinds 102 = .ok (.iload 4, 2) := by decide +kernel
theorem dX7_kinds_104 : decode cX7_kinds 104 = .ok (.iconst 1, 1) := by decide +kernel
theorem dX7_kinds_105 : decode cX7_kinds 105 = .ok (.if_icmp .ne 8, 3) := by decide +kernel
theorem dX7_kinds_108 : decode cX7_kinds 108 = .ok (.iload 9, 2) := by decide +kernel
theorem dX7_kinds_110 : decode cX7_kinds 110 = .ok (.goto 5, 3) := by decide +kernel
theorem dX7_kinds_113 : decode cX7_kinds 113 = .ok (.iload 7, 2) := by decide +kernel
theorem dX7_kinds_115 : decode cX7_kinds 115 = .ok (.iastore, 1) := by decide +kernel
theorem dX7_kinds_116 : decode cX7_kinds 116 = .ok (.iload 8, 2) := by decide +kernel
theorem dX7_kinds_118 : decode cX7_kinds 118 = .ok (.aload_n 0, 1) := by decide +kernel
theorem dX7_kinds_119 : decode cX7_kinds 119 = .ok (.iload_n 1, 1) := by decide +kernel
theorem dX7_kinds_120 : decode cX7_kinds 120 = .ok (.iload_n 2, 1) := by decide +kernel
theorem dX7_kinds_121 : decode cX7_kinds 121 = .ok (.invokevirtual 235, 3) := by decide +kernel
theorem dX7_kinds_124 : decode cX7_kinds 124 = .ok (.iconst (-1), 1) := by decide +kernel
theorem dX7_kinds_125 : decode cX7_kinds 125 = .ok (.if_icmp .ne 10, 3) := by decide +kernel
theorem dX7_kinds_128 : decode cX7_kinds 128 = .ok (.iconst 1, 1) := by decide +kernel
theorem dX7_kinds_129 : decode cX7_kinds 129 = .ok (.iload 9, 2) := by decide +kernel
theorem dX7_kinds_131 : decode cX7_kinds 131 = .ok (.ishl, 1) := by decide +kernel
theorem dX7_kinds_132 : decode cX7_kinds 132 = .ok (.goto 4, 3) := by decide +kernel
theorem dX7_kinds_135 : decode cX7_kinds 135 = .ok (.iconst 0, 1) := by decide +kernel
theorem dX7_kinds_136 : decode cX7_kinds 136 = .ok (.ior, 1) := by decide +kernel
theorem dX7_kinds_137 : decode cX7_kinds 137 = .ok (.istore 8, 2) := by decide +kernel
theorem dX7_kinds_139 : decode cX7_kinds 139 = .ok (.iinc 9 1, 3) := by decide +kernel
theorem dX7_kinds_142 : decode cX7_kinds 142 = .ok (.goto (-80), 3) := by decide +kernel
theorem dX7_kinds_145 : decode cX7_kinds 145 = .ok (.aload_n 0, 1) := by decide +kernel
theorem dX7_kinds_146 : decode cX7_kinds 146 = .ok (.getfield 7, 3) := by decide +kernel
theorem dX7_kinds_149 : decode cX7_kinds 149 = .ok (.iload_n 3, 1) := by decide +kernel
theorem dX7_kinds_150 : decode cX7_kinds 150 = .ok (.iload 6, 2) := by decide +kernel
theorem dX7_kinds_152 : decode cX7_kinds 152 = .ok (.iastore, 1) := by decide +kernel
theorem dX7_kinds_153 : decode cX7_kinds 153 = .ok (.aload_n 0, 1) := by decide +kernel
theorem dX7_kinds_154 : decode cX7_kinds 154 = .ok (.getfield 13, 3) := by decide +kernel
theorem dX7_kinds_157 : decode cX7_kinds 157 = .ok (.iload_n 3, 1) := by decide +kernel
theorem dX7_kinds_158 : decode cX7_kinds 158 = .ok (.iload 7, 2) := by decide +kernel
theorem dX7_kinds_160 : decode cX7_kinds 160 = .ok (.iastore, 1) := by decide +kernel
theorem dX7_kinds_161 : decode cX7_kinds 161 = .ok (.iload 8, 2) := by decide +kernel
theorem dX7_kinds_163 : decode cX7_kinds 163 = .ok (.ireturn, 1) := by decide +kernel
theorem dX7_states_0 : decode cX7_states 0 = .ok (.aload_n 0, 1) := by decide +kernel
theorem dX7_states_1 : decode cX7_states 1 = .ok (.iload_n 1, 1) := by decide +kernel
theorem dX7_states_2 : decode cX7_states 2 = .ok (.iload_n 2, 1) := by decide +kernel
theorem dX7_states_3 : decode cX7_states 3 = .ok (.invokevirtual 232, 3) := by decide +kernel
theorem dX7_states_6 : decode cX7_states 6 = .ok (.istore 5, 2) := by decide +kernel
theorem dX7_states_8 : decode cX7_states 8 = .ok (.iload 5, 2) := by decide +kernel
theorem dX7_states_10 : decode cX7_states 10 = .ok (.ifCond .eq 6, 3) := by decide +kernel
theorem dX7_states_13 : decode cX7_states 13 = .ok (.iload 5, 2) := by decide +kernel
theorem dX7_states_15 : decode cX7_states 15 = .ok (.ireturn, 1) := by decide +kernel
theorem dX7_states_16 : decode cX7_states 16 = .ok (.iload_n 3, 1) := by decide +kernel
theorem dX7_states_17 : decode cX7_states 17 = .ok (.iconst 1, 1) := by decide +kernel
theorem dX7_states_18 : decode cX7_states 18 = .ok (.iconst 2, 1) := by decide +kernel
theorem dX7_states_19 : decode cX7_states 19 = .ok (.invokestatic 75, 3) := by decide +kernel
theorem dX7_states_22 : decode cX7_states 22 = .ok (.ifCond .eq 13, 3) := by decide +kernel
theorem dX7_states_25 : decode cX7_states 25 = .ok (.iload 4, 2) := by decide +kernel
theorem dX7_states_27 : decode cX7_states 27 = .ok (.iconst 0, 1) := by decide +kernel
theorem dX7_states_28 : decode cX7_states 28 = .ok (.iconst 1, 1) := by decide +kernel
theorem dX7_states_29 : decode cX7_states 29 = .ok (.invokestatic 75, 3) := by decide +kernel
theorem dX7_states_32 : decode cX7_states 32 = .ok (.ifCond .ne 6, 3) := by decide +kernel
theorem dX7_states_35 : decode cX7_states 35 = .ok (.bipush (-7), 2) := by decide +kernel
theorem dX7_states_37 : decode cX7_states 37 = .ok (.ireturn, 1) := by decide +kernel
theorem dX7_states_38 : decode cX7_states 38 = .ok (.aload_n 0, 1) := by decide +kernel
theorem dX7_states_39 : decode cX7_states 39 = .ok (.getfield 16, 3) := by decide +kernel
theorem dX7_states_42 : decode cX7_states 42 = .ok (.iconst 4, 1) := by decide +kernel
theorem dX7_states_43 : decode cX7_states 43 = .ok (.iload_n 2, 1) := by decide +kernel
theorem dX7_states_44 : decode cX7_states 44 = .ok (.imul, 1) := by decide +kernel
theorem dX7_states_45 : decode cX7_states 45 = .ok (.iload_n 3, 1) := by decide +kernel
theorem dX7_states_46 : decode cX7_states 46 = .ok (.iadd, 1) := by decide +kernel
theorem dX7_states_47 : decode cX7_states 47 = .ok (.iaload, 1) := by decide +kernel
theorem dX7_states_48 : decode cX7_states 48 = .ok (.istore 6, 2) := by decide +kernel
theorem dX7_states_50 : decode cX7_states 50 = .ok (.iconst 0, 1) := by decide +kernel
theorem dX7_states_51 : decode cX7_states 51 = .ok (.istore 7, 2) := by decide +kernel
theorem dX7_states_53 : decode cX7_states 53 = .ok (.iconst (-1), 1) := by decide +kernel
theorem dX7_states_54 : decode cX7_states 54 = .ok (.istore 8, 2) := by decide +kernel
theorem dX7_states_56 : decode cX7_states 56 = .ok (.iconst 0, 1) := by decide +kernel
theorem dX7_states_57 : decode cX7_states 57 = .ok (.istore 9, 2) := by decide +kernel
theorem dX7_states_59 : decode cX7_states 59 = .ok (.iload 9, 2) := by decide +kernel
theorem dX7_states_61 : decode cX7_states 61 = .ok (.bipush 99, 2) := by decide +kernel
theorem dX7_states_63 : decode cX7_states 63 = .ok (.if_icmp .gt 73, 3) := by decide +kernel
theorem dX7_states_66 : decode cX7_states 66 = .ok (.aload_n 0, 1) := by decide +kernel
theorem dX7_states_67 : decode cX7_states 67 = .ok (.getfield 16, 3) := by decide +kernel
theorem dX7_states_70 : decode cX7_states 70 = .ok (.iconst 4, 1) := by decide +kernel
theorem dX7_states_71 : decode cX7_states 71 = .ok (.iload_n 2, 1) := by decide +kernel
theorem dX7_states_72 : decode cX7_states 72 = .ok (.imul, 1) := by decide +kernel
theorem dX7_states_73 : decode cX7_states 73 = .ok (.iload_n 3, 1) := by decide +kernel
theorem dX7_states_74 : decode cX7_states 74 = .ok (.iadd, 1) := by decide +kernel
theorem dX7_states_75 : decode cX7_states 75 = .ok (.iload 9, 2) := by decide +kernel
theorem dX7_states_77 : decode cX7_states 77 = .ok (.iastore, 1) := by decide +kernel
theorem dX7_states_78 : decode cX7_states 78 = .ok (.aload_n 0, 1) := by decide +kernel
theorem dX7_states_79 : decode cX7_states 79 = .ok (.iload_n 1, 1) := by decide +kernel
theorem dX7_states_80 : decode cX7_states 80 = .ok (.iload_n 2, 1) := by decide +kernel
theorem dX7_states_81 : decode cX7_states 81 = .ok (.invokevirtual 235, 3) := by decide +kernel
theorem dX7_states_84 : decode cX7_states 84 = .ok (.iconst (-1), 1) := by decide +kernel
theorem dX7_states_85 : decode cX7_states 85 = .ok (.if_icmp .ne 7, 3) := by decide +kernel
theorem dX7_states_88 : decode cX7_states 88 = .ok (.iconst 1, 1) := by decide +kernel
theorem dX7_states_89 : decode cX7_states 89 = .ok (.goto 4, 3) := by decide +kernel
theorem dX7_states_92 : decode cX7_states 92 = .ok (.iconst 0, 1) := by decide +kernel
theorem dX7_states_93 : decode cX7_states 93 = .ok (.istore 10, 2) := by decide +kernel
theorem dX7_states_95 : decode cX7_states 95 = .ok (.iload 7, 2) := by decide +kernel
theorem dX7_states_97 : decode cX7_states 97 = .ok (.iload 10, 2) := by decide +kernel
theorem dX7_states_99 : decode cX7_states 99 = .ok (.ifCond .eq 7, 3) := by decide +kernel
theorem dX7_states_102 : decode cX7_states 102 = .ok (.iconst 1, 1) := by decide +kernel
theorem dX7_states_103 : decode cX7_states 103 = .ok (.goto 4, 3) := by decide +kernel
theorem dX7_states_106 : decode cX7_states 106 = .ok (.iconst 0, 1) := by decide +kernel
theorem dX7_states_107 : decode cX7_states 107 = .ok (.iadd, 1) := by decide +kernel
theorem dX7_states_108 : decode cX7_states 108 = .ok (.istore 7, 2) := by decide +kernel
theorem dX7_states_110 : decode cX7_states 110 = .ok (.iload 10, 2) := by decide +kernel
theorem dX7_states_112 : decode cX7_states 112 = .ok (.ifCond .eq 14, 3) := by decide +kernel
theorem dX7_states_115 : decode cX7_states 115 = .ok (.iload 8, 2) := by decide +kernel
theorem dX7_states_117 : decode cX7_states 117 = .ok (.iconst (-1), 1) := by decide +kernel
theorem dX7_states_118 : decode cX7_states 118 = .ok (.if_icmp .ne 8, 3) := by decide +kernel
theorem dX7_states_121 : decode cX7_states 121 = .ok (.iload 9, 2) := by decide +kernel
theorem dX7_states_123 : decode cX7_states 123 = .ok (.goto 5, 3) := by decide +kernel
theorem dX7_states_126 : decode cX7_states 126 = .ok (.iload 8, 2) := by decide +kernel
theorem dX7_states_128 : decode cX7_states 128 = .ok (.istore 8, 2) := by decide +kernel
theorem dX7_states_130 : decode cX7_states 130 = .ok (.iinc 9 1, 3) := by decide +kernel
theorem dX7_states_133 : decode cX7_states 133 = .ok (.goto (-74), 3) := by decide +kernel
theorem dX7_states_136 : decode cX7_states 136 = .ok (.aload_n 0, 1) := by decide +kernel
theorem dX7_states_137 : decode cX7_states 137 = .ok (.getfield 16, 3) := by decide +kernel
theorem dX7_states_140 : decode cX7_states 140 = .ok (.iconst 4, 1) := by decide +kernel
theorem dX7_states_141 : decode cX7_states 141 = .ok (.iload_n 2, 1) := by decide +kernel
theorem dX7_states_142 : decode cX7_states 142 = .ok (.imul, 1) := by decide +kernel
theorem dX7_states_143 : decode cX7_states 143 = .ok (.iload_n 3, 1) := by decide +kernel
theorem dX7_states_144 : decode cX7_states 144 = .ok (.iadd, 1) := by decide +kernel
theorem dX7_states_145 : decode cX7_states 145 = .ok (.iload 6, 2) := by decide +kernel
theorem dX7_states_147 : decode cX7_states 147 = .ok (.iastore, 1) := by decide +kernel
theorem dX7_states_148 : decode cX7_states 148 = .ok (.iload 4, 2) := by decide +kernel
theorem dX7_states_150 : decode cX7_states 150 = .ok (.ifCond .ne 8, 3) := by decide +kernel
theorem dX7_states_153 : decode cX7_states 153 = .ok (.iload 7, 2) := by decide +kernel
theorem dX7_states_155 : decode cX7_states 155 = .ok (.goto 5, 3) := by decide +kernel
theorem dX7_states_158 : decode cX7_states 158 = .ok (.iload 8, 2) := by decide +kernel
theorem dX7_states_160 : decode cX7_states 160 = .ok (.ireturn, 1) := by decide +kernel
theorem dX7_places_0 : decode cX7_places 0 = .ok (.aload_n 0, 1) := by decide +kernel
theorem dX7_places_1 : decode cX7_places 1 = .ok (.iload_n 1, 1) := by decide +kernel
theorem dX7_places_2 : decode cX7_places 2 = .ok (.iload_n 2, 1) := by decide +kernel
theorem dX7_places_3 : decode cX7_places 3 = .ok (.invokevirtual 232, 3) := by decide +kernel
theorem dX7_places_6 : decode cX7_places 6 = .ok (.ifCond .eq 7, 3) := by decide +kernel
theorem dX7_places_9 : decode cX7_places 9 = .ok (.ldc2_w 227, 3) := by decide +kernel
theorem dX7_places_12 : decode cX7_places 12 = .ok (.lreturn, 1) := by decide +kernel
theorem dX7_places_13 : decode cX7_places 13 = .ok (.aload_n 0, 1) := by decide +kernel
theorem dX7_places_14 : decode cX7_places 14 = .ok (.getfield 16, 3) := by decide +kernel
theorem dX7_places_17 : decode cX7_places 17 = .ok (.iconst 4, 1) := by decide +kernel
theorem dX7_places_18 : decode cX7_places 18 = .ok (.iload_n 2, 1) := by decide +kernel
theorem dX7_places_19 : decode cX7_places 19 = .ok (.imul, 1) := by decide +kernel
theorem dX7_places_20 : decode cX7_places 20 = .ok (.iaload, 1) := by decide +kernel
theorem dX7_places_21 : decode cX7_places 21 = .ok (.istore_n 3, 1) := by decide +kernel
theorem dX7_places_22 : decode cX7_places 22 = .ok (.lconst 0, 1) := by decide +kernel
theorem dX7_places_23 : decode cX7_places 23 = .ok (.lstore 4, 2) := by decide +kernel
theorem dX7_places_25 : decode cX7_places 25 = .ok (.iconst 0, 1) := by decide +kernel
theorem dX7_places_26 : decode cX7_places 26 = .ok (.istore 6, 2) := by decide +kernel
theorem dX7_places_28 : decode cX7_places 28 = .ok (.iload 6, 2) := by decide +kernel
theorem dX7_places_30 : decode cX7_places 30 = .ok (.bipush 64, 2) := by decide +kernel
theorem dX7_places_32 : decode cX7_places 32 = .ok (.if_icmp .ge 42, 3) := by decide +kernel
theorem dX7_places_35 : decode cX7_places 35 = .ok (.aload_n 0, 1) := by decide +kernel
theorem dX7_places_36 : decode cX7_places 36 = .ok (.getfield 16, 3) := by decide +kernel
theorem dX7_places_39 : decode cX7_places 39 = .ok (.iconst 4, 1) := by decide +kernel
theorem dX7_places_40 : decode cX7_places 40 = .ok (.iload_n 2, 1) := by decide +kernel
theorem dX7_places_41 : decode cX7_places 41 = .ok (.imul, 1) := by decide +kernel
theorem dX7_places_42 : decode cX7_places 42 = .ok (.iload 6, 2) := by decide +kernel
theorem dX7_places_44 : decode cX7_places 44 = .ok (.iastore, 1) := by decide +kernel
theorem dX7_places_45 : decode cX7_places 45 = .ok (.lload 4, 2) := by decide +kernel
theorem dX7_places_47 : decode cX7_places 47 = .ok (.aload_n 0, 1) := by decide +kernel
theorem dX7_places_48 : decode cX7_places 48 = .ok (.iload_n 1, 1) := by decide +kernel
theorem dX7_places_49 : decode cX7_places 49 = .ok (.iload_n 2, 1) := by decide +kernel
theorem dX7_places_50 : decode cX7_places 50 = .ok (.invokevirtual 235, 3) := by decide +kernel
theorem dX7_places_53 : decode cX7_places 53 = .ok (.iconst (-1), 1) := by decide +kernel
theorem dX7_places_54 : decode cX7_places 54 = .ok (.if_icmp .ne 10, 3) := by decide +kernel
theorem dX7_places_57 : decode cX7_places 57 = .ok (.lconst 1, 1) := by decide +kernel
theorem dX7_places_58 : decode cX7_places 58 = .ok (.iload 6, 2) := by decide +kernel
theorem dX7_places_60 : decode cX7_places 60 = .ok (.lshl, 1) := by decide +kernel
theorem dX7_places_61 : decode cX7_places 61 = .ok (.goto 4, 3) := by decide +kernel
theorem dX7_places_64 : decode cX7_places 64 = .ok (.lconst 0, 1) := by decide +kernel
theorem dX7_places_65 : decode cX7_places 65 = .ok (.lor, 1) := by decide +kernel
theorem dX7_places_66 : decode cX7_places 66 = .ok (.lstore 4, 2) := by decide +kernel
theorem dX7_places_68 : decode cX7_places 68 = .ok (.iinc 6 1, 3) := by decide +kernel
theorem dX7_places_71 : decode cX7_places 71 = .ok (.goto (-43), 3) := by decide +kernel
theorem dX7_places_74 : decode cX7_places 74 = .ok (.aload_n 0, 1) := by decide +kernel
theorem dX7_places_75 : decode cX7_places 75 = .ok (.getfield 16, 3) := by decide +kernel
theorem dX7_places_78 : decode cX7_places 78 = .ok (.iconst 4, 1) := by decide +kernel
theorem dX7_places_79 : decode cX7_places 79 = .ok (.iload_n 2, 1) := by decide +kernel
theorem dX7_places_80 : decode cX7_places 80 = .ok (.imul, 1) := by decide +kernel
theorem dX7_places_81 : decode cX7_places 81 = .ok (.iload_n 3, 1) := by decide +kernel
theorem dX7_places_82 : decode cX7_places 82 = .ok (.iastore, 1) := by decide +kernel
theorem dX7_places_83 : decode cX7_places 83 = .ok (.lload 4, 2) := by decide +kernel
theorem dX7_places_85 : decode cX7_places 85 = .ok (.lreturn, 1) := by decide +kernel
theorem dX7_whose_0 : decode cX7_whose 0 = .ok (.aload_n 0, 1) := by decide +kernel
theorem dX7_whose_1 : decode cX7_whose 1 = .ok (.iload_n 1, 1) := by decide +kernel
theorem dX7_whose_2 : decode cX7_whose 2 = .ok (.invokevirtual 229, 3) := by decide +kernel
theorem dX7_whose_5 : decode cX7_whose 5 = .ok (.istore_n 2, 1) := by decide +kernel
theorem dX7_whose_6 : decode cX7_whose 6 = .ok (.iload_n 2, 1) := by decide +kernel
theorem dX7_whose_7 : decode cX7_whose 7 = .ok (.ifCond .eq 5, 3) := by decide +kernel
theorem dX7_whose_10 : decode cX7_whose 10 = .ok (.iload_n 2, 1) := by decide +kernel
theorem dX7_whose_11 : decode cX7_whose 11 = .ok (.ireturn, 1) := by decide +kernel
theorem dX7_whose_12 : decode cX7_whose 12 = .ok (.iconst 0, 1) := by decide +kernel
theorem dX7_whose_13 : decode cX7_whose 13 = .ok (.istore_n 3, 1) := by decide +kernel
theorem dX7_whose_14 : decode cX7_whose 14 = .ok (.iconst 0, 1) := by decide +kernel
theorem dX7_whose_15 : decode cX7_whose 15 = .ok (.istore 4, 2) := by decide +kernel
theorem dX7_whose_17 : decode cX7_whose 17 = .ok (.iload 4, 2) := by decide +kernel
theorem dX7_whose_19 : decode cX7_whose 19 = .ok (.aload_n 0, 1) := by decide +kernel
theorem dX7_whose_20 : decode cX7_whose 20 = .ok (.getfield 72, 3) := by decide +kernel
theorem dX7_whose_23 : decode cX7_whose 23 = .ok (.if_icmp .ge 31, 3) := by decide +kernel
theorem dX7_whose_26 : decode cX7_whose 26 = .ok (.iload_n 3, 1) := by decide +kernel
theorem dX7_whose_27 : decode cX7_whose 27 = .ok (.aload_n 0, 1) := by decide +kernel
theorem dX7_whose_28 : decode cX7_whose 28 = .ok (.iload_n 1, 1) := by decide +kernel
theorem dX7_whose_29 : decode cX7_whose 29 = .ok (.iload 4, 2) := by decide +kernel
theorem dX7_whose_31 : decode cX7_whose 31 = .ok (.invokevirtual 235, 3) := by decide +kernel
theorem dX7_whose_34 : decode cX7_whose 34 = .ok (.iconst (-1), 1) := by decide +kernel
theorem dX7_whose_35 : decode cX7_whose 35 = .ok (.if_icmp .ne 10, 3) := by decide +kernel
theorem dX7_whose_38 : decode cX7_whose 38 = .ok (.iconst 1, 1) := by decide +kernel
theorem dX7_whose_39 : decode cX7_whose 39 = .ok (.iload 4, 2) := by decide +kernel
theorem dX7_whose_41 : decode cX7_whose 41 = .ok (.ishl, 1) := by decide +kernel
theorem dX7_whose_42 : decode cX7_whose 42 = .ok (.goto 4, 3) := by decide +kernel
theorem dX7_whose_45 : decode cX7_whose 45 = .ok (.iconst 0, 1) := by decide +kernel
theorem dX7_whose_46 : decode cX7_whose 46 = .ok (.ior, 1) := by decide +kernel
theorem dX7_whose_47 : decode cX7_whose 47 = .ok (.istore_n 3, 1) := by decide +kernel
theorem dX7_whose_48 : decode cX7_whose 48 = .ok (.iinc 4 1, 3) := by decide +kernel
theorem dX7_whose_51 : decode cX7_whose 51 = .ok (.goto (-34), 3) := by decide +kernel
theorem dX7_whose_54 : decode cX7_whose 54 = .ok (.iload_n 3, 1) := by decide +kernel
theorem dX7_whose_55 : decode cX7_whose 55 = .ok (.ireturn, 1) := by decide +kernel
theorem dX7_laws_0 : decode cX7_laws 0 = .ok (.aload_n 0, 1) := by decide +kernel
theorem dX7_laws_1 : decode cX7_laws 1 = .ok (.iload_n 1, 1) := by decide +kernel
theorem dX7_laws_2 : decode cX7_laws 2 = .ok (.iload_n 2, 1) := by decide +kernel
theorem dX7_laws_3 : decode cX7_laws 3 = .ok (.invokevirtual 232, 3) := by decide +kernel
theorem dX7_laws_6 : decode cX7_laws 6 = .ok (.istore_n 3, 1) := by decide +kernel
theorem dX7_laws_7 : decode cX7_laws 7 = .ok (.iload_n 3, 1) := by decide +kernel
theorem dX7_laws_8 : decode cX7_laws 8 = .ok (.ifCond .eq 5, 3) := by decide +kernel
theorem dX7_laws_11 : decode cX7_laws 11 = .ok (.iload_n 3, 1) := by decide +kernel
theorem dX7_laws_12 : decode cX7_laws 12 = .ok (.ireturn, 1) := by decide +kernel
theorem dX7_laws_13 : decode cX7_laws 13 = .ok (.aload_n 0, 1) := by decide +kernel
theorem dX7_laws_14 : decode cX7_laws 14 = .ok (.getfield 99, 3) := by decide +kernel
theorem dX7_laws_17 : decode cX7_laws 17 = .ok (.istore 4, 2) := by decide +kernel
theorem dX7_laws_19 : decode cX7_laws 19 = .ok (.iconst 0, 1) := by decide +kernel
theorem dX7_laws_20 : decode cX7_laws 20 = .ok (.istore 5, 2) := by decide +kernel
theorem dX7_laws_22 : decode cX7_laws 22 = .ok (.iconst 0, 1) := by decide +kernel
theorem dX7_laws_23 : decode cX7_laws 23 = .ok (.istore 6, 2) := by decide +kernel
theorem dX7_laws_25 : decode cX7_laws 25 = .ok (.iload 6, 2) := by decide +kernel
theorem dX7_laws_27 : decode cX7_laws 27 = .ok (.aload_n 0, 1) := by decide +kernel
theorem dX7_laws_28 : decode cX7_laws 28 = .ok (.getfield 96, 3) := by decide +kernel
theorem dX7_laws_31 : decode cX7_laws 31 = .ok (.if_icmp .ge 38, 3) := by decide +kernel
theorem dX7_laws_34 : decode cX7_laws 34 = .ok (.aload_n 0, 1) := by decide +kernel
theorem dX7_laws_35 : decode cX7_laws 35 = .ok (.iload 6, 2) := by decide +kernel
theorem dX7_laws_37 : decode cX7_laws 37 = .ok (.putfield 99, 3) := by decide +kernel
theorem dX7_laws_40 : decode cX7_laws 40 = .ok (.iload 5, 2) := by decide +kernel
theorem dX7_laws_42 : decode cX7_laws 42 = .ok (.aload_n 0, 1) := by decide +kernel
theorem dX7_laws_43 : decode cX7_laws 43 = .ok (.iload_n 1, 1) := by decide +kernel
theorem dX7_laws_44 : decode cX7_laws 44 = .ok (.iload_n 2, 1) := by decide +kernel
theorem dX7_laws_45 : decode cX7_laws 45 = .ok (.invokevirtual 235, 3) := by decide +kernel
theorem dX7_laws_48 : decode cX7_laws 48 = .ok (.iconst (-1), 1) := by decide +kernel
theorem dX7_laws_49 : decode cX7_laws 49 = .ok (.if_icmp .ne 10, 3) := by decide +kernel
theorem dX7_laws_52 : decode cX7_laws 52 = .ok (.iconst 1, 1) := by decide +kernel
theorem dX7_laws_53 : decode cX7_laws 53 = .ok (.iload 6, 2) := by decide +kernel
theorem dX7_laws_55 : decode cX7_laws 55 = .ok (.ishl, 1) := by decide +kernel
theorem dX7_laws_56 : decode cX7_laws 56 = .ok (.goto 4, 3) := by decide +kernel
theorem dX7_laws_59 : decode cX7_laws 59 = .ok (.iconst 0, 1) := by decide +kernel
theorem dX7_laws_60 : decode cX7_laws 60 = .ok (.ior, 1) := by decide +kernel
theorem dX7_laws_61 : decode cX7_laws 61 = .ok (.istore 5, 2) := by decide +kernel
theorem dX7_laws_63 : decode cX7_laws 63 = .ok (.iinc 6 1, 3) := by decide +kernel
theorem dX7_laws_66 : decode cX7_laws 66 = .ok (.goto (-41), 3) := by decide +kernel
theorem dX7_laws_69 : decode cX7_laws 69 = .ok (.aload_n 0, 1) := by decide +kernel
theorem dX7_laws_70 : decode cX7_laws 70 = .ok (.iload 4, 2) := by decide +kernel
theorem dX7_laws_72 : decode cX7_laws 72 = .ok (.putfield 99, 3) := by decide +kernel
theorem dX7_laws_75 : decode cX7_laws 75 = .ok (.iload 5, 2) := by decide +kernel
theorem dX7_laws_77 : decode cX7_laws 77 = .ok (.ireturn, 1) := by decide +kernel
theorem dX7_film_0 : decode cX7_film 0 = .ok (.iload_n 1, 1) := by decide +kernel
theorem dX7_film_1 : decode cX7_film 1 = .ok (.iconst 0, 1) := by decide +kernel
theorem dX7_film_2 : decode cX7_film 2 = .ok (.iconst 3, 1) := by decide +kernel
theorem dX7_film_3 : decode cX7_film 3 = .ok (.invokestatic 75, 3) := by decide +kernel
theorem dX7_film_6 : decode cX7_film 6 = .ok (.ifCond .ne 6, 3) := by decide +kernel
theorem dX7_film_9 : decode cX7_film 9 = .ok (.bipush (-2), 2) := by decide +kernel
theorem dX7_film_11 : decode cX7_film 11 = .ok (.ireturn, 1) := by decide +kernel
theorem dX7_film_12 : decode cX7_film 12 = .ok (.aload_n 0, 1) := by decide +kernel
theorem dX7_film_13 : decode cX7_film 13 = .ok (.iload_n 2, 1) := by decide +kernel
theorem dX7_film_14 : decode cX7_film 14 = .ok (.invokevirtual 79, 3) := by decide +kernel
theorem dX7_film_17 : decode cX7_film 17 = .ok (.ifCond .ne 6, 3) := by decide +kernel
theorem dX7_film_20 : decode cX7_film 20 = .ok (.bipush (-5), 2) := by decide +kernel
theorem dX7_film_22 : decode cX7_film 22 = .ok (.ireturn, 1) := by decide +kernel
theorem dX7_film_23 : decode cX7_film 23 = .ok (.iload_n 3, 1) := by decide +kernel
theorem dX7_film_24 : decode cX7_film 24 = .ok (.iconst 0, 1) := by decide +kernel
theorem dX7_film_25 : decode cX7_film 25 = .ok (.bipush 20, 2) := by decide +kernel
theorem dX7_film_27 : decode cX7_film 27 = .ok (.invokestatic 75, 3) := by decide +kernel
theorem dX7_film_30 : decode cX7_film 30 = .ok (.ifCond .ne 6, 3) := by decide +kernel
theorem dX7_film_33 : decode cX7_film 33 = .ok (.bipush (-7), 2) := by decide +kernel
theorem dX7_film_35 : decode cX7_film 35 = .ok (.ireturn, 1) := by decide +kernel
theorem dX7_film_36 : decode cX7_film 36 = .ok (.aload_n 0, 1) := by decide +kernel
theorem dX7_film_37 : decode cX7_film 37 = .ok (.getfield 37, 3) := by decide +kernel
theorem dX7_film_40 : decode cX7_film 40 = .ok (.iload_n 1, 1) := by decide +kernel
theorem dX7_film_41 : decode cX7_film 41 = .ok (.iconst 0, 1) := by decide +kernel
theorem dX7_film_42 : decode cX7_film 42 = .ok (.iastore, 1) := by decide +kernel
theorem dX7_film_43 : decode cX7_film 43 = .ok (.aload_n 0, 1) := by decide +kernel
theorem dX7_film_44 : decode cX7_film 44 = .ok (.getfield 40, 3) := by decide +kernel
theorem dX7_film_47 : decode cX7_film 47 = .ok (.iload_n 1, 1) := by decide +kernel
theorem dX7_film_48 : decode cX7_film 48 = .ok (.iload_n 3, 1) := by decide +kernel
theorem dX7_film_49 : decode cX7_film 49 = .ok (.iastore, 1) := by decide +kernel
theorem dX7_film_50 : decode cX7_film 50 = .ok (.aload_n 0, 1) := by decide +kernel
theorem dX7_film_51 : decode cX7_film 51 = .ok (.invokevirtual 205, 3) := by decide +kernel
theorem dX7_film_54 : decode cX7_film 54 = .ok (.iconst 0, 1) := by decide +kernel
theorem dX7_film_55 : decode cX7_film 55 = .ok (.istore 4, 2) := by decide +kernel
theorem dX7_film_57 : decode cX7_film 57 = .ok (.iload 4, 2) := by decide +kernel
theorem dX7_film_59 : decode cX7_film 59 = .ok (.bipush 40, 2) := by decide +kernel
theorem dX7_film_61 : decode cX7_film 61 = .ok (.if_icmp .ge 55, 3) := by decide +kernel
theorem dX7_film_64 : decode cX7_film 64 = .ok (.aload_n 0, 1) := by decide +kernel
theorem dX7_film_65 : decode cX7_film 65 = .ok (.getfield 43, 3) := by decide +kernel
theorem dX7_film_68 : decode cX7_film 68 = .ok (.bipush 40, 2) := by decide +kernel
theorem dX7_film_70 : decode cX7_film 70 = .ok (.iload_n 1, 1) := by decide +kernel
theorem dX7_film_71 : decode cX7_film 71 = .ok (.imul, 1) := by decide +kernel
theorem dX7_film_72 : decode cX7_film 72 = .ok (.iload 4, 2) := by decide +kernel
theorem dX7_film_74 : decode cX7_film 74 = .ok (.iadd, 1) := by decide +kernel
theorem dX7_film_75 : decode cX7_film 75 = .ok (.iconst 0, 1) := by decide +kernel
theorem dX7_film_76 : decode cX7_film 76 = .ok (.iastore, 1) := by decide +kernel
theorem dX7_film_77 : decode cX7_film 77 = .ok (.iload 4, 2) := by decide +kernel
theorem dX7_film_79 : decode cX7_film 79 = .ok (.iload_n 3, 1) := by decide +kernel
theorem dX7_film_80 : decode cX7_film 80 = .ok (.if_icmp .ge 30, 3) := by decide +kernel
theorem dX7_film_83 : decode cX7_film 83 = .ok (.aload_n 0, 1) := by decide +kernel
theorem dX7_film_84 : decode cX7_film 84 = .ok (.invokevirtual 202, 3) := by decide +kernel
theorem dX7_film_87 : decode cX7_film 87 = .ok (.pop, 1) := by decide +kernel
theorem dX7_film_88 : decode cX7_film 88 = .ok (.aload_n 0, 1) := by decide +kernel
theorem dX7_film_89 : decode cX7_film 89 = .ok (.getfield 43, 3) := by decide +kernel
theorem dX7_film_92 : decode cX7_film 92 = .ok (.bipush 40, 2) := by decide +kernel
theorem dX7_film_94 : decode cX7_film 94 = .ok (.iload_n 1, 1) := by decide +kernel
theorem dX7_film_95 : decode cX7_film 95 = .ok (.imul, 1) := by decide +kernel
theorem dX7_film_96 : decode cX7_film 96 = .ok (.iload 4, 2) := by decide +kernel
theorem dX7_film_98 : decode cX7_film 98 = .ok (.iadd, 1) := by decide +kernel
theorem dX7_film_99 : decode cX7_film 99 = .ok (.aload_n 0, 1) := by decide +kernel
theorem dX7_film_100 : decode cX7_film 100 = .ok (.getfield 16, 3) := by decide +kernel
theorem dX7_film_103 : decode cX7_film 103 = .ok (.iconst 4, 1) := by decide +kernel
theorem dX7_film_104 : decode cX7_film 104 = .ok (.iload_n 2, 1) := by decide +kernel
theorem dX7_film_105 : decode cX7_film 105 = .ok (.imul, 1) := by decide +kernel
theorem dX7_film_106 : decode cX7_film 106 = .ok (.iconst 1, 1) := by decide +kernel
theorem dX7_film_107 : decode cX7_film 107 = .ok (.iadd, 1) := by decide +kernel
theorem dX7_film_108 : decode cX7_film 108 = .ok (.iaload, 1) := by decide +kernel
theorem dX7_film_109 : decode cX7_film 109 = .ok (.iastore, 1) := by decide +kernel
theorem dX7_film_110 : decode cX7_film 110 = .ok (.iinc 4 1, 3) := by decide +kernel
theorem dX7_film_113 : decode cX7_film 113 = .ok (.goto (-56), 3) := by decide +kernel
theorem dX7_film_116 : decode cX7_film 116 = .ok (.aload_n 0, 1) := by decide +kernel
theorem dX7_film_117 : decode cX7_film 117 = .ok (.invokevirtual 214, 3) := by decide +kernel
theorem dX7_film_120 : decode cX7_film 120 = .ok (.iload_n 3, 1) := by decide +kernel
theorem dX7_film_121 : decode cX7_film 121 = .ok (.ireturn, 1) := by decide +kernel
theorem dX7_lotRing_0 : decode cX7_lotRing 0 = .ok (.iload_n 1, 1) := by decide +kernel
theorem dX7_lotRing_1 : decode cX7_lotRing 1 = .ok (.i2l, 1) := by decide +kernel
theorem dX7_lotRing_2 : decode cX7_lotRing 2 = .ok (.lconst 1, 1) := by decide +kernel
theorem dX7_lotRing_3 : decode cX7_lotRing 3 = .ok (.ladd, 1) := by decide +kernel
theorem dX7_lotRing_4 : decode cX7_lotRing 4 = .ok (.lstore_n 2, 1) := by decide +kernel
theorem dX7_lotRing_5 : decode cX7_lotRing 5 = .ok (.aload_n 0, 1) := by decide +kernel
theorem dX7_lotRing_6 : decode cX7_lotRing 6 = .ok (.invokevirtual 205, 3) := by decide +kernel
theorem dX7_lotRing_9 : decode cX7_lotRing 9 = .ok (.iconst 0, 1) := by decide +kernel
theorem dX7_lotRing_10 : decode cX7_lotRing 10 = .ok (.istore 4, 2) := by decide +kernel
theorem dX7_lotRing_12 : decode cX7_lotRing 12 = .ok (.iload 4, 2) := by decide +kernel
theorem dX7_lotRing_14 : decode cX7_lotRing 14 = .ok (.aload_n 0, 1) := by decide +kernel
theorem dX7_lotRing_15 : decode cX7_lotRing 15 = .ok (.getfield 72, 3) := by decide +kernel
theorem dX7_lotRing_18 : decode cX7_lotRing 18 = .ok (.if_icmp .ge 34, 3) := by decide +kernel
theorem dX7_lotRing_21 : decode cX7_lotRing 21 = .ok (.lload_n 2, 1) := by decide +kernel
theorem dX7_lotRing_22 : decode cX7_lotRing 22 = .ok (.ldc2_w 238, 3) := by decide +kernel
theorem dX7_lotRing_25 : decode cX7_lotRing 25 = .ok (.lmul, 1) := by decide +kernel
theorem dX7_lotRing_26 : decode cX7_lotRing 26 = .ok (.ldc2_w 240, 3) := by decide +kernel
theorem dX7_lotRing_29 : decode cX7_lotRing 29 = .ok (.lrem, 1) := by decide +kernel
theorem dX7_lotRing_30 : decode cX7_lotRing 30 = .ok (.lstore_n 2, 1) := by decide +kernel
theorem dX7_lotRing_31 : decode cX7_lotRing 31 = .ok (.aload_n 0, 1) := by decide +kernel
theorem dX7_lotRing_32 : decode cX7_lotRing 32 = .ok (.getfield 16, 3) := by decide +kernel
theorem dX7_lotRing_35 : decode cX7_lotRing 35 = .ok (.iconst 4, 1) := by decide +kernel
theorem dX7_lotRing_36 : decode cX7_lotRing 36 = .ok (.iload 4, 2) := by decide +kernel
theorem dX7_lotRing_38 : decode cX7_lotRing 38 = .ok (.imul, 1) := by decide +kernel
theorem dX7_lotRing_39 : decode cX7_lotRing 39 = .ok (.lload_n 2, 1) := by decide +kernel
theorem dX7_lotRing_40 : decode cX7_lotRing 40 = .ok (.ldc2_w 242, 3) := by decide +kernel
theorem dX7_lotRing_43 : decode cX7_lotRing 43 = .ok (.lrem, 1) := by decide +kernel
theorem dX7_lotRing_44 : decode cX7_lotRing 44 = .ok (.l2i, 1) := by decide +kernel
theorem dX7_lotRing_45 : decode cX7_lotRing 45 = .ok (.iastore, 1) := by decide +kernel
theorem dX7_lotRing_46 : decode cX7_lotRing 46 = .ok (.iinc 4 1, 3) := by decide +kernel
theorem dX7_lotRing_49 : decode cX7_lotRing 49 = .ok (.goto (-37), 3) := by decide +kernel
theorem dX7_lotRing_52 : decode cX7_lotRing 52 = .ok (.aload_n 0, 1) := by decide +kernel
theorem dX7_lotRing_53 : decode cX7_lotRing 53 = .ok (.bipush 20, 2) := by decide +kernel
theorem dX7_lotRing_55 : decode cX7_lotRing 55 = .ok (.invokevirtual 208, 3) := by decide +kernel
theorem dX7_lotRing_58 : decode cX7_lotRing 58 = .ok (.aload_n 0, 1) := by decide +kernel
theorem dX7_lotRing_59 : decode cX7_lotRing 59 = .ok (.invokevirtual 89, 3) := by decide +kernel
theorem dX7_lotRing_62 : decode cX7_lotRing 62 = .ok (.istore 4, 2) := by decide +kernel
theorem dX7_lotRing_64 : decode cX7_lotRing 64 = .ok (.aload_n 0, 1) := by decide +kernel
theorem dX7_lotRing_65 : decode cX7_lotRing 65 = .ok (.aload_n 0, 1) := by decide +kernel
theorem dX7_lotRing_66 : decode cX7_lotRing 66 = .ok (.invokevirtual 211, 3) := by decide +kernel
theorem dX7_lotRing_69 : decode cX7_lotRing 69 = .ok (.putfield 244, 3) := by decide +kernel
theorem dX7_lotRing_72 : decode cX7_lotRing 72 = .ok (.aload_n 0, 1) := by decide +kernel
theorem dX7_lotRing_73 : decode cX7_lotRing 73 = .ok (.invokevirtual 214, 3) := by decide +kernel
theorem dX7_lotRing_76 : decode cX7_lotRing 76 = .ok (.iload 4, 2) := by decide +kernel
theorem dX7_lotRing_78 : decode cX7_lotRing 78 = .ok (.ireturn, 1) := by decide +kernel
theorem dX7_drawn_0 : decode cX7_drawn 0 = .ok (.iload_n 1, 1) := by decide +kernel
theorem dX7_drawn_1 : decode cX7_drawn 1 = .ok (.iconst 0, 1) := by decide +kernel
theorem dX7_drawn_2 : decode cX7_drawn 2 = .ok (.ldc 247, 2) := by decide +kernel
theorem dX7_drawn_4 : decode cX7_drawn 4 = .ok (.invokestatic 75, 3) := by decide +kernel
theorem dX7_drawn_7 : decode cX7_drawn 7 = .ok (.ifCond .eq 12, 3) := by decide +kernel
theorem dX7_drawn_10 : decode cX7_drawn 10 = .ok (.iload_n 2, 1) := by decide +kernel
theorem dX7_drawn_11 : decode cX7_drawn 11 = .ok (.iconst 0, 1) := by decide +kernel
theorem dX7_drawn_12 : decode cX7_drawn 12 = .ok (.iconst 1, 1) := by decide +kernel
theorem dX7_drawn_13 : decode cX7_drawn 13 = .ok (.invokestatic 75, 3) := by decide +kernel
theorem dX7_drawn_16 : decode cX7_drawn 16 = .ok (.ifCond .ne 6, 3) := by decide +kernel
theorem dX7_drawn_19 : decode cX7_drawn 19 = .ok (.bipush (-2), 2) := by decide +kernel
theorem dX7_drawn_21 : decode cX7_drawn 21 = .ok (.ireturn, 1) := by decide +kernel
theorem dX7_drawn_22 : decode cX7_drawn 22 = .ok (.aload_n 0, 1) := by decide +kernel
theorem dX7_drawn_23 : decode cX7_drawn 23 = .ok (.iload_n 1, 1) := by decide +kernel
theorem dX7_drawn_24 : decode cX7_drawn 24 = .ok (.invokevirtual 248, 3) := by decide +kernel
theorem dX7_drawn_27 : decode cX7_drawn 27 = .ok (.istore_n 3, 1) := by decide +kernel
theorem dX7_drawn_28 : decode cX7_drawn 28 = .ok (.iload_n 2, 1) := by decide +kernel
theorem dX7_drawn_29 : decode cX7_drawn 29 = .ok (.ifCond .ne 7, 3) := by decide +kernel
theorem dX7_drawn_32 : decode cX7_drawn 32 = .ok (.iload_n 3, 1) := by decide +kernel
theorem dX7_drawn_33 : decode cX7_drawn 33 = .ok (.goto 7, 3) := by decide +kernel
theorem dX7_drawn_36 : decode cX7_drawn 36 = .ok (.aload_n 0, 1) := by decide +kernel
theorem dX7_drawn_37 : decode cX7_drawn 37 = .ok (.getfield 244, 3) := by decide +kernel
theorem dX7_drawn_40 : decode cX7_drawn 40 = .ok (.ireturn, 1) := by decide +kernel
theorem dX7_odds_0 : decode cX7_odds 0 = .ok (.iload_n 1, 1) := by decide +kernel
theorem dX7_odds_1 : decode cX7_odds 1 = .ok (.iconst 0, 1) := by decide +kernel
theorem dX7_odds_2 : decode cX7_odds 2 = .ok (.ldc 247, 2) := by decide +kernel
theorem dX7_odds_4 : decode cX7_odds 4 = .ok (.invokestatic 75, 3) := by decide +kernel
theorem dX7_odds_7 : decode cX7_odds 7 = .ok (.ifCond .eq 31, 3) := by decide +kernel
theorem dX7_odds_10 : decode cX7_odds 10 = .ok (.iload_n 2, 1) := by decide +kernel
theorem dX7_odds_11 : decode cX7_odds 11 = .ok (.iconst 1, 1) := by decide +kernel
theorem dX7_odds_12 : decode cX7_odds 12 = .ok (.bipush 40, 2) := by decide +kernel
theorem dX7_odds_14 : decode cX7_odds 14 = .ok (.invokestatic 75, 3) := by decide +kernel
theorem dX7_odds_17 : decode cX7_odds 17 = .ok (.ifCond .eq 21, 3) := by decide +kernel
theorem dX7_odds_20 : decode cX7_odds 20 = .ok (.aload_n 0, 1) := by decide +kernel
theorem dX7_odds_21 : decode cX7_odds 21 = .ok (.iload_n 3, 1) := by decide +kernel
theorem dX7_odds_22 : decode cX7_odds 22 = .ok (.invokevirtual 79, 3) := by decide +kernel
theorem dX7_odds_25 : decode cX7_odds 25 = .ok (.ifCond .eq 13, 3) := by decide +kernel
theorem dX7_odds_28 : decode cX7_odds 28 = .ok (.iload 4, 2) := by decide +kernel
theorem dX7_odds_30 : decode cX7_odds 30 = .ok (.iconst 0, 1) := by decide +kernel
theorem dX7_odds_31 : decode cX7_odds 31 = .ok (.iconst 1, 1) := by decide +kernel
theorem dX7_odds_32 : decode cX7_odds 32 = .ok (.invokestatic 75, 3) := by decide +kernel
theorem dX7_odds_35 : decode cX7_odds 35 = .ok (.ifCond .ne 7, 3) := by decide +kernel
theorem dX7_odds_38 : decode cX7_odds 38 = .ok (.ldc2_w 227, 3) := by decide +kernel
theorem dX7_odds_41 : decode cX7_odds 41 = .ok (.lreturn, 1) := by decide +kernel
theorem dX7_odds_42 : decode cX7_odds 42 = .ok (.lconst 0, 1) := by decide +kernel
theorem dX7_odds_43 : decode cX7_odds 43 = .ok (.lstore 5, 2) := by decide +kernel
theorem dX7_odds_45 : decode cX7_odds 45 = .ok (.iconst 0, 1) := by decide +kernel
theorem dX7_odds_46 : decode cX7_odds 46 = .ok (.istore 7, 2) := by decide +kernel
theorem dX7_odds_48 : decode cX7_odds 48 = .ok (.iload 7, 2) := by decide +kernel
theorem dX7_odds_50 : decode cX7_odds 50 = .ok (.iload_n 2, 1) := by decide +kernel
theorem dX7_odds_51 : decode cX7_odds 51 = .ok (.if_icmp .ge 35, 3) := by decide +kernel
theorem dX7_odds_54 : decode cX7_odds 54 = .ok (.lload 5, 2) := by decide +kernel
theorem dX7_odds_56 : decode cX7_odds 56 = .ok (.aload_n 0, 1) := by decide +kernel
theorem dX7_odds_57 : decode cX7_odds 57 = .ok (.iload_n 1, 1) := by decide +kernel
theorem dX7_odds_58 : decode cX7_odds 58 = .ok (.iload 7, 2) := by decide +kernel
theorem dX7_odds_60 : decode cX7_odds 60 = .ok (.iadd, 1) := by decide +kernel
theorem dX7_odds_61 : decode cX7_odds 61 = .ok (.invokevirtual 248, 3) := by decide +kernel
theorem dX7_odds_64 : decode cX7_odds 64 = .ok (.iload_n 3, 1) := by decide +kernel
theorem dX7_odds_65 : decode cX7_odds 65 = .ok (.ishr, 1) := by decide +kernel
theorem dX7_odds_66 : decode cX7_odds 66 = .ok (.iconst 1, 1) := by decide +kernel
theorem dX7_odds_67 : decode cX7_odds 67 = .ok (.iand, 1) := by decide +kernel
theorem dX7_odds_68 : decode cX7_odds 68 = .ok (.iconst 1, 1) := by decide +kernel
theorem dX7_odds_69 : decode cX7_odds 69 = .ok (.if_icmp .ne 7, 3) := by decide +kernel
theorem dX7_odds_72 : decode cX7_odds 72 = .ok (.lconst 1, 1) := by decide +kernel
theorem dX7_odds_73 : decode cX7_odds 73 = .ok (.goto 4, 3) := by decide +kernel
theorem dX7_odds_76 : decode cX7_odds 76 = .ok (.lconst 0, 1) := by decide +kernel
theorem dX7_odds_77 : decode cX7_odds 77 = .ok (.ladd, 1) := by decide +kernel
theorem dX7_odds_78 : decode cX7_odds 78 = .ok (.lstore 5, 2) := by decide +kernel
theorem dX7_odds_80 : decode cX7_odds 80 = .ok (.iinc 7 1, 3) := by decide +kernel
theorem dX7_odds_83 : decode cX7_odds 83 = .ok (.goto (-35), 3) := by decide +kernel
theorem dX7_odds_86 : decode cX7_odds 86 = .ok (.lload 5, 2) := by decide +kernel
theorem dX7_odds_88 : decode cX7_odds 88 = .ok (.iload_n 2, 1) := by decide +kernel
theorem dX7_odds_89 : decode cX7_odds 89 = .ok (.i2l, 1) := by decide +kernel
theorem dX7_odds_90 : decode cX7_odds 90 = .ok (.iload 4, 2) := by decide +kernel
theorem dX7_odds_92 : decode cX7_odds 92 = .ok (.invokestatic 223, 3) := by decide +kernel
theorem dX7_odds_95 : decode cX7_odds 95 = .ok (.lreturn, 1) := by decide +kernel
theorem dX7_image_0 : decode cX7_image 0 = .ok (.aload_n 0, 1) := by decide +kernel
theorem dX7_image_1 : decode cX7_image 1 = .ok (.iconst 1, 1) := by decide +kernel
theorem dX7_image_2 : decode cX7_image 2 = .ok (.putfield 251, 3) := by decide +kernel
theorem dX7_image_5 : decode cX7_image 5 = .ok (.iconst 0, 1) := by decide +kernel
theorem dX7_image_6 : decode cX7_image 6 = .ok (.istore_n 1, 1) := by decide +kernel
theorem dX7_image_7 : decode cX7_image 7 = .ok (.iload_n 1, 1) := by decide +kernel
theorem dX7_image_8 : decode cX7_image 8 = .ok (.bipush 24, 2) := by decide +kernel
theorem dX7_image_10 : decode cX7_image 10 = .ok (.if_icmp .ge 21, 3) := by decide +kernel
theorem dX7_image_13 : decode cX7_image 13 = .ok (.aload_n 0, 1) := by decide +kernel
theorem dX7_image_14 : decode cX7_image 14 = .ok (.getfield 31, 3) := by decide +kernel
theorem dX7_image_17 : decode cX7_image 17 = .ok (.iload_n 1, 1) := by decide +kernel
theorem dX7_image_18 : decode cX7_image 18 = .ok (.aload_n 0, 1) := by decide +kernel
theorem dX7_image_19 : decode cX7_image 19 = .ok (.getfield 16, 3) := by decide +kernel
theorem dX7_image_22 : decode cX7_image 22 = .ok (.iload_n 1, 1) := by decide +kernel
theorem dX7_image_23 : decode cX7_image 23 = .ok (.iaload, 1) := by decide +kernel
theorem dX7_image_24 : decode cX7_image 24 = .ok (.iastore, 1) := by decide +kernel
theorem dX7_image_25 : decode cX7_image 25 = .ok (.iinc 1 1, 3) := by decide +kernel
theorem dX7_image_28 : decode cX7_image 28 = .ok (.goto (-21), 3) := by decide +kernel
theorem dX7_image_31 : decode cX7_image 31 = .ok (.iconst 0, 1) := by decide +kernel
theorem dX7_image_32 : decode cX7_image 32 = .ok (.istore_n 1, 1) := by decide +kernel
theorem dX7_image_33 : decode cX7_image 33 = .ok (.iload_n 1, 1) := by decide +kernel
theorem dX7_image_34 : decode cX7_image 34 = .ok (.bipush 36, 2) := by decide +kernel
theorem dX7_image_36 : decode cX7_image 36 = .ok (.if_icmp .ge 24, 3) := by decide +kernel
theorem dX7_image_39 : decode cX7_image 39 = .ok (.aload_n 0, 1) := by decide +kernel
theorem dX7_image_40 : decode cX7_image 40 = .ok (.getfield 31, 3) := by decide +kernel
theorem dX7_image_43 : decode cX7_image 43 = .ok (.bipush 24, 2) := by decide +kernel
theorem dX7_image_45 : decode cX7_image 45 = .ok (.iload_n 1, 1) := by decide +kernel
theorem dX7_image_46 : decode cX7_image 46 = .ok (.iadd, 1) := by decide +kernel
theorem dX7_image_47 : decode cX7_image 47 = .ok (.aload_n 0, 1) := by decide +kernel
theorem dX7_image_48 : decode cX7_image 48 = .ok (.getfield 19, 3) := by decide +kernel
theorem dX7_image_51 : decode cX7_image 51 = .ok (.iload_n 1, 1) := by decide +kernel
theorem dX7_image_52 : decode cX7_image 52 = .ok (.iaload, 1) := by decide +kernel
theorem dX7_image_53 : decode cX7_image 53 = .ok (.iastore, 1) := by decide +kernel
theorem dX7_image_54 : decode cX7_image 54 = .ok (.iinc 1 1, 3) := by decide +kernel
theorem dX7_image_57 : decode cX7_image 57 = .ok (.goto (-24), 3) := by decide +kernel
theorem dX7_image_60 : decode cX7_image 60 = .ok (.aload_n 0, 1) := by decide +kernel
theorem dX7_image_61 : decode cX7_image 61 = .ok (.getfield 34, 3) := by decide +kernel
theorem dX7_image_64 : decode cX7_image 64 = .ok (.iconst 0, 1) := by decide +kernel
theorem dX7_image_65 : decode cX7_image 65 = .ok (.aload_n 0, 1) := by decide +kernel
theorem dX7_image_66 : decode cX7_image 66 = .ok (.getfield 72, 3) := by decide +kernel
theorem dX7_image_69 : decode cX7_image 69 = .ok (.iastore, 1) := by decide +kernel
theorem dX7_image_70 : decode cX7_image 70 = .ok (.aload_n 0, 1) := by decide +kernel
theorem dX7_image_71 : decode cX7_image 71 = .ok (.getfield 34, 3) := by decide +kernel
theorem dX7_image_74 : decode cX7_image 74 = .ok (.iconst 1, 1) := by decide +kernel
theorem dX7_image_75 : decode cX7_image 75 = .ok (.aload_n 0, 1) := by decide +kernel
theorem dX7_image_76 : decode cX7_image 76 = .ok (.getfield 86, 3) := by decide +kernel
theorem dX7_image_79 : decode cX7_image 79 = .ok (.iastore, 1) := by decide +kernel
theorem dX7_image_80 : decode cX7_image 80 = .ok (.aload_n 0, 1) := by decide +kernel
theorem dX7_image_81 : decode cX7_image 81 = .ok (.getfield 34, 3) := by decide +kernel
theorem dX7_image_84 : decode cX7_image 84 = .ok (.iconst 2, 1) := by decide +kernel
theorem dX7_image_85 : decode cX7_image 85 = .ok (.aload_n 0, 1) := by decide +kernel
theorem dX7_image_86 : decode cX7_image 86 = .ok (.getfield 99, 3) := by decide +kernel
theorem dX7_image_89 : decode cX7_image 89 = .ok (.iastore, 1) := by decide +kernel
theorem dX7_image_90 : decode cX7_image 90 = .ok (.aload_n 0, 1) := by decide +kernel
theorem dX7_image_91 : decode cX7_image 91 = .ok (.getfield 72, 3) := by decide +kernel
theorem dX7_image_94 : decode cX7_image 94 = .ok (.ireturn, 1) := by decide +kernel
theorem dX7_back_0 : decode cX7_back 0 = .ok (.aload_n 0, 1) := by decide +kernel
theorem dX7_back_1 : decode cX7_back 1 = .ok (.getfield 251, 3) := by decide +kernel
theorem dX7_back_4 : decode cX7_back 4 = .ok (.ifCond .ne 6, 3) := by decide +kernel
theorem dX7_back_7 : decode cX7_back 7 = .ok (.bipush (-3), 2) := by decide +kernel
theorem dX7_back_9 : decode cX7_back 9 = .ok (.ireturn, 1) := by decide +kernel
theorem dX7_back_10 : decode cX7_back 10 = .ok (.iconst 0, 1) := by decide +kernel
theorem dX7_back_11 : decode cX7_back 11 = .ok (.istore_n 1, 1) := by decide +kernel
theorem dX7_back_12 : decode cX7_back 12 = .ok (.iload_n 1, 1) := by decide +kernel
theorem dX7_back_13 : decode cX7_back 13 = .ok (.bipush 24, 2) := by decide +kernel
theorem dX7_back_15 : decode cX7_back 15 = .ok (.if_icmp .ge 21, 3) := by decide +kernel
theorem dX7_back_18 : decode cX7_back 18 = .ok (.aload_n 0, 1) := by decide +kernel
theorem dX7_back_19 : decode cX7_back 19 = .ok (.getfield 16, 3) := by decide +kernel
theorem dX7_back_22 : decode cX7_back 22 = .ok (.iload_n 1, 1) := by decide +kernel
theorem dX7_back_23 : decode cX7_back 23 = .ok (.aload_n 0, 1) := by decide +kernel
theorem dX7_back_24 : decode cX7_back 24 = .ok (.getfield 31, 3) := by decide +kernel
theorem dX7_back_27 : decode cX7_back 27 = .ok (.iload_n 1, 1) := by decide +kernel
theorem dX7_back_28 : decode cX7_back 28 = .ok (.iaload, 1) := by decide +kernel
theorem dX7_back_29 : decode cX7_back 29 = .ok (.iastore, 1) := by decide +kernel
theorem dX7_back_30 : decode cX7_back 30 = .ok (.iinc 1 1, 3) := by decide +kernel
theorem dX7_back_33 : decode cX7_back 33 = .ok (.goto (-21), 3) := by decide +kernel
theorem dX7_back_36 : decode cX7_back 36 = .ok (.iconst 0, 1) := by decide +kernel
theorem dX7_back_37 : decode cX7_back 37 = .ok (.istore_n 1, 1) := by decide +kernel
theorem dX7_back_38 : decode cX7_back 38 = .ok (.iload_n 1, 1) := by decide +kernel
theorem dX7_back_39 : decode cX7_back 39 = .ok (.bipush 36, 2) := by decide +kernel
theorem dX7_back_41 : decode cX7_back 41 = .ok (.if_icmp .ge 24, 3) := by decide +kernel
theorem dX7_back_44 : decode cX7_back 44 = .ok (.aload_n 0, 1) := by decide +kernel
theorem dX7_back_45 : decode cX7_back 45 = .ok (.getfield 19, 3) := by decide +kernel
theorem dX7_back_48 : decode cX7_back 48 = .ok (.iload_n 1, 1) := by decide +kernel
theorem dX7_back_49 : decode cX7_back 49 = .ok (.aload_n 0, 1) := by decide +kernel
theorem dX7_back_50 : decode cX7_back 50 = .ok (.getfield 31, 3) := by decide +kernel
theorem dX7_back_53 : decode cX7_back 53 = .ok (.bipush 24, 2) := by decide +kernel
theorem dX7_back_55 : decode cX7_back 55 = .ok (.iload_n 1, 1) := by decide +kernel
theorem dX7_back_56 : decode cX7_back 56 = .ok (.iadd, 1) := by decide +kernel
theorem dX7_back_57 : decode cX7_back 57 = .ok (.iaload, 1) := by decide +kernel
theorem dX7_back_58 : decode cX7_back 58 = .ok (.iastore, 1) := by decide +kernel
theorem dX7_back_59 : decode cX7_back 59 = .ok (.iinc 1 1, 3) := by decide +kernel
theorem dX7_back_62 : decode cX7_back 62 = .ok (.goto (-24), 3) := by decide +kernel
theorem dX7_back_65 : decode cX7_back 65 = .ok (.aload_n 0, 1) := by decide +kernel
theorem dX7_back_66 : decode cX7_back 66 = .ok (.aload_n 0, 1) := by decide +kernel
theorem dX7_back_67 : decode cX7_back 67 = .ok (.getfield 34, 3) := by decide +kernel
theorem dX7_back_70 : decode cX7_back 70 = .ok (.iconst 0, 1) := by decide +kernel
theorem dX7_back_71 : decode cX7_back 71 = .ok (.iaload, 1) := by decide +kernel
theorem dX7_back_72 : decode cX7_back 72 = .ok (.putfield 72, 3) := by decide +kernel
theorem dX7_back_75 : decode cX7_back 75 = .ok (.aload_n 0, 1) := by decide +kernel
theorem dX7_back_76 : decode cX7_back 76 = .ok (.aload_n 0, 1) := by decide +kernel
theorem dX7_back_77 : decode cX7_back 77 = .ok (.getfield 34, 3) := by decide +kernel
theorem dX7_back_80 : decode cX7_back 80 = .ok (.iconst 1, 1) := by decide +kernel
theorem dX7_back_81 : decode cX7_back 81 = .ok (.iaload, 1) := by decide +kernel
theorem dX7_back_82 : decode cX7_back 82 = .ok (.putfield 86, 3) := by decide +kernel
theorem dX7_back_85 : decode cX7_back 85 = .ok (.aload_n 0, 1) := by decide +kernel
theorem dX7_back_86 : decode cX7_back 86 = .ok (.aload_n 0, 1) := by decide +kernel
theorem dX7_back_87 : decode cX7_back 87 = .ok (.getfield 34, 3) := by decide +kernel
theorem dX7_back_90 : decode cX7_back 90 = .ok (.iconst 2, 1) := by decide +kernel
theorem dX7_back_91 : decode cX7_back 91 = .ok (.iaload, 1) := by decide +kernel
theorem dX7_back_92 : decode cX7_back 92 = .ok (.putfield 99, 3) := by decide +kernel
theorem dX7_back_95 : decode cX7_back 95 = .ok (.aload_n 0, 1) := by decide +kernel
theorem dX7_back_96 : decode cX7_back 96 = .ok (.getfield 72, 3) := by decide +kernel
theorem dX7_back_99 : decode cX7_back 99 = .ok (.ireturn, 1) := by decide +kernel
theorem dX7_sheet_0 : decode cX7_sheet 0 = .ok (.iload_n 1, 1) := by decide +kernel
theorem dX7_sheet_1 : decode cX7_sheet 1 = .ok (.iconst 0, 1) := by decide +kernel
theorem dX7_sheet_2 : decode cX7_sheet 2 = .ok (.iconst 3, 1) := by decide +kernel
theorem dX7_sheet_3 : decode cX7_sheet 3 = .ok (.invokestatic 75, 3) := by decide +kernel
theorem dX7_sheet_6 : decode cX7_sheet 6 = .ok (.ifCond .eq 23, 3) := by decide +kernel
theorem dX7_sheet_9 : decode cX7_sheet 9 = .ok (.iload_n 2, 1) := by decide +kernel
theorem dX7_sheet_10 : decode cX7_sheet 10 = .ok (.iconst (-1), 1) := by decide +kernel
theorem dX7_sheet_11 : decode cX7_sheet 11 = .ok (.iconst 2, 1) := by decide +kernel
theorem dX7_sheet_12 : decode cX7_sheet 12 = .ok (.invokestatic 75, 3) := by decide +kernel
theorem dX7_sheet_15 : decode cX7_sheet 15 = .ok (.ifCond .eq 14, 3) := by decide +kernel
theorem dX7_sheet_18 : decode cX7_sheet 18 = .ok (.iload_n 2, 1) := by decide +kernel
theorem dX7_sheet_19 : decode cX7_sheet 19 = .ok (.iconst (-1), 1) := by decide +kernel
theorem dX7_sheet_20 : decode cX7_sheet 20 = .ok (.if_icmp .eq 12, 3) := by decide +kernel
theorem dX7_sheet_23 : decode cX7_sheet 23 = .ok (.iload_n 3, 1) := by decide +kernel
theorem dX7_sheet_24 : decode cX7_sheet 24 = .ok (.bipush 40, 2) := by decide +kernel
theorem dX7_sheet_26 : decode cX7_sheet 26 = .ok (.if_icmp .le 6, 3) := by decide +kernel
theorem dX7_sheet_29 : decode cX7_sheet 29 = .ok (.bipush (-2), 2) := by decide +kernel
theorem dX7_sheet_31 : decode cX7_sheet 31 = .ok (.ireturn, 1) := by decide +kernel
theorem dX7_sheet_32 : decode cX7_sheet 32 = .ok (.iload_n 2, 1) := by decide +kernel
theorem dX7_sheet_33 : decode cX7_sheet 33 = .ok (.iconst (-1), 1) := by decide +kernel
theorem dX7_sheet_34 : decode cX7_sheet 34 = .ok (.if_icmp .eq 10, 3) := by decide +kernel
theorem dX7_sheet_37 : decode cX7_sheet 37 = .ok (.iload_n 3, 1) := by decide +kernel
theorem dX7_sheet_38 : decode cX7_sheet 38 = .ok (.ifCond .ge 6, 3) := by decide +kernel
theorem dX7_sheet_41 : decode cX7_sheet 41 = .ok (.bipush (-14), 2) := by decide +kernel
theorem dX7_sheet_43 : decode cX7_sheet 43 = .ok (.ireturn, 1) := by decide +kernel
theorem dX7_sheet_44 : decode cX7_sheet 44 = .ok (.aload_n 0, 1) := by decide +kernel
theorem dX7_sheet_45 : decode cX7_sheet 45 = .ok (.getfield 37, 3) := by decide +kernel
theorem dX7_sheet_48 : decode cX7_sheet 48 = .ok (.iload_n 1, 1) := by decide +kernel
theorem dX7_sheet_49 : decode cX7_sheet 49 = .ok (.iload_n 2, 1) := by decide +kernel
theorem dX7_sheet_50 : decode cX7_sheet 50 = .ok (.iastore, 1) := by decide +kernel
theorem dX7_sheet_51 : decode cX7_sheet 51 = .ok (.aload_n 0, 1) := by decide +kernel
theorem dX7_sheet_52 : decode cX7_sheet 52 = .ok (.getfield 40, 3) := by decide +kernel
theorem dX7_sheet_55 : decode cX7_sheet 55 = .ok (.iload_n 1, 1) := by decide +kernel
theorem dX7_sheet_56 : decode cX7_sheet 56 = .ok (.iload_n 2, 1) := by decide +kernel
theorem dX7_sheet_57 : decode cX7_sheet 57 = .ok (.iconst (-1), 1) := by decide +kernel
theorem dX7_sheet_58 : decode cX7_sheet 58 = .ok (.if_icmp .ne 7, 3) := by decide +kernel
theorem dX7_sheet_61 : decode cX7_sheet 61 = .ok (.iconst 0, 1) := by decide +kernel
theorem dX7_sheet_62 : decode cX7_sheet 62 = .ok (.goto 4, 3) := by decide +kernel
theorem dX7_sheet_65 : decode cX7_sheet 65 = .ok (.iload_n 3, 1) := by decide +kernel
theorem dX7_sheet_66 : decode cX7_sheet 66 = .ok (.iastore, 1) := by decide +kernel
theorem dX7_sheet_67 : decode cX7_sheet 67 = .ok (.iconst 0, 1) := by decide +kernel
theorem dX7_sheet_68 : decode cX7_sheet 68 = .ok (.istore 4, 2) := by decide +kernel
theorem dX7_sheet_70 : decode cX7_sheet 70 = .ok (.iload 4, 2) := by decide +kernel
theorem dX7_sheet_72 : decode cX7_sheet 72 = .ok (.bipush 40, 2) := by decide +kernel
theorem dX7_sheet_74 : decode cX7_sheet 74 = .ok (.if_icmp .ge 22, 3) := by decide +kernel
theorem dX7_sheet_77 : decode cX7_sheet 77 = .ok (.aload_n 0, 1) := by decide +kernel
theorem dX7_sheet_78 : decode cX7_sheet 78 = .ok (.getfield 43, 3) := by decide +kernel
theorem dX7_sheet_81 : decode cX7_sheet 81 = .ok (.bipush 40, 2) := by decide +kernel
theorem dX7_sheet_83 : decode cX7_sheet 83 = .ok (.iload_n 1, 1) := by decide +kernel
theorem dX7_sheet_84 : decode cX7_sheet 84 = .ok (.imul, 1) := by decide +kernel
theorem dX7_sheet_85 : decode cX7_sheet 85 = .ok (.iload 4, 2) := by decide +kernel
theorem dX7_sheet_87 : decode cX7_sheet 87 = .ok (.iadd, 1) := by decide +kernel
theorem dX7_sheet_88 : decode cX7_sheet 88 = .ok (.iconst 0, 1) := by decide +kernel
theorem dX7_sheet_89 : decode cX7_sheet 89 = .ok (.iastore, 1) := by decide +kernel
theorem dX7_sheet_90 : decode cX7_sheet 90 = .ok (.iinc 4 1, 3) := by decide +kernel
theorem dX7_sheet_93 : decode cX7_sheet 93 = .ok (.goto (-23), 3) := by decide +kernel
theorem dX7_sheet_96 : decode cX7_sheet 96 = .ok (.iconst 1, 1) := by decide +kernel
theorem dX7_sheet_97 : decode cX7_sheet 97 = .ok (.ireturn, 1) := by decide +kernel
theorem dX7_cell_0 : decode cX7_cell 0 = .ok (.iload_n 1, 1) := by decide +kernel
theorem dX7_cell_1 : decode cX7_cell 1 = .ok (.iconst 0, 1) := by decide +kernel
theorem dX7_cell_2 : decode cX7_cell 2 = .ok (.iconst 3, 1) := by decide +kernel
theorem dX7_cell_3 : decode cX7_cell 3 = .ok (.invokestatic 75, 3) := by decide +kernel
theorem dX7_cell_6 : decode cX7_cell 6 = .ok (.ifCond .ne 6, 3) := by decide +kernel
theorem dX7_cell_9 : decode cX7_cell 9 = .ok (.bipush (-2), 2) := by decide +kernel
theorem dX7_cell_11 : decode cX7_cell 11 = .ok (.ireturn, 1) := by decide +kernel
theorem dX7_cell_12 : decode cX7_cell 12 = .ok (.aload_n 0, 1) := by decide +kernel
theorem dX7_cell_13 : decode cX7_cell 13 = .ok (.getfield 37, 3) := by decide +kernel
theorem dX7_cell_16 : decode cX7_cell 16 = .ok (.iload_n 1, 1) := by decide +kernel
theorem dX7_cell_17 : decode cX7_cell 17 = .ok (.iaload, 1) := by decide +kernel
theorem dX7_cell_18 : decode cX7_cell 18 = .ok (.iconst (-1), 1) := by decide +kernel
theorem dX7_cell_19 : decode cX7_cell 19 = .ok (.if_icmp .ne 6, 3) := by decide +kernel
theorem dX7_cell_22 : decode cX7_cell 22 = .ok (.bipush (-11), 2) := by decide +kernel
theorem dX7_cell_24 : decode cX7_cell 24 = .ok (.ireturn, 1) := by decide +kernel
theorem dX7_cell_25 : decode cX7_cell 25 = .ok (.iload_n 2, 1) := by decide +kernel
theorem dX7_cell_26 : decode cX7_cell 26 = .ok (.iconst 0, 1) := by decide +kernel
theorem dX7_cell_27 : decode cX7_cell 27 = .ok (.aload_n 0, 1) := by decide +kernel
theorem dX7_cell_28 : decode cX7_cell 28 = .ok (.getfield 40, 3) := by decide +kernel
theorem dX7_cell_31 : decode cX7_cell 31 = .ok (.iload_n 1, 1) := by decide +kernel
theorem dX7_cell_32 : decode cX7_cell 32 = .ok (.iaload, 1) := by decide +kernel
theorem dX7_cell_33 : decode cX7_cell 33 = .ok (.iconst 1, 1) := by decide +kernel
theorem dX7_cell_34 : decode cX7_cell 34 = .ok (.isub, 1) := by decide +kernel
theorem dX7_cell_35 : decode cX7_cell 35 = .ok (.invokestatic 75, 3) := by decide +kernel
theorem dX7_cell_38 : decode cX7_cell 38 = .ok (.ifCond .ne 6, 3) := by decide +kernel
theorem dX7_cell_41 : decode cX7_cell 41 = .ok (.bipush (-12), 2) := by decide +kernel
theorem dX7_cell_43 : decode cX7_cell 43 = .ok (.ireturn, 1) := by decide +kernel
theorem dX7_cell_44 : decode cX7_cell 44 = .ok (.aload_n 0, 1) := by decide +kernel
theorem dX7_cell_45 : decode cX7_cell 45 = .ok (.getfield 43, 3) := by decide +kernel
theorem dX7_cell_48 : decode cX7_cell 48 = .ok (.bipush 40, 2) := by decide +kernel
theorem dX7_cell_50 : decode cX7_cell 50 = .ok (.iload_n 1, 1) := by decide +kernel
theorem dX7_cell_51 : decode cX7_cell 51 = .ok (.imul, 1) := by decide +kernel
theorem dX7_cell_52 : decode cX7_cell 52 = .ok (.iload_n 2, 1) := by decide +kernel
theorem dX7_cell_53 : decode cX7_cell 53 = .ok (.iadd, 1) := by decide +kernel
theorem dX7_cell_54 : decode cX7_cell 54 = .ok (.aload_n 0, 1) := by decide +kernel
theorem dX7_cell_55 : decode cX7_cell 55 = .ok (.getfield 37, 3) := by decide +kernel
theorem dX7_cell_58 : decode cX7_cell 58 = .ok (.iload_n 1, 1) := by decide +kernel
theorem dX7_cell_59 : decode cX7_cell 59 = .ok (.iaload, 1) := by decide +kernel
theorem dX7_cell_60 : decode cX7_cell 60 = .ok (.ifCond .ne 8, 3) := by decide +kernel
theorem dX7_cell_63 : decode cX7_cell 63 = .ok (.iload_n 3, 1) := by decide +kernel
theorem dX7_cell_64 : decode cX7_cell 64 = .ok (.i2b, 1) := by decide +kernel
theorem dX7_cell_65 : decode cX7_cell 65 = .ok (.goto 19, 3) := by decide +kernel
theorem dX7_cell_68 : decode cX7_cell 68 = .ok (.aload_n 0, 1) := by decide +kernel
theorem dX7_cell_69 : decode cX7_cell 69 = .ok (.getfield 37, 3) := by decide +kernel
theorem dX7_cell_72 : decode cX7_cell 72 = .ok (.iload_n 1, 1) := by decide +kernel
theorem dX7_cell_73 : decode cX7_cell 73 = .ok (.iaload, 1) := by decide +kernel
theorem dX7_cell_74 : decode cX7_cell 74 = .ok (.iconst 1, 1) := by decide +kernel
theorem dX7_cell_75 : decode cX7_cell 75 = .ok (.if_icmp .ne 8, 3) := by decide +kernel
theorem dX7_cell_78 : decode cX7_cell 78 = .ok (.iload_n 3, 1) := by decide +kernel
theorem dX7_cell_79 : decode cX7_cell 79 = .ok (.i2s, 1) := by decide +kernel
theorem dX7_cell_80 : decode cX7_cell 80 = .ok (.goto 4, 3) := by decide +kernel
theorem dX7_cell_83 : decode cX7_cell 83 = .ok (.iload_n 3, 1) := by decide +kernel
theorem dX7_cell_84 : decode cX7_cell 84 = .ok (.iastore, 1) := by decide +kernel
theorem dX7_cell_85 : decode cX7_cell 85 = .ok (.iconst 1, 1) := by decide +kernel
theorem dX7_cell_86 : decode cX7_cell 86 = .ok (.ireturn, 1) := by decide +kernel
theorem dX7_copy_0 : decode cX7_copy 0 = .ok (.iload_n 1, 1) := by decide +kernel
theorem dX7_copy_1 : decode cX7_copy 1 = .ok (.iconst 0, 1) := by decide +kernel
theorem dX7_copy_2 : decode cX7_copy 2 = .ok (.iconst 3, 1) := by decide +kernel
theorem dX7_copy_3 : decode cX7_copy 3 = .ok (.invokestatic 75, 3) := by decide +kernel
theorem dX7_copy_6 : decode cX7_copy 6 = .ok (.ifCond .eq 12, 3) := by decide +kernel
theorem dX7_copy_9 : decode cX7_copy 9 = .ok (.iload_n 3, 1) := by decide +kernel
theorem dX7_copy_10 : decode cX7_copy 10 = .ok (.iconst 0, 1) := by decide +kernel
theorem dX7_copy_11 : decode cX7_copy 11 = .ok (.iconst 3, 1) := by decide +kernel
theorem dX7_copy_12 : decode cX7_copy 12 = .ok (.invokestatic 75, 3) := by decide +kernel
theorem dX7_copy_15 : decode cX7_copy 15 = .ok (.ifCond .ne 6, 3) := by decide +kernel
theorem dX7_copy_18 : decode cX7_copy 18 = .ok (.bipush (-2), 2) := by decide +kernel
theorem dX7_copy_20 : decode cX7_copy 20 = .ok (.ireturn, 1) := by decide +kernel
theorem dX7_copy_21 : decode cX7_copy 21 = .ok (.aload_n 0, 1) := by decide +kernel
theorem dX7_copy_22 : decode cX7_copy 22 = .ok (.getfield 37, 3) := by decide +kernel
theorem dX7_copy_25 : decode cX7_copy 25 = .ok (.iload_n 1, 1) := by decide +kernel
theorem dX7_copy_26 : decode cX7_copy 26 = .ok (.iaload, 1) := by decide +kernel
theorem dX7_copy_27 : decode cX7_copy 27 = .ok (.iconst (-1), 1) := by decide +kernel
theorem dX7_copy_28 : decode cX7_copy 28 = .ok (.if_icmp .eq 13, 3) := by decide +kernel
theorem dX7_copy_31 : decode cX7_copy 31 = .ok (.aload_n 0, 1) := by decide +kernel
theorem dX7_copy_32 : decode cX7_copy 32 = .ok (.getfield 37, 3) := by decide +kernel
theorem dX7_copy_35 : decode cX7_copy 35 = .ok (.iload_n 3, 1) := by decide +kernel
theorem dX7_copy_36 : decode cX7_copy 36 = .ok (.iaload, 1) := by decide +kernel
theorem dX7_copy_37 : decode cX7_copy 37 = .ok (.iconst (-1), 1) := by decide +kernel
theorem dX7_copy_38 : decode cX7_copy 38 = .ok (.if_icmp .ne 6, 3) := by decide +kernel
theorem dX7_copy_41 : decode cX7_copy 41 = .ok (.bipush (-11), 2) := by decide +kernel
theorem dX7_copy_43 : decode cX7_copy 43 = .ok (.ireturn, 1) := by decide +kernel
theorem dX7_copy_44 : decode cX7_copy 44 = .ok (.aload_n 0, 1) := by decide +kernel
theorem dX7_copy_45 : decode cX7_copy 45 = .ok (.getfield 37, 3) := by decide +kernel
theorem dX7_copy_48 : decode cX7_copy 48 = .ok (.iload_n 1, 1) := by decide +kernel
theorem dX7_copy_49 : decode cX7_copy 49 = .ok (.iaload, 1) := by decide +kernel
theorem dX7_copy_50 : decode cX7_copy 50 = .ok (.aload_n 0, 1) := by decide +kernel
theorem dX7_copy_51 : decode cX7_copy 51 = .ok (.getfield 37, 3) := by decide +kernel
theorem dX7_copy_54 : decode cX7_copy 54 = .ok (.iload_n 3, 1) := by decide +kernel
theorem dX7_copy_55 : decode cX7_copy 55 = .ok (.iaload, 1) := by decide +kernel
theorem dX7_copy_56 : decode cX7_copy 56 = .ok (.if_icmp .eq 6, 3) := by decide +kernel
theorem dX7_copy_59 : decode cX7_copy 59 = .ok (.bipush (-13), 2) := by decide +kernel
theorem dX7_copy_61 : decode cX7_copy 61 = .ok (.ireturn, 1) := by decide +kernel
theorem dX7_copy_62 : decode cX7_copy 62 = .ok (.iload 5, 2) := by decide +kernel
theorem dX7_copy_64 : decode cX7_copy 64 = .ok (.ifCond .lt 60, 3) := by decide +kernel
theorem dX7_copy_67 : decode cX7_copy 67 = .ok (.iload_n 2, 1) := by decide +kernel
theorem dX7_copy_68 : decode cX7_copy 68 = .ok (.ifCond .lt 56, 3) := by decide +kernel
theorem dX7_copy_71 : decode cX7_copy 71 = .ok (.iload 4, 2) := by decide +kernel
theorem dX7_copy_73 : decode cX7_copy 73 = .ok (.ifCond .lt 51, 3) := by decide +kernel
theorem dX7_copy_76 : decode cX7_copy 76 = .ok (.iload_n 2, 1) := by decide +kernel
theorem dX7_copy_77 : decode cX7_copy 77 = .ok (.aload_n 0, 1) := by decide +kernel
theorem dX7_copy_78 : decode cX7_copy 78 = .ok (.getfield 40, 3) := by decide +kernel
theorem dX7_copy_81 : decode cX7_copy 81 = .ok (.iload_n 1, 1) := by decide +kernel
theorem dX7_copy_82 : decode cX7_copy 82 = .ok (.iaload, 1) := by decide +kernel
theorem dX7_copy_83 : decode cX7_copy 83 = .ok (.if_icmp .gt 41, 3) := by decide +kernel
theorem dX7_copy_86 : decode cX7_copy 86 = .ok (.iload 4, 2) := by decide +kernel
theorem dX7_copy_88 : decode cX7_copy 88 = .ok (.aload_n 0, 1) := by decide +kernel
theorem dX7_copy_89 : decode cX7_copy 89 = .ok (.getfield 40, 3) := by decide +kernel
theorem dX7_copy_92 : decode cX7_copy 92 = .ok (.iload_n 3, 1) := by decide +kernel
theorem dX7_copy_93 : decode cX7_copy 93 = .ok (.iaload, 1) := by decide +kernel
theorem dX7_copy_94 : decode cX7_copy 94 = .ok (.if_icmp .gt 30, 3) := by decide +kernel
theorem dX7_copy_97 : decode cX7_copy 97 = .ok (.iload 5, 2) := by decide +kernel
theorem dX7_copy_99 : decode cX7_copy 99 = .ok (.aload_n 0, 1) := by decide +kernel
theorem dX7_copy_100 : decode cX7_copy 100 = .ok (.getfield 40, 3) := by decide +kernel
theorem dX7_copy_103 : decode cX7_copy 103 = .ok (.iload_n 1, 1) := by decide +kernel
theorem dX7_copy_104 : decode cX7_copy 104 = .ok (.iaload, 1) := by decide +kernel
theorem dX7_copy_105 : decode cX7_copy 105 = .ok (.iload_n 2, 1) := by decide +kernel
theorem dX7_copy_106 : decode cX7_copy 106 = .ok (.isub, 1) := by decide +kernel
theorem dX7_copy_107 : decode cX7_copy 107 = .ok (.if_icmp .gt 17, 3) := by decide +kernel
theorem dX7_copy_110 : decode cX7_copy 110 = .ok (.iload 5, 2) := by decide +kernel
theorem dX7_copy_112 : decode cX7_copy 112 = .ok (.aload_n 0, 1) := by decide +kernel
theorem dX7_copy_113 : decode cX7_copy 113 = .ok (.getfield 40, 3) := by decide +kernel
theorem dX7_copy_116 : decode cX7_copy 116 = .ok (.iload_n 3, 1) := by decide +kernel
theorem dX7_copy_117 : decode cX7_copy 117 = .ok (.iaload, 1) := by decide +kernel
theorem dX7_copy_118 : decode cX7_copy 118 = .ok (.iload 4, 2) := by decide +kernel
theorem dX7_copy_120 : decode cX7_copy 120 = .ok (.isub, 1) := by decide +kernel
theorem dX7_copy_121 : decode cX7_copy 121 = .ok (.if_icmp .le 6, 3) := by decide +kernel
theorem dX7_copy_124 : decode cX7_copy 124 = .ok (.bipush (-12), 2) := by decide +kernel
theorem dX7_copy_126 : decode cX7_copy 126 = .ok (.ireturn, 1) := by decide +kernel
theorem dX7_copy_127 : decode cX7_copy 127 = .ok (.bipush 40, 2) := by decide +kernel
theorem dX7_copy_129 : decode cX7_copy 129 = .ok (.iload_n 1, 1) := by decide +kernel
theorem dX7_copy_130 : decode cX7_copy 130 = .ok (.imul, 1) := by decide +kernel
theorem dX7_copy_131 : decode cX7_copy 131 = .ok (.iload_n 2, 1) := by decide +kernel
theorem dX7_copy_132 : decode cX7_copy 132 = .ok (.iadd, 1) := by decide +kernel
theorem dX7_copy_133 : decode cX7_copy 133 = .ok (.istore 6, 2) := by decide +kernel
theorem dX7_copy_135 : decode cX7_copy 135 = .ok (.bipush 40, 2) := by decide +kernel
theorem dX7_copy_137 : decode cX7_copy 137 = .ok (.iload_n 3, 1) := by decide +kernel
theorem dX7_copy_138 : decode cX7_copy 138 = .ok (.imul, 1) := by decide +kernel
theorem dX7_copy_139 : decode cX7_copy 139 = .ok (.iload 4, 2) := by decide +kernel
theorem dX7_copy_141 : decode cX7_copy 141 = .ok (.iadd, 1) := by decide +kernel
theorem dX7_copy_142 : decode cX7_copy 142 = .ok (.istore 7, 2) := by decide +kernel
theorem dX7_copy_144 : decode cX7_copy 144 = .ok (.iconst 0, 1) := by decide +kernel
theorem dX7_copy_145 : decode cX7_copy 145 = .ok (.istore 8, 2) := by decide +kernel
theorem dX7_copy_147 : decode cX7_copy 147 = .ok (.iload 8, 2) := by decide +kernel
theorem dX7_copy_149 : decode cX7_copy 149 = .ok (.iload 5, 2) := by decide +kernel
theorem dX7_copy_151 : decode cX7_copy 151 = .ok (.if_icmp .ge 50, 3) := by decide +kernel
theorem dX7_copy_154 : decode cX7_copy 154 = .ok (.iload 6, 2) := by decide +kernel
theorem dX7_copy_156 : decode cX7_copy 156 = .ok (.iload 7, 2) := by decide +kernel
theorem dX7_copy_158 : decode cX7_copy 158 = .ok (.if_icmp .ge 13, 3) := by decide +kernel
theorem dX7_copy_161 : decode cX7_copy 161 = .ok (.iload 5, 2) := by decide +kernel
theorem dX7_copy_163 : decode cX7_copy 163 = .ok (.iconst 1, 1) := by decide +kernel
theorem dX7_copy_164 : decode cX7_copy 164 = .ok (.isub, 1) := by decide +kernel
theorem dX7_copy_165 : decode cX7_copy 165 = .ok (.iload 8, 2) := by decide +kernel
theorem dX7_copy_167 : decode cX7_copy 167 = .ok (.isub, 1) := by decide +kernel
theorem dX7_copy_168 : decode cX7_copy 168 = .ok (.goto 5, 3) := by decide +kernel
theorem dX7_copy_171 : decode cX7_copy 171 = .ok (.iload 8, 2) := by decide +kernel
theorem dX7_copy_173 : decode cX7_copy 173 = .ok (.istore 9, 2) := by decide +kernel
theorem dX7_copy_175 : decode cX7_copy 175 = .ok (.aload_n 0, 1) := by decide +kernel
theorem dX7_copy_176 : decode cX7_copy 176 = .ok (.getfield 43, 3) := by decide +kernel
theorem dX7_copy_179 : decode cX7_copy 179 = .ok (.iload 7, 2) := by decide +kernel
theorem dX7_copy_181 : decode cX7_copy 181 = .ok (.iload 9, 2) := by decide +kernel
theorem dX7_copy_183 : decode cX7_copy 183 = .ok (.iadd, 1) := by decide +kernel
theorem dX7_copy_184 : decode cX7_copy 184 = .ok (.aload_n 0, 1) := by decide +kernel
theorem dX7_copy_185 : decode cX7_copy 185 = .ok (.getfield 43, 3) := by decide +kernel
theorem dX7_copy_188 : decode cX7_copy 188 = .ok (.iload 6, 2) := by decide +kernel
theorem dX7_copy_190 : decode cX7_copy 190 = .ok (.iload 9, 2) := by decide +kernel
theorem dX7_copy_192 : decode cX7_copy 192 = .ok (.iadd, 1) := by decide +kernel
theorem dX7_copy_193 : decode cX7_copy 193 = .ok (.iaload, 1) := by decide +kernel
theorem dX7_copy_194 : decode cX7_copy 194 = .ok (.iastore, 1) := by decide +kernel
theorem dX7_copy_195 : decode cX7_copy 195 = .ok (.iinc 8 1, 3) := by decide +kernel
theorem dX7_copy_198 : decode cX7_copy 198 = .ok (.goto (-51), 3) := by decide +kernel
theorem dX7_copy_201 : decode cX7_copy 201 = .ok (.iload 5, 2) := by decide +kernel
theorem dX7_copy_203 : decode cX7_copy 203 = .ok (.ireturn, 1) := by decide +kernel
theorem dX7_hatsBy_0 : decode cX7_hatsBy 0 = .ok (.iload_n 1, 1) := by decide +kernel
theorem dX7_hatsBy_1 : decode cX7_hatsBy 1 = .ok (.iconst 0, 1) := by decide +kernel
theorem dX7_hatsBy_2 : decode cX7_hatsBy 2 = .ok (.iconst 3, 1) := by decide +kernel
theorem dX7_hatsBy_3 : decode cX7_hatsBy 3 = .ok (.invokestatic 75, 3) := by decide +kernel
theorem dX7_hatsBy_6 : decode cX7_hatsBy 6 = .ok (.ifCond .eq 23, 3) := by decide +kernel
theorem dX7_hatsBy_9 : decode cX7_hatsBy 9 = .ok (.iload_n 2, 1) := by decide +kernel
theorem dX7_hatsBy_10 : decode cX7_hatsBy 10 = .ok (.iconst 0, 1) := by decide +kernel
theorem dX7_hatsBy_11 : decode cX7_hatsBy 11 = .ok (.iconst 2, 1) := by decide +kernel
theorem dX7_hatsBy_12 : decode cX7_hatsBy 12 = .ok (.invokestatic 75, 3) := by decide +kernel
theorem dX7_hatsBy_15 : decode cX7_hatsBy 15 = .ok (.ifCond .eq 14, 3) := by decide +kernel
theorem dX7_hatsBy_18 : decode cX7_hatsBy 18 = .ok (.iload 4, 2) := by decide +kernel
theorem dX7_hatsBy_20 : decode cX7_hatsBy 20 = .ok (.iconst 0, 1) := by decide +kernel
theorem dX7_hatsBy_21 : decode cX7_hatsBy 21 = .ok (.bipush 6, 2) := by decide +kernel
theorem dX7_hatsBy_23 : decode cX7_hatsBy 23 = .ok (.invokestatic 75, 3) := by decide +kernel
theorem dX7_hatsBy_26 : decode cX7_hatsBy 26 = .ok (.ifCond .ne 6, 3) := by decide +kernel
theorem dX7_hatsBy_29 : decode cX7_hatsBy 29 = .ok (.bipush (-2), 2) := by decide +kernel
theorem dX7_hatsBy_31 : decode cX7_hatsBy 31 = .ok (.ireturn, 1) := by decide +kernel
theorem dX7_hatsBy_32 : decode cX7_hatsBy 32 = .ok (.aload_n 0, 1) := by decide +kernel
theorem dX7_hatsBy_33 : decode cX7_hatsBy 33 = .ok (.getfield 37, 3) := by decide +kernel
theorem dX7_hatsBy_36 : decode cX7_hatsBy 36 = .ok (.iload_n 1, 1) := by decide +kernel
theorem dX7_hatsBy_37 : decode cX7_hatsBy 37 = .ok (.iaload, 1) := by decide +kernel
theorem dX7_hatsBy_38 : decode cX7_hatsBy 38 = .ok (.iconst (-1), 1) := by decide +kernel
theorem dX7_hatsBy_39 : decode cX7_hatsBy 39 = .ok (.if_icmp .ne 6, 3) := by decide +kernel
theorem dX7_hatsBy_42 : decode cX7_hatsBy 42 = .ok (.bipush (-11), 2) := by decide +kernel
theorem dX7_hatsBy_44 : decode cX7_hatsBy 44 = .ok (.ireturn, 1) := by decide +kernel
theorem dX7_hatsBy_45 : decode cX7_hatsBy 45 = .ok (.aload_n 0, 1) := by decide +kernel
theorem dX7_hatsBy_46 : decode cX7_hatsBy 46 = .ok (.getfield 37, 3) := by decide +kernel
theorem dX7_hatsBy_49 : decode cX7_hatsBy 49 = .ok (.iload_n 1, 1) := by decide +kernel
theorem dX7_hatsBy_50 : decode cX7_hatsBy 50 = .ok (.iaload, 1) := by decide +kernel
theorem dX7_hatsBy_51 : decode cX7_hatsBy 51 = .ok (.iload_n 2, 1) := by decide +kernel
theorem dX7_hatsBy_52 : decode cX7_hatsBy 52 = .ok (.if_icmp .eq 6, 3) := by decide +kernel
theorem dX7_hatsBy_55 : decode cX7_hatsBy 55 = .ok (.bipush (-13), 2) := by decide +kernel
theorem dX7_hatsBy_57 : decode cX7_hatsBy 57 = .ok (.ireturn, 1) := by decide +kernel
theorem dX7_hatsBy_58 : decode cX7_hatsBy 58 = .ok (.iconst 0, 1) := by decide +kernel
theorem dX7_hatsBy_59 : decode cX7_hatsBy 59 = .ok (.istore 5, 2) := by decide +kernel
theorem dX7_hatsBy_61 : decode cX7_hatsBy 61 = .ok (.iconst 0, 1) := by decide +kernel
theorem dX7_hatsBy_62 : decode cX7_hatsBy 62 = .ok (.istore 6, 2) := by decide +kernel
theorem dX7_hatsBy_64 : decode cX7_hatsBy 64 = .ok (.iload 6, 2) := by decide +kernel
theorem dX7_hatsBy_66 : decode cX7_hatsBy 66 = .ok (.iload 4, 2) := by decide +kernel
theorem dX7_hatsBy_68 : decode cX7_hatsBy 68 = .ok (.if_icmp .ge 94, 3) := by decide +kernel
theorem dX7_hatsBy_71 : decode cX7_hatsBy 71 = .ok (.iload_n 3, 1) := by decide +kernel
theorem dX7_hatsBy_72 : decode cX7_hatsBy 72 = .ok (.iconst 3, 1) := by decide +kernel
theorem dX7_hatsBy_73 : decode cX7_hatsBy 73 = .ok (.iload 6, 2) := by decide +kernel
theorem dX7_hatsBy_75 : decode cX7_hatsBy 75 = .ok (.imul, 1) := by decide +kernel
theorem dX7_hatsBy_76 : decode cX7_hatsBy 76 = .ok (.iadd, 1) := by decide +kernel
theorem dX7_hatsBy_77 : decode cX7_hatsBy 77 = .ok (.istore 7, 2) := by decide +kernel
theorem dX7_hatsBy_79 : decode cX7_hatsBy 79 = .ok (.iload_n 3, 1) := by decide +kernel
theorem dX7_hatsBy_80 : decode cX7_hatsBy 80 = .ok (.ifCond .lt 22, 3) := by decide +kernel
theorem dX7_hatsBy_83 : decode cX7_hatsBy 83 = .ok (.iload 7, 2) := by decide +kernel
theorem dX7_hatsBy_85 : decode cX7_hatsBy 85 = .ok (.iload_n 3, 1) := by decide +kernel
theorem dX7_hatsBy_86 : decode cX7_hatsBy 86 = .ok (.if_icmp .lt 16, 3) := by decide +kernel
theorem dX7_hatsBy_89 : decode cX7_hatsBy 89 = .ok (.iload 7, 2) := by decide +kernel
theorem dX7_hatsBy_91 : decode cX7_hatsBy 91 = .ok (.aload_n 0, 1) := by decide +kernel
theorem dX7_hatsBy_92 : decode cX7_hatsBy 92 = .ok (.getfield 40, 3) := by decide +kernel
theorem dX7_hatsBy_95 : decode cX7_hatsBy 95 = .ok (.iload_n 1, 1) := by decide +kernel
theorem dX7_hatsBy_96 : decode cX7_hatsBy 96 = .ok (.iaload, 1) := by decide +kernel
theorem dX7_hatsBy_97 : decode cX7_hatsBy 97 = .ok (.iconst 3, 1) := by decide +kernel
theorem dX7_hatsBy_98 : decode cX7_hatsBy 98 = .ok (.isub, 1) := by decide +kernel
theorem dX7_hatsBy_99 : decode cX7_hatsBy 99 = .ok (.if_icmp .le 6, 3) := by decide +kernel
theorem dX7_hatsBy_102 : decode cX7_hatsBy 102 = .ok (.bipush (-12), 2) := by decide +kernel
theorem dX7_hatsBy_104 : decode cX7_hatsBy 104 = .ok (.ireturn, 1) := by decide +kernel
theorem dX7_hatsBy_105 : decode cX7_hatsBy 105 = .ok (.bipush 40, 2) := by decide +kernel
theorem dX7_hatsBy_107 : decode cX7_hatsBy 107 = .ok (.iload_n 1, 1) := by decide +kernel
theorem dX7_hatsBy_108 : decode cX7_hatsBy 108 = .ok (.imul, 1) := by decide +kernel
theorem dX7_hatsBy_109 : decode cX7_hatsBy 109 = .ok (.iload 7, 2) := by decide +kernel
theorem dX7_hatsBy_111 : decode cX7_hatsBy 111 = .ok (.iadd, 1) := by decide +kernel
theorem dX7_hatsBy_112 : decode cX7_hatsBy 112 = .ok (.istore 8, 2) := by decide +kernel
theorem dX7_hatsBy_114 : decode cX7_hatsBy 114 = .ok (.iload 5, 2) := by decide +kernel
theorem dX7_hatsBy_116 : decode cX7_hatsBy 116 = .ok (.aload_n 0, 1) := by decide +kernel
theorem dX7_hatsBy_117 : decode cX7_hatsBy 117 = .ok (.aload_n 0, 1) := by decide +kernel
theorem dX7_hatsBy_118 : decode cX7_hatsBy 118 = .ok (.getfield 43, 3) := by decide +kernel
theorem dX7_hatsBy_121 : decode cX7_hatsBy 121 = .ok (.iload 8, 2) := by decide +kernel
theorem dX7_hatsBy_123 : decode cX7_hatsBy 123 = .ok (.iaload, 1) := by decide +kernel
theorem dX7_hatsBy_124 : decode cX7_hatsBy 124 = .ok (.aload_n 0, 1) := by decide +kernel
theorem dX7_hatsBy_125 : decode cX7_hatsBy 125 = .ok (.getfield 43, 3) := by decide +kernel
theorem dX7_hatsBy_128 : decode cX7_hatsBy 128 = .ok (.iload 8, 2) := by decide +kernel
theorem dX7_hatsBy_130 : decode cX7_hatsBy 130 = .ok (.iconst 1, 1) := by decide +kernel
theorem dX7_hatsBy_131 : decode cX7_hatsBy 131 = .ok (.iadd, 1) := by decide +kernel
theorem dX7_hatsBy_132 : decode cX7_hatsBy 132 = .ok (.iaload, 1) := by decide +kernel
theorem dX7_hatsBy_133 : decode cX7_hatsBy 133 = .ok (.aload_n 0, 1) := by decide +kernel
theorem dX7_hatsBy_134 : decode cX7_hatsBy 134 = .ok (.getfield 43, 3) := by decide +kernel
theorem dX7_hatsBy_137 : decode cX7_hatsBy 137 = .ok (.iload 8, 2) := by decide +kernel
theorem dX7_hatsBy_139 : decode cX7_hatsBy 139 = .ok (.iconst 2, 1) := by decide +kernel
theorem dX7_hatsBy_140 : decode cX7_hatsBy 140 = .ok (.iadd, 1) := by decide +kernel
theorem dX7_hatsBy_141 : decode cX7_hatsBy 141 = .ok (.iaload, 1) := by decide +kernel
theorem dX7_hatsBy_142 : decode cX7_hatsBy 142 = .ok (.invokevirtual 255, 3) := by decide +kernel
theorem dX7_hatsBy_145 : decode cX7_hatsBy 145 = .ok (.ifCond .lt 7, 3) := by decide +kernel
theorem dX7_hatsBy_148 : decode cX7_hatsBy 148 = .ok (.iconst 1, 1) := by decide +kernel
theorem dX7_hatsBy_149 : decode cX7_hatsBy 149 = .ok (.goto 4, 3) := by decide +kernel
theorem dX7_hatsBy_152 : decode cX7_hatsBy 152 = .ok (.iconst 0, 1) := by decide +kernel
theorem dX7_hatsBy_153 : decode cX7_hatsBy 153 = .ok (.iadd, 1) := by decide +kernel
theorem dX7_hatsBy_154 : decode cX7_hatsBy 154 = .ok (.istore 5, 2) := by decide +kernel
theorem dX7_hatsBy_156 : decode cX7_hatsBy 156 = .ok (.iinc 6 1, 3) := by decide +kernel
theorem dX7_hatsBy_159 : decode cX7_hatsBy 159 = .ok (.goto (-95), 3) := by decide +kernel
theorem dX7_hatsBy_162 : decode cX7_hatsBy 162 = .ok (.iload 5, 2) := by decide +kernel
theorem dX7_hatsBy_164 : decode cX7_hatsBy 164 = .ok (.ireturn, 1) := by decide +kernel
theorem dX7_isUnder_0 : decode cX7_isUnder 0 = .ok (.iload_n 1, 1) := by decide +kernel
theorem dX7_isUnder_1 : decode cX7_isUnder 1 = .ok (.ifCond .eq 28, 3) := by decide +kernel
theorem dX7_isUnder_4 : decode cX7_isUnder 4 = .ok (.iload_n 0, 1) := by decide +kernel
theorem dX7_isUnder_5 : decode cX7_isUnder 5 = .ok (.iload_n 1, 1) := by decide +kernel
theorem dX7_isUnder_6 : decode cX7_isUnder 6 = .ok (.if_icmp .eq 23, 3) := by decide +kernel
theorem dX7_isUnder_9 : decode cX7_isUnder 9 = .ok (.iload_n 1, 1) := by decide +kernel
theorem dX7_isUnder_10 : decode cX7_isUnder 10 = .ok (.iconst 1, 1) := by decide +kernel
theorem dX7_isUnder_11 : decode cX7_isUnder 11 = .ok (.if_icmp .ne 8, 3) := by decide +kernel
theorem dX7_isUnder_14 : decode cX7_isUnder 14 = .ok (.iload_n 0, 1) := by decide +kernel
theorem dX7_isUnder_15 : decode cX7_isUnder 15 = .ok (.iconst 3, 1) := by decide +kernel
theorem dX7_isUnder_16 : decode cX7_isUnder 16 = .ok (.if_icmp .eq 13, 3) := by decide +kernel
theorem dX7_isUnder_19 : decode cX7_isUnder 19 = .ok (.iload_n 1, 1) := by decide +kernel
theorem dX7_isUnder_20 : decode cX7_isUnder 20 = .ok (.iconst 2, 1) := by decide +kernel
theorem dX7_isUnder_21 : decode cX7_isUnder 21 = .ok (.if_icmp .ne 12, 3) := by decide +kernel
theorem dX7_isUnder_24 : decode cX7_isUnder 24 = .ok (.iload_n 0, 1) := by decide +kernel
theorem dX7_isUnder_25 : decode cX7_isUnder 25 = .ok (.iconst 4, 1) := by decide +kernel
theorem dX7_isUnder_26 : decode cX7_isUnder 26 = .ok (.if_icmp .ne 7, 3) := by decide +kernel
theorem dX7_isUnder_29 : decode cX7_isUnder 29 = .ok (.iconst 1, 1) := by decide +kernel
theorem dX7_isUnder_30 : decode cX7_isUnder 30 = .ok (.goto 4, 3) := by decide +kernel
theorem dX7_isUnder_33 : decode cX7_isUnder 33 = .ok (.iconst 0, 1) := by decide +kernel
theorem dX7_isUnder_34 : decode cX7_isUnder 34 = .ok (.ireturn, 1) := by decide +kernel
theorem dX7_taken_0 : decode cX7_taken 0 = .ok (.iload_n 2, 1) := by decide +kernel
theorem dX7_taken_1 : decode cX7_taken 1 = .ok (.iconst 0, 1) := by decide +kernel
theorem dX7_taken_2 : decode cX7_taken 2 = .ok (.bipush 6, 2) := by decide +kernel
theorem dX7_taken_4 : decode cX7_taken 4 = .ok (.invokestatic 75, 3) := by decide +kernel
theorem dX7_taken_7 : decode cX7_taken 7 = .ok (.ifCond .ne 6, 3) := by decide +kernel
theorem dX7_taken_10 : decode cX7_taken 10 = .ok (.bipush (-2), 2) := by decide +kernel
theorem dX7_taken_12 : decode cX7_taken 12 = .ok (.ireturn, 1) := by decide +kernel
theorem dX7_taken_13 : decode cX7_taken 13 = .ok (.iload_n 1, 1) := by decide +kernel
theorem dX7_taken_14 : decode cX7_taken 14 = .ok (.iconst 0, 1) := by decide +kernel
theorem dX7_taken_15 : decode cX7_taken 15 = .ok (.bipush 11, 2) := by decide +kernel
theorem dX7_taken_17 : decode cX7_taken 17 = .ok (.invokestatic 75, 3) := by decide +kernel
theorem dX7_taken_20 : decode cX7_taken 20 = .ok (.ifCond .ne 6, 3) := by decide +kernel
theorem dX7_taken_23 : decode cX7_taken 23 = .ok (.bipush (-12), 2) := by decide +kernel
theorem dX7_taken_25 : decode cX7_taken 25 = .ok (.ireturn, 1) := by decide +kernel
theorem dX7_taken_26 : decode cX7_taken 26 = .ok (.iload_n 1, 1) := by decide +kernel
theorem dX7_taken_27 : decode cX7_taken 27 = .ok (.bipush 6, 2) := by decide +kernel
theorem dX7_taken_29 : decode cX7_taken 29 = .ok (.irem, 1) := by decide +kernel
theorem dX7_taken_30 : decode cX7_taken 30 = .ok (.aload_n 0, 1) := by decide +kernel
theorem dX7_taken_31 : decode cX7_taken 31 = .ok (.getfield 72, 3) := by decide +kernel
theorem dX7_taken_34 : decode cX7_taken 34 = .ok (.if_icmp .lt 6, 3) := by decide +kernel
theorem dX7_taken_37 : decode cX7_taken 37 = .ok (.bipush (-11), 2) := by decide +kernel
theorem dX7_taken_39 : decode cX7_taken 39 = .ok (.ireturn, 1) := by decide +kernel
theorem dX7_taken_40 : decode cX7_taken 40 = .ok (.iload_n 1, 1) := by decide +kernel
theorem dX7_taken_41 : decode cX7_taken 41 = .ok (.bipush 6, 2) := by decide +kernel
theorem dX7_taken_43 : decode cX7_taken 43 = .ok (.if_icmp .lt 28, 3) := by decide +kernel
theorem dX7_taken_46 : decode cX7_taken 46 = .ok (.iload_n 2, 1) := by decide +kernel
theorem dX7_taken_47 : decode cX7_taken 47 = .ok (.bipush 6, 2) := by decide +kernel
theorem dX7_taken_49 : decode cX7_taken 49 = .ok (.if_icmp .ne 19, 3) := by decide +kernel
theorem dX7_taken_52 : decode cX7_taken 52 = .ok (.aload_n 0, 1) := by decide +kernel
theorem dX7_taken_53 : decode cX7_taken 53 = .ok (.getfield 16, 3) := by decide +kernel
theorem dX7_taken_56 : decode cX7_taken 56 = .ok (.iconst 4, 1) := by decide +kernel
theorem dX7_taken_57 : decode cX7_taken 57 = .ok (.iload_n 1, 1) := by decide +kernel
theorem dX7_taken_58 : decode cX7_taken 58 = .ok (.bipush 6, 2) := by decide +kernel
theorem dX7_taken_60 : decode cX7_taken 60 = .ok (.isub, 1) := by decide +kernel
theorem dX7_taken_61 : decode cX7_taken 61 = .ok (.imul, 1) := by decide +kernel
theorem dX7_taken_62 : decode cX7_taken 62 = .ok (.iconst 1, 1) := by decide +kernel
theorem dX7_taken_63 : decode cX7_taken 63 = .ok (.iadd, 1) := by decide +kernel
theorem dX7_taken_64 : decode cX7_taken 64 = .ok (.iaload, 1) := by decide +kernel
theorem dX7_taken_65 : decode cX7_taken 65 = .ok (.goto 5, 3) := by decide +kernel
theorem dX7_taken_68 : decode cX7_taken 68 = .ok (.bipush (-13), 2) := by decide +kernel
theorem dX7_taken_70 : decode cX7_taken 70 = .ok (.ireturn, 1) := by decide +kernel
theorem dX7_taken_71 : decode cX7_taken 71 = .ok (.iload_n 2, 1) := by decide +kernel
theorem dX7_taken_72 : decode cX7_taken 72 = .ok (.bipush 6, 2) := by decide +kernel
theorem dX7_taken_74 : decode cX7_taken 74 = .ok (.if_icmp .ge 20, 3) := by decide +kernel
theorem dX7_taken_77 : decode cX7_taken 77 = .ok (.aload_n 0, 1) := by decide +kernel
theorem dX7_taken_78 : decode cX7_taken 78 = .ok (.getfield 7, 3) := by decide +kernel
theorem dX7_taken_81 : decode cX7_taken 81 = .ok (.iload_n 1, 1) := by decide +kernel
theorem dX7_taken_82 : decode cX7_taken 82 = .ok (.iaload, 1) := by decide +kernel
theorem dX7_taken_83 : decode cX7_taken 83 = .ok (.iload_n 2, 1) := by decide +kernel
theorem dX7_taken_84 : decode cX7_taken 84 = .ok (.invokestatic 258, 3) := by decide +kernel
theorem dX7_taken_87 : decode cX7_taken 87 = .ok (.ifCond .eq 7, 3) := by decide +kernel
theorem dX7_taken_90 : decode cX7_taken 90 = .ok (.iload_n 1, 1) := by decide +kernel
theorem dX7_taken_91 : decode cX7_taken 91 = .ok (.goto 5, 3) := by decide +kernel
theorem dX7_taken_94 : decode cX7_taken 94 = .ok (.bipush (-13), 2) := by decide +kernel
theorem dX7_taken_96 : decode cX7_taken 96 = .ok (.ireturn, 1) := by decide +kernel
