theorem dX0_isOne_0 : decode cX0_isOne 0 = .ok (.iload_n 0, 1) := by decide +kernel
theorem dX0_isOne_1 : decode cX0_isOne 1 = .ok (.istore_n 2, 1) := by decide +kernel
theorem dX0_isOne_2 : decode cX0_isOne 2 = .ok (.iconst 0, 1) := by decide +kernel
theorem dX0_isOne_3 : decode cX0_isOne 3 = .ok (.istore_n 3, 1) := by decide +kernel
theorem dX0_isOne_4 : decode cX0_isOne 4 = .ok (.iload_n 3, 1) := by decide +kernel
theorem dX0_isOne_5 : decode cX0_isOne 5 = .ok (.bipush 6, 2) := by decide +kernel
theorem dX0_isOne_7 : decode cX0_isOne 7 = .ok (.if_icmp .ge 29, 3) := by decide +kernel
theorem dX0_isOne_10 : decode cX0_isOne 10 = .ok (.iload_n 2, 1) := by decide +kernel
theorem dX0_isOne_11 : decode cX0_isOne 11 = .ok (.iload_n 1, 1) := by decide +kernel
theorem dX0_isOne_12 : decode cX0_isOne 12 = .ok (.if_icmp .eq 24, 3) := by decide +kernel
theorem dX0_isOne_15 : decode cX0_isOne 15 = .ok (.iload_n 2, 1) := by decide +kernel
theorem dX0_isOne_16 : decode cX0_isOne 16 = .ok (.iconst 0, 1) := by decide +kernel
theorem dX0_isOne_17 : decode cX0_isOne 17 = .ok (.iconst 5, 1) := by decide +kernel
theorem dX0_isOne_18 : decode cX0_isOne 18 = .ok (.invokestatic 9, 3) := by decide +kernel
theorem dX0_isOne_21 : decode cX0_isOne 21 = .ok (.ifCond .eq 15, 3) := by decide +kernel
theorem dX0_isOne_24 : decode cX0_isOne 24 = .ok (.getstatic 13, 3) := by decide +kernel
theorem dX0_isOne_27 : decode cX0_isOne 27 = .ok (.iload_n 2, 1) := by decide +kernel
theorem dX0_isOne_28 : decode cX0_isOne 28 = .ok (.iaload, 1) := by decide +kernel
theorem dX0_isOne_29 : decode cX0_isOne 29 = .ok (.istore_n 2, 1) := by decide +kernel
theorem dX0_isOne_30 : decode cX0_isOne 30 = .ok (.iinc 3 1, 3) := by decide +kernel
theorem dX0_isOne_33 : decode cX0_isOne 33 = .ok (.goto (-29), 3) := by decide +kernel
theorem dX0_isOne_36 : decode cX0_isOne 36 = .ok (.iload_n 2, 1) := by decide +kernel
theorem dX0_isOne_37 : decode cX0_isOne 37 = .ok (.iload_n 1, 1) := by decide +kernel
theorem dX0_isOne_38 : decode cX0_isOne 38 = .ok (.if_icmp .ne 7, 3) := by decide +kernel
theorem dX0_isOne_41 : decode cX0_isOne 41 = .ok (.iconst 1, 1) := by decide +kernel
theorem dX0_isOne_42 : decode cX0_isOne 42 = .ok (.goto 4, 3) := by decide +kernel
theorem dX0_isOne_45 : decode cX0_isOne 45 = .ok (.iconst 0, 1) := by decide +kernel
theorem dX0_isOne_46 : decode cX0_isOne 46 = .ok (.ireturn, 1) := by decide +kernel
theorem dX0_goes_0 : decode cX0_goes 0 = .ok (.iload_n 0, 1) := by decide +kernel
theorem dX0_goes_1 : decode cX0_goes 1 = .ok (.tableswitch 67 2 5 #[31, 50, 31, 65], 31) := by decide +kernel
theorem dX0_goes_32 : decode cX0_goes 32 = .ok (.iload_n 3, 1) := by decide +kernel
theorem dX0_goes_33 : decode cX0_goes 33 = .ok (.ifCond .ne 12, 3) := by decide +kernel
theorem dX0_goes_36 : decode cX0_goes 36 = .ok (.iload_n 2, 1) := by decide +kernel
theorem dX0_goes_37 : decode cX0_goes 37 = .ok (.iconst 3, 1) := by decide +kernel
theorem dX0_goes_38 : decode cX0_goes 38 = .ok (.irem, 1) := by decide +kernel
theorem dX0_goes_39 : decode cX0_goes 39 = .ok (.iload_n 1, 1) := by decide +kernel
theorem dX0_goes_40 : decode cX0_goes 40 = .ok (.iconst 3, 1) := by decide +kernel
theorem dX0_goes_41 : decode cX0_goes 41 = .ok (.irem, 1) := by decide +kernel
theorem dX0_goes_42 : decode cX0_goes 42 = .ok (.if_icmp .ne 7, 3) := by decide +kernel
theorem dX0_goes_45 : decode cX0_goes 45 = .ok (.iconst 1, 1) := by decide +kernel
theorem dX0_goes_46 : decode cX0_goes 46 = .ok (.goto 4, 3) := by decide +kernel
theorem dX0_goes_49 : decode cX0_goes 49 = .ok (.iconst 0, 1) := by decide +kernel
theorem dX0_goes_50 : decode cX0_goes 50 = .ok (.ireturn, 1) := by decide +kernel
theorem dX0_goes_51 : decode cX0_goes 51 = .ok (.iload_n 3, 1) := by decide +kernel
theorem dX0_goes_52 : decode cX0_goes 52 = .ok (.ifCond .eq 12, 3) := by decide +kernel
theorem dX0_goes_55 : decode cX0_goes 55 = .ok (.iload_n 2, 1) := by decide +kernel
theorem dX0_goes_56 : decode cX0_goes 56 = .ok (.iload_n 1, 1) := by decide +kernel
theorem dX0_goes_57 : decode cX0_goes 57 = .ok (.if_icmp .lt 7, 3) := by decide +kernel
theorem dX0_goes_60 : decode cX0_goes 60 = .ok (.iconst 1, 1) := by decide +kernel
theorem dX0_goes_61 : decode cX0_goes 61 = .ok (.goto 4, 3) := by decide +kernel
theorem dX0_goes_64 : decode cX0_goes 64 = .ok (.iconst 0, 1) := by decide +kernel
theorem dX0_goes_65 : decode cX0_goes 65 = .ok (.ireturn, 1) := by decide +kernel
theorem dX0_goes_66 : decode cX0_goes 66 = .ok (.iconst 0, 1) := by decide +kernel
theorem dX0_goes_67 : decode cX0_goes 67 = .ok (.ireturn, 1) := by decide +kernel
theorem dX0_goes_68 : decode cX0_goes 68 = .ok (.iload_n 3, 1) := by decide +kernel
theorem dX0_goes_69 : decode cX0_goes 69 = .ok (.ireturn, 1) := by decide +kernel
theorem dX0_hits_0 : decode cX0_hits 0 = .ok (.iload_n 2, 1) := by decide +kernel
theorem dX0_hits_1 : decode cX0_hits 1 = .ok (.iconst 1, 1) := by decide +kernel
theorem dX0_hits_2 : decode cX0_hits 2 = .ok (.if_icmp .ne 10, 3) := by decide +kernel
theorem dX0_hits_5 : decode cX0_hits 5 = .ok (.iconst 2, 1) := by decide +kernel
theorem dX0_hits_6 : decode cX0_hits 6 = .ok (.iload 4, 2) := by decide +kernel
theorem dX0_hits_8 : decode cX0_hits 8 = .ok (.imul, 1) := by decide +kernel
theorem dX0_hits_9 : decode cX0_hits 9 = .ok (.goto 5, 3) := by decide +kernel
theorem dX0_hits_12 : decode cX0_hits 12 = .ok (.iload 4, 2) := by decide +kernel
theorem dX0_hits_14 : decode cX0_hits 14 = .ok (.istore 5, 2) := by decide +kernel
theorem dX0_hits_16 : decode cX0_hits 16 = .ok (.iload_n 0, 1) := by decide +kernel
theorem dX0_hits_17 : decode cX0_hits 17 = .ok (.tableswitch 68 1 4 #[31, 36, 39, 54], 31) := by decide +kernel
theorem dX0_hits_48 : decode cX0_hits 48 = .ok (.iload 4, 2) := by decide +kernel
theorem dX0_hits_50 : decode cX0_hits 50 = .ok (.iload_n 1, 1) := by decide +kernel
theorem dX0_hits_51 : decode cX0_hits 51 = .ok (.iadd, 1) := by decide +kernel
theorem dX0_hits_52 : decode cX0_hits 52 = .ok (.ireturn, 1) := by decide +kernel
theorem dX0_hits_53 : decode cX0_hits 53 = .ok (.iload 5, 2) := by decide +kernel
theorem dX0_hits_55 : decode cX0_hits 55 = .ok (.ireturn, 1) := by decide +kernel
theorem dX0_hits_56 : decode cX0_hits 56 = .ok (.iload_n 3, 1) := by decide +kernel
theorem dX0_hits_57 : decode cX0_hits 57 = .ok (.iconst 2, 1) := by decide +kernel
theorem dX0_hits_58 : decode cX0_hits 58 = .ok (.irem, 1) := by decide +kernel
theorem dX0_hits_59 : decode cX0_hits 59 = .ok (.ifCond .ne 10, 3) := by decide +kernel
theorem dX0_hits_62 : decode cX0_hits 62 = .ok (.iload 4, 2) := by decide +kernel
theorem dX0_hits_64 : decode cX0_hits 64 = .ok (.iload_n 1, 1) := by decide +kernel
theorem dX0_hits_65 : decode cX0_hits 65 = .ok (.iadd, 1) := by decide +kernel
theorem dX0_hits_66 : decode cX0_hits 66 = .ok (.goto 4, 3) := by decide +kernel
theorem dX0_hits_69 : decode cX0_hits 69 = .ok (.iconst 1, 1) := by decide +kernel
theorem dX0_hits_70 : decode cX0_hits 70 = .ok (.ireturn, 1) := by decide +kernel
theorem dX0_hits_71 : decode cX0_hits 71 = .ok (.iload_n 2, 1) := by decide +kernel
theorem dX0_hits_72 : decode cX0_hits 72 = .ok (.iconst 5, 1) := by decide +kernel
theorem dX0_hits_73 : decode cX0_hits 73 = .ok (.if_icmp .ne 7, 3) := by decide +kernel
theorem dX0_hits_76 : decode cX0_hits 76 = .ok (.iconst 0, 1) := by decide +kernel
theorem dX0_hits_77 : decode cX0_hits 77 = .ok (.goto 7, 3) := by decide +kernel
theorem dX0_hits_80 : decode cX0_hits 80 = .ok (.iload 5, 2) := by decide +kernel
theorem dX0_hits_82 : decode cX0_hits 82 = .ok (.iconst 1, 1) := by decide +kernel
theorem dX0_hits_83 : decode cX0_hits 83 = .ok (.iadd, 1) := by decide +kernel
theorem dX0_hits_84 : decode cX0_hits 84 = .ok (.ireturn, 1) := by decide +kernel
theorem dX0_hits_85 : decode cX0_hits 85 = .ok (.iload 4, 2) := by decide +kernel
theorem dX0_hits_87 : decode cX0_hits 87 = .ok (.ireturn, 1) := by decide +kernel
theorem dX0_soft_0 : decode cX0_soft 0 = .ok (.iload_n 0, 1) := by decide +kernel
theorem dX0_soft_1 : decode cX0_soft 1 = .ok (.tableswitch 49 1 5 #[35, 49, 35, 39, 43], 35) := by decide +kernel
theorem dX0_soft_36 : decode cX0_soft 36 = .ok (.iload_n 2, 1) := by decide +kernel
theorem dX0_soft_37 : decode cX0_soft 37 = .ok (.iload_n 1, 1) := by decide +kernel
theorem dX0_soft_38 : decode cX0_soft 38 = .ok (.isub, 1) := by decide +kernel
theorem dX0_soft_39 : decode cX0_soft 39 = .ok (.ireturn, 1) := by decide +kernel
theorem dX0_soft_40 : decode cX0_soft 40 = .ok (.iload_n 2, 1) := by decide +kernel
theorem dX0_soft_41 : decode cX0_soft 41 = .ok (.iload_n 1, 1) := by decide +kernel
theorem dX0_soft_42 : decode cX0_soft 42 = .ok (.iadd, 1) := by decide +kernel
theorem dX0_soft_43 : decode cX0_soft 43 = .ok (.ireturn, 1) := by decide +kernel
theorem dX0_soft_44 : decode cX0_soft 44 = .ok (.iconst 3, 1) := by decide +kernel
theorem dX0_soft_45 : decode cX0_soft 45 = .ok (.iload_n 2, 1) := by decide +kernel
theorem dX0_soft_46 : decode cX0_soft 46 = .ok (.imul, 1) := by decide +kernel
theorem dX0_soft_47 : decode cX0_soft 47 = .ok (.iload_n 1, 1) := by decide +kernel
theorem dX0_soft_48 : decode cX0_soft 48 = .ok (.iadd, 1) := by decide +kernel
theorem dX0_soft_49 : decode cX0_soft 49 = .ok (.ireturn, 1) := by decide +kernel
theorem dX0_soft_50 : decode cX0_soft 50 = .ok (.iload_n 2, 1) := by decide +kernel
theorem dX0_soft_51 : decode cX0_soft 51 = .ok (.ireturn, 1) := by decide +kernel
theorem dX1_init_0 : decode cX1_init 0 = .ok (.aload_n 0, 1) := by decide +kernel
theorem dX1_init_1 : decode cX1_init 1 = .ok (.invokespecial 3, 3) := by decide +kernel
theorem dX1_init_4 : decode cX1_init 4 = .ok (.return_, 1) := by decide +kernel
theorem dX1_read_0 : decode cX1_read 0 = .ok (.aload_n 0, 1) := by decide +kernel
theorem dX1_read_1 : decode cX1_read 1 = .ok (.aload_n 1, 1) := by decide +kernel
theorem dX1_read_2 : decode cX1_read 2 = .ok (.putfield 9, 3) := by decide +kernel
theorem dX1_read_5 : decode cX1_read 5 = .ok (.aload_n 0, 1) := by decide +kernel
theorem dX1_read_6 : decode cX1_read 6 = .ok (.iload_n 2, 1) := by decide +kernel
theorem dX1_read_7 : decode cX1_read 7 = .ok (.aload_n 1, 1) := by decide +kernel
theorem dX1_read_8 : decode cX1_read 8 = .ok (.arraylength, 1) := by decide +kernel
theorem dX1_read_9 : decode cX1_read 9 = .ok (.invokestatic 15, 3) := by decide +kernel
theorem dX1_read_12 : decode cX1_read 12 = .ok (.putfield 21, 3) := by decide +kernel
theorem dX1_read_15 : decode cX1_read 15 = .ok (.aload_n 0, 1) := by decide +kernel
theorem dX1_read_16 : decode cX1_read 16 = .ok (.iconst 0, 1) := by decide +kernel
theorem dX1_read_17 : decode cX1_read 17 = .ok (.putfield 25, 3) := by decide +kernel
theorem dX1_read_20 : decode cX1_read 20 = .ok (.aload_n 0, 1) := by decide +kernel
theorem dX1_read_21 : decode cX1_read 21 = .ok (.iconst (-1), 1) := by decide +kernel
theorem dX1_read_22 : decode cX1_read 22 = .ok (.putfield 28, 3) := by decide +kernel
theorem dX1_read_25 : decode cX1_read 25 = .ok (.aload_n 0, 1) := by decide +kernel
theorem dX1_read_26 : decode cX1_read 26 = .ok (.aload_n 3, 1) := by decide +kernel
theorem dX1_read_27 : decode cX1_read 27 = .ok (.putfield 31, 3) := by decide +kernel
theorem dX1_read_30 : decode cX1_read 30 = .ok (.aload_n 0, 1) := by decide +kernel
theorem dX1_read_31 : decode cX1_read 31 = .ok (.getfield 31, 3) := by decide +kernel
theorem dX1_read_34 : decode cX1_read 34 = .ok (.invokevirtual 35, 3) := by decide +kernel
theorem dX1_read_37 : decode cX1_read 37 = .ok (.aload_n 0, 1) := by decide +kernel
theorem dX1_read_38 : decode cX1_read 38 = .ok (.invokevirtual 40, 3) := by decide +kernel
theorem dX1_read_41 : decode cX1_read 41 = .ok (.iconst 0, 1) := by decide +kernel
theorem dX1_read_42 : decode cX1_read 42 = .ok (.istore 4, 2) := by decide +kernel
theorem dX1_read_44 : decode cX1_read 44 = .ok (.iload 4, 2) := by decide +kernel
theorem dX1_read_46 : decode cX1_read 46 = .ok (.iconst 3, 1) := by decide +kernel
theorem dX1_read_47 : decode cX1_read 47 = .ok (.if_icmp .ge 56, 3) := by decide +kernel
theorem dX1_read_50 : decode cX1_read 50 = .ok (.aload_n 0, 1) := by decide +kernel
theorem dX1_read_51 : decode cX1_read 51 = .ok (.iload 4, 2) := by decide +kernel
theorem dX1_read_53 : decode cX1_read 53 = .ok (.ifCond .ne 8, 3) := by decide +kernel
theorem dX1_read_56 : decode cX1_read 56 = .ok (.bipush (-3), 2) := by decide +kernel
theorem dX1_read_58 : decode cX1_read 58 = .ok (.goto 16, 3) := by decide +kernel
theorem dX1_read_61 : decode cX1_read 61 = .ok (.iload 4, 2) := by decide +kernel
theorem dX1_read_63 : decode cX1_read 63 = .ok (.iconst 1, 1) := by decide +kernel
theorem dX1_read_64 : decode cX1_read 64 = .ok (.if_icmp .ne 8, 3) := by decide +kernel
theorem dX1_read_67 : decode cX1_read 67 = .ok (.bipush (-4), 2) := by decide +kernel
theorem dX1_read_69 : decode cX1_read 69 = .ok (.goto 5, 3) := by decide +kernel
theorem dX1_read_72 : decode cX1_read 72 = .ok (.bipush (-5), 2) := by decide +kernel
theorem dX1_read_74 : decode cX1_read 74 = .ok (.invokevirtual 45, 3) := by decide +kernel
theorem dX1_read_77 : decode cX1_read 77 = .ok (.aload_n 0, 1) := by decide +kernel
theorem dX1_read_78 : decode cX1_read 78 = .ok (.iconst 0, 1) := by decide +kernel
theorem dX1_read_79 : decode cX1_read 79 = .ok (.invokevirtual 49, 3) := by decide +kernel
theorem dX1_read_82 : decode cX1_read 82 = .ok (.aload_n 0, 1) := by decide +kernel
theorem dX1_read_83 : decode cX1_read 83 = .ok (.bipush (-17), 2) := by decide +kernel
theorem dX1_read_85 : decode cX1_read 85 = .ok (.invokevirtual 45, 3) := by decide +kernel
theorem dX1_read_88 : decode cX1_read 88 = .ok (.aload_n 0, 1) := by decide +kernel
theorem dX1_read_89 : decode cX1_read 89 = .ok (.getfield 31, 3) := by decide +kernel
theorem dX1_read_92 : decode cX1_read 92 = .ok (.iload 4, 2) := by decide +kernel
theorem dX1_read_94 : decode cX1_read 94 = .ok (.invokevirtual 52, 3) := by decide +kernel
theorem dX1_read_97 : decode cX1_read 97 = .ok (.iinc 4 1, 3) := by decide +kernel
theorem dX1_read_100 : decode cX1_read 100 = .ok (.goto (-56), 3) := by decide +kernel
theorem dX1_read_103 : decode cX1_read 103 = .ok (.aload_n 0, 1) := by decide +kernel
theorem dX1_read_104 : decode cX1_read 104 = .ok (.getfield 55, 3) := by decide +kernel
theorem dX1_read_107 : decode cX1_read 107 = .ok (.iconst (-1), 1) := by decide +kernel
theorem dX1_read_108 : decode cX1_read 108 = .ok (.if_icmp .eq 7, 3) := by decide +kernel
theorem dX1_read_111 : decode cX1_read 111 = .ok (.aload_n 0, 1) := by decide +kernel
theorem dX1_read_112 : decode cX1_read 112 = .ok (.invokevirtual 58, 3) := by decide +kernel
theorem dX1_read_115 : decode cX1_read 115 = .ok (.aload_n 0, 1) := by decide +kernel
theorem dX1_read_116 : decode cX1_read 116 = .ok (.getfield 28, 3) := by decide +kernel
theorem dX1_read_119 : decode cX1_read 119 = .ok (.ireturn, 1) := by decide +kernel
theorem dX1_readE_0 : decode cX1_readE 0 = .ok (.aload_n 0, 1) := by decide +kernel
theorem dX1_readE_1 : decode cX1_readE 1 = .ok (.iload_n 1, 1) := by decide +kernel
theorem dX1_readE_2 : decode cX1_readE 2 = .ok (.invokevirtual 61, 3) := by decide +kernel
theorem dX1_readE_5 : decode cX1_readE 5 = .ok (.iconst 0, 1) := by decide +kernel
theorem dX1_readE_6 : decode cX1_readE 6 = .ok (.istore_n 2, 1) := by decide +kernel
theorem dX1_readE_7 : decode cX1_readE 7 = .ok (.iload_n 2, 1) := by decide +kernel
theorem dX1_readE_8 : decode cX1_readE 8 = .ok (.sipush 160, 3) := by decide +kernel
theorem dX1_readE_11 : decode cX1_readE 11 = .ok (.if_icmp .ge 36, 3) := by decide +kernel
theorem dX1_readE_14 : decode cX1_readE 14 = .ok (.aload_n 0, 1) := by decide +kernel
theorem dX1_readE_15 : decode cX1_readE 15 = .ok (.getfield 55, 3) := by decide +kernel
theorem dX1_readE_18 : decode cX1_readE 18 = .ok (.bipush (-6), 2) := by decide +kernel
theorem dX1_readE_20 : decode cX1_readE 20 = .ok (.if_icmp .ne 27, 3) := by decide +kernel
theorem dX1_readE_23 : decode cX1_readE 23 = .ok (.aload_n 0, 1) := by decide +kernel
theorem dX1_readE_24 : decode cX1_readE 24 = .ok (.invokevirtual 40, 3) := by decide +kernel
theorem dX1_readE_27 : decode cX1_readE 27 = .ok (.aload_n 0, 1) := by decide +kernel
theorem dX1_readE_28 : decode cX1_readE 28 = .ok (.iload_n 1, 1) := by decide +kernel
theorem dX1_readE_29 : decode cX1_readE 29 = .ok (.invokevirtual 61, 3) := by decide +kernel
theorem dX1_readE_32 : decode cX1_readE 32 = .ok (.aload_n 0, 1) := by decide +kernel
theorem dX1_readE_33 : decode cX1_readE 33 = .ok (.getfield 31, 3) := by decide +kernel
theorem dX1_readE_36 : decode cX1_readE 36 = .ok (.bipush (-6), 2) := by decide +kernel
theorem dX1_readE_38 : decode cX1_readE 38 = .ok (.invokevirtual 64, 3) := by decide +kernel
theorem dX1_readE_41 : decode cX1_readE 41 = .ok (.iinc 2 1, 3) := by decide +kernel
theorem dX1_readE_44 : decode cX1_readE 44 = .ok (.goto (-37), 3) := by decide +kernel
theorem dX1_readE_47 : decode cX1_readE 47 = .ok (.return_, 1) := by decide +kernel
theorem dX1_readAnd_0 : decode cX1_readAnd 0 = .ok (.aload_n 0, 1) := by decide +kernel
theorem dX1_readAnd_1 : decode cX1_readAnd 1 = .ok (.iload_n 1, 1) := by decide +kernel
theorem dX1_readAnd_2 : decode cX1_readAnd 2 = .ok (.invokevirtual 67, 3) := by decide +kernel
theorem dX1_readAnd_5 : decode cX1_readAnd 5 = .ok (.iconst 0, 1) := by decide +kernel
theorem dX1_readAnd_6 : decode cX1_readAnd 6 = .ok (.istore_n 2, 1) := by decide +kernel
theorem dX1_readAnd_7 : decode cX1_readAnd 7 = .ok (.iload_n 2, 1) := by decide +kernel
theorem dX1_readAnd_8 : decode cX1_readAnd 8 = .ok (.sipush 160, 3) := by decide +kernel
theorem dX1_readAnd_11 : decode cX1_readAnd 11 = .ok (.if_icmp .ge 36, 3) := by decide +kernel
theorem dX1_readAnd_14 : decode cX1_readAnd 14 = .ok (.aload_n 0, 1) := by decide +kernel
theorem dX1_readAnd_15 : decode cX1_readAnd 15 = .ok (.getfield 55, 3) := by decide +kernel
theorem dX1_readAnd_18 : decode cX1_readAnd 18 = .ok (.bipush (-7), 2) := by decide +kernel
theorem dX1_readAnd_20 : decode cX1_readAnd 20 = .ok (.if_icmp .ne 27, 3) := by decide +kernel
theorem dX1_readAnd_23 : decode cX1_readAnd 23 = .ok (.aload_n 0, 1) := by decide +kernel
theorem dX1_readAnd_24 : decode cX1_readAnd 24 = .ok (.invokevirtual 40, 3) := by decide +kernel
theorem dX1_readAnd_27 : decode cX1_readAnd 27 = .ok (.aload_n 0, 1) := by decide +kernel
theorem dX1_readAnd_28 : decode cX1_readAnd 28 = .ok (.iload_n 1, 1) := by decide +kernel
theorem dX1_readAnd_29 : decode cX1_readAnd 29 = .ok (.invokevirtual 67, 3) := by decide +kernel
theorem dX1_readAnd_32 : decode cX1_readAnd 32 = .ok (.aload_n 0, 1) := by decide +kernel
theorem dX1_readAnd_33 : decode cX1_readAnd 33 = .ok (.getfield 31, 3) := by decide +kernel
theorem dX1_readAnd_36 : decode cX1_readAnd 36 = .ok (.bipush (-7), 2) := by decide +kernel
theorem dX1_readAnd_38 : decode cX1_readAnd 38 = .ok (.invokevirtual 64, 3) := by decide +kernel
theorem dX1_readAnd_41 : decode cX1_readAnd 41 = .ok (.iinc 2 1, 3) := by decide +kernel
theorem dX1_readAnd_44 : decode cX1_readAnd 44 = .ok (.goto (-37), 3) := by decide +kernel
theorem dX1_readAnd_47 : decode cX1_readAnd 47 = .ok (.return_, 1) := by decide +kernel
theorem dX1_readNot_0 : decode cX1_readNot 0 = .ok (.aload_n 0, 1) := by decide +kernel
theorem dX1_readNot_1 : decode cX1_readNot 1 = .ok (.getfield 55, 3) := by decide +kernel
theorem dX1_readNot_4 : decode cX1_readNot 4 = .ok (.bipush (-8), 2) := by decide +kernel
theorem dX1_readNot_6 : decode cX1_readNot 6 = .ok (.if_icmp .ne 29, 3) := by decide +kernel
theorem dX1_readNot_9 : decode cX1_readNot 9 = .ok (.iload_n 1, 1) := by decide +kernel
theorem dX1_readNot_10 : decode cX1_readNot 10 = .ok (.iconst 5, 1) := by decide +kernel
theorem dX1_readNot_11 : decode cX1_readNot 11 = .ok (.if_icmp .ge 24, 3) := by decide +kernel
theorem dX1_readNot_14 : decode cX1_readNot 14 = .ok (.aload_n 0, 1) := by decide +kernel
theorem dX1_readNot_15 : decode cX1_readNot 15 = .ok (.invokevirtual 40, 3) := by decide +kernel
theorem dX1_readNot_18 : decode cX1_readNot 18 = .ok (.aload_n 0, 1) := by decide +kernel
theorem dX1_readNot_19 : decode cX1_readNot 19 = .ok (.iload_n 1, 1) := by decide +kernel
theorem dX1_readNot_20 : decode cX1_readNot 20 = .ok (.iconst 1, 1) := by decide +kernel
theorem dX1_readNot_21 : decode cX1_readNot 21 = .ok (.iadd, 1) := by decide +kernel
theorem dX1_readNot_22 : decode cX1_readNot 22 = .ok (.invokevirtual 67, 3) := by decide +kernel
theorem dX1_readNot_25 : decode cX1_readNot 25 = .ok (.aload_n 0, 1) := by decide +kernel
theorem dX1_readNot_26 : decode cX1_readNot 26 = .ok (.getfield 31, 3) := by decide +kernel
theorem dX1_readNot_29 : decode cX1_readNot 29 = .ok (.bipush (-8), 2) := by decide +kernel
theorem dX1_readNot_31 : decode cX1_readNot 31 = .ok (.invokevirtual 64, 3) := by decide +kernel
theorem dX1_readNot_34 : decode cX1_readNot 34 = .ok (.return_, 1) := by decide +kernel
theorem dX1_readNot_35 : decode cX1_readNot 35 = .ok (.aload_n 0, 1) := by decide +kernel
theorem dX1_readNot_36 : decode cX1_readNot 36 = .ok (.iload_n 1, 1) := by decide +kernel
theorem dX1_readNot_37 : decode cX1_readNot 37 = .ok (.invokevirtual 70, 3) := by decide +kernel
theorem dX1_readNot_40 : decode cX1_readNot 40 = .ok (.aload_n 0, 1) := by decide +kernel
theorem dX1_readNot_41 : decode cX1_readNot 41 = .ok (.getfield 55, 3) := by decide +kernel
theorem dX1_readNot_44 : decode cX1_readNot 44 = .ok (.bipush (-21), 2) := by decide +kernel
theorem dX1_readNot_46 : decode cX1_readNot 46 = .ok (.if_icmp .eq 12, 3) := by decide +kernel
theorem dX1_readNot_49 : decode cX1_readNot 49 = .ok (.aload_n 0, 1) := by decide +kernel
theorem dX1_readNot_50 : decode cX1_readNot 50 = .ok (.getfield 55, 3) := by decide +kernel
theorem dX1_readNot_53 : decode cX1_readNot 53 = .ok (.bipush (-22), 2) := by decide +kernel
theorem dX1_readNot_55 : decode cX1_readNot 55 = .ok (.if_icmp .ne 25, 3) := by decide +kernel
theorem dX1_readNot_58 : decode cX1_readNot 58 = .ok (.aload_n 0, 1) := by decide +kernel
theorem dX1_readNot_59 : decode cX1_readNot 59 = .ok (.getfield 55, 3) := by decide +kernel
theorem dX1_readNot_62 : decode cX1_readNot 62 = .ok (.istore_n 2, 1) := by decide +kernel
theorem dX1_readNot_63 : decode cX1_readNot 63 = .ok (.aload_n 0, 1) := by decide +kernel
theorem dX1_readNot_64 : decode cX1_readNot 64 = .ok (.invokevirtual 40, 3) := by decide +kernel
theorem dX1_readNot_67 : decode cX1_readNot 67 = .ok (.aload_n 0, 1) := by decide +kernel
theorem dX1_readNot_68 : decode cX1_readNot 68 = .ok (.iload_n 1, 1) := by decide +kernel
theorem dX1_readNot_69 : decode cX1_readNot 69 = .ok (.invokevirtual 70, 3) := by decide +kernel
theorem dX1_readNot_72 : decode cX1_readNot 72 = .ok (.aload_n 0, 1) := by decide +kernel
theorem dX1_readNot_73 : decode cX1_readNot 73 = .ok (.getfield 31, 3) := by decide +kernel
theorem dX1_readNot_76 : decode cX1_readNot 76 = .ok (.iload_n 2, 1) := by decide +kernel
theorem dX1_readNot_77 : decode cX1_readNot 77 = .ok (.invokevirtual 64, 3) := by decide +kernel
theorem dX1_readNot_80 : decode cX1_readNot 80 = .ok (.return_, 1) := by decide +kernel
theorem dX1_readSum_0 : decode cX1_readSum 0 = .ok (.aload_n 0, 1) := by decide +kernel
theorem dX1_readSum_1 : decode cX1_readSum 1 = .ok (.iload_n 1, 1) := by decide +kernel
theorem dX1_readSum_2 : decode cX1_readSum 2 = .ok (.invokevirtual 73, 3) := by decide +kernel
theorem dX1_readSum_5 : decode cX1_readSum 5 = .ok (.iconst 0, 1) := by decide +kernel
theorem dX1_readSum_6 : decode cX1_readSum 6 = .ok (.istore_n 2, 1) := by decide +kernel
theorem dX1_readSum_7 : decode cX1_readSum 7 = .ok (.iload_n 2, 1) := by decide +kernel
theorem dX1_readSum_8 : decode cX1_readSum 8 = .ok (.sipush 160, 3) := by decide +kernel
theorem dX1_readSum_11 : decode cX1_readSum 11 = .ok (.if_icmp .ge 49, 3) := by decide +kernel
theorem dX1_readSum_14 : decode cX1_readSum 14 = .ok (.aload_n 0, 1) := by decide +kernel
theorem dX1_readSum_15 : decode cX1_readSum 15 = .ok (.getfield 55, 3) := by decide +kernel
theorem dX1_readSum_18 : decode cX1_readSum 18 = .ok (.bipush (-18), 2) := by decide +kernel
theorem dX1_readSum_20 : decode cX1_readSum 20 = .ok (.if_icmp .eq 12, 3) := by decide +kernel
theorem dX1_readSum_23 : decode cX1_readSum 23 = .ok (.aload_n 0, 1) := by decide +kernel
theorem dX1_readSum_24 : decode cX1_readSum 24 = .ok (.getfield 55, 3) := by decide +kernel
theorem dX1_readSum_27 : decode cX1_readSum 27 = .ok (.bipush (-19), 2) := by decide +kernel
theorem dX1_readSum_29 : decode cX1_readSum 29 = .ok (.if_icmp .ne 31, 3) := by decide +kernel
theorem dX1_readSum_32 : decode cX1_readSum 32 = .ok (.aload_n 0, 1) := by decide +kernel
theorem dX1_readSum_33 : decode cX1_readSum 33 = .ok (.getfield 55, 3) := by decide +kernel
theorem dX1_readSum_36 : decode cX1_readSum 36 = .ok (.istore_n 3, 1) := by decide +kernel
theorem dX1_readSum_37 : decode cX1_readSum 37 = .ok (.aload_n 0, 1) := by decide +kernel
theorem dX1_readSum_38 : decode cX1_readSum 38 = .ok (.invokevirtual 40, 3) := by decide +kernel
theorem dX1_readSum_41 : decode cX1_readSum 41 = .ok (.aload_n 0, 1) := by decide +kernel
theorem dX1_readSum_42 : decode cX1_readSum 42 = .ok (.iload_n 1, 1) := by decide +kernel
theorem dX1_readSum_43 : decode cX1_readSum 43 = .ok (.invokevirtual 73, 3) := by decide +kernel
theorem dX1_readSum_46 : decode cX1_readSum 46 = .ok (.aload_n 0, 1) := by decide +kernel
theorem dX1_readSum_47 : decode cX1_readSum 47 = .ok (.getfield 31, 3) := by decide +kernel
theorem dX1_readSum_50 : decode cX1_readSum 50 = .ok (.iload_n 3, 1) := by decide +kernel
theorem dX1_readSum_51 : decode cX1_readSum 51 = .ok (.invokevirtual 64, 3) := by decide +kernel
theorem dX1_readSum_54 : decode cX1_readSum 54 = .ok (.iinc 2 1, 3) := by decide +kernel
theorem dX1_readSum_57 : decode cX1_readSum 57 = .ok (.goto (-50), 3) := by decide +kernel
theorem dX1_readSum_60 : decode cX1_readSum 60 = .ok (.return_, 1) := by decide +kernel
theorem dX1_readTerm_0 : decode cX1_readTerm 0 = .ok (.aload_n 0, 1) := by decide +kernel
theorem dX1_readTerm_1 : decode cX1_readTerm 1 = .ok (.iload_n 1, 1) := by decide +kernel
theorem dX1_readTerm_2 : decode cX1_readTerm 2 = .ok (.invokevirtual 76, 3) := by decide +kernel
theorem dX1_readTerm_5 : decode cX1_readTerm 5 = .ok (.iconst 0, 1) := by decide +kernel
theorem dX1_readTerm_6 : decode cX1_readTerm 6 = .ok (.istore_n 2, 1) := by decide +kernel
theorem dX1_readTerm_7 : decode cX1_readTerm 7 = .ok (.iload_n 2, 1) := by decide +kernel
theorem dX1_readTerm_8 : decode cX1_readTerm 8 = .ok (.sipush 160, 3) := by decide +kernel
theorem dX1_readTerm_11 : decode cX1_readTerm 11 = .ok (.if_icmp .ge 36, 3) := by decide +kernel
theorem dX1_readTerm_14 : decode cX1_readTerm 14 = .ok (.aload_n 0, 1) := by decide +kernel
theorem dX1_readTerm_15 : decode cX1_readTerm 15 = .ok (.getfield 55, 3) := by decide +kernel
theorem dX1_readTerm_18 : decode cX1_readTerm 18 = .ok (.bipush (-20), 2) := by decide +kernel
theorem dX1_readTerm_20 : decode cX1_readTerm 20 = .ok (.if_icmp .ne 27, 3) := by decide +kernel
theorem dX1_readTerm_23 : decode cX1_readTerm 23 = .ok (.aload_n 0, 1) := by decide +kernel
theorem dX1_readTerm_24 : decode cX1_readTerm 24 = .ok (.invokevirtual 40, 3) := by decide +kernel
theorem dX1_readTerm_27 : decode cX1_readTerm 27 = .ok (.aload_n 0, 1) := by decide +kernel
theorem dX1_readTerm_28 : decode cX1_readTerm 28 = .ok (.iload_n 1, 1) := by decide +kernel
theorem dX1_readTerm_29 : decode cX1_readTerm 29 = .ok (.invokevirtual 76, 3) := by decide +kernel
theorem dX1_readTerm_32 : decode cX1_readTerm 32 = .ok (.aload_n 0, 1) := by decide +kernel
theorem dX1_readTerm_33 : decode cX1_readTerm 33 = .ok (.getfield 31, 3) := by decide +kernel
theorem dX1_readTerm_36 : decode cX1_readTerm 36 = .ok (.bipush (-20), 2) := by decide +kernel
theorem dX1_readTerm_38 : decode cX1_readTerm 38 = .ok (.invokevirtual 64, 3) := by decide +kernel
theorem dX1_readTerm_41 : decode cX1_readTerm 41 = .ok (.iinc 2 1, 3) := by decide +kernel
theorem dX1_readTerm_44 : decode cX1_readTerm 44 = .ok (.goto (-37), 3) := by decide +kernel
theorem dX1_readTerm_47 : decode cX1_readTerm 47 = .ok (.return_, 1) := by decide +kernel
theorem dX1_readOne_0 : decode cX1_readOne 0 = .ok (.aload_n 0, 1) := by decide +kernel
theorem dX1_readOne_1 : decode cX1_readOne 1 = .ok (.getfield 55, 3) := by decide +kernel
theorem dX1_readOne_4 : decode cX1_readOne 4 = .ok (.ifCond .ge 13, 3) := by decide +kernel
theorem dX1_readOne_7 : decode cX1_readOne 7 = .ok (.aload_n 0, 1) := by decide +kernel
theorem dX1_readOne_8 : decode cX1_readOne 8 = .ok (.getfield 55, 3) := by decide +kernel
theorem dX1_readOne_11 : decode cX1_readOne 11 = .ok (.invokestatic 79, 3) := by decide +kernel
theorem dX1_readOne_14 : decode cX1_readOne 14 = .ok (.ifCond .eq 21, 3) := by decide +kernel
theorem dX1_readOne_17 : decode cX1_readOne 17 = .ok (.aload_n 0, 1) := by decide +kernel
theorem dX1_readOne_18 : decode cX1_readOne 18 = .ok (.getfield 31, 3) := by decide +kernel
theorem dX1_readOne_21 : decode cX1_readOne 21 = .ok (.aload_n 0, 1) := by decide +kernel
theorem dX1_readOne_22 : decode cX1_readOne 22 = .ok (.getfield 55, 3) := by decide +kernel
theorem dX1_readOne_25 : decode cX1_readOne 25 = .ok (.invokevirtual 64, 3) := by decide +kernel
theorem dX1_readOne_28 : decode cX1_readOne 28 = .ok (.aload_n 0, 1) := by decide +kernel
theorem dX1_readOne_29 : decode cX1_readOne 29 = .ok (.invokevirtual 40, 3) := by decide +kernel
theorem dX1_readOne_32 : decode cX1_readOne 32 = .ok (.goto 78, 3) := by decide +kernel
theorem dX1_readOne_35 : decode cX1_readOne 35 = .ok (.aload_n 0, 1) := by decide +kernel
theorem dX1_readOne_36 : decode cX1_readOne 36 = .ok (.getfield 55, 3) := by decide +kernel
theorem dX1_readOne_39 : decode cX1_readOne 39 = .ok (.bipush (-19), 2) := by decide +kernel
theorem dX1_readOne_41 : decode cX1_readOne 41 = .ok (.if_icmp .ne 31, 3) := by decide +kernel
theorem dX1_readOne_44 : decode cX1_readOne 44 = .ok (.iload_n 1, 1) := by decide +kernel
theorem dX1_readOne_45 : decode cX1_readOne 45 = .ok (.iconst 5, 1) := by decide +kernel
theorem dX1_readOne_46 : decode cX1_readOne 46 = .ok (.if_icmp .ge 26, 3) := by decide +kernel
theorem dX1_readOne_49 : decode cX1_readOne 49 = .ok (.aload_n 0, 1) := by decide +kernel
theorem dX1_readOne_50 : decode cX1_readOne 50 = .ok (.invokevirtual 40, 3) := by decide +kernel
theorem dX1_readOne_53 : decode cX1_readOne 53 = .ok (.aload_n 0, 1) := by decide +kernel
theorem dX1_readOne_54 : decode cX1_readOne 54 = .ok (.iload_n 1, 1) := by decide +kernel
theorem dX1_readOne_55 : decode cX1_readOne 55 = .ok (.iconst 1, 1) := by decide +kernel
theorem dX1_readOne_56 : decode cX1_readOne 56 = .ok (.iadd, 1) := by decide +kernel
theorem dX1_readOne_57 : decode cX1_readOne 57 = .ok (.invokevirtual 76, 3) := by decide +kernel
theorem dX1_readOne_60 : decode cX1_readOne 60 = .ok (.aload_n 0, 1) := by decide +kernel
theorem dX1_readOne_61 : decode cX1_readOne 61 = .ok (.getfield 31, 3) := by decide +kernel
theorem dX1_readOne_64 : decode cX1_readOne 64 = .ok (.bipush (-23), 2) := by decide +kernel
theorem dX1_readOne_66 : decode cX1_readOne 66 = .ok (.invokevirtual 64, 3) := by decide +kernel
theorem dX1_readOne_69 : decode cX1_readOne 69 = .ok (.goto 41, 3) := by decide +kernel
theorem dX1_readOne_72 : decode cX1_readOne 72 = .ok (.aload_n 0, 1) := by decide +kernel
theorem dX1_readOne_73 : decode cX1_readOne 73 = .ok (.getfield 55, 3) := by decide +kernel
theorem dX1_readOne_76 : decode cX1_readOne 76 = .ok (.bipush (-15), 2) := by decide +kernel
theorem dX1_readOne_78 : decode cX1_readOne 78 = .ok (.if_icmp .ne 28, 3) := by decide +kernel
theorem dX1_readOne_81 : decode cX1_readOne 81 = .ok (.iload_n 1, 1) := by decide +kernel
theorem dX1_readOne_82 : decode cX1_readOne 82 = .ok (.iconst 5, 1) := by decide +kernel
theorem dX1_readOne_83 : decode cX1_readOne 83 = .ok (.if_icmp .ge 23, 3) := by decide +kernel
theorem dX1_readOne_86 : decode cX1_readOne 86 = .ok (.aload_n 0, 1) := by decide +kernel
theorem dX1_readOne_87 : decode cX1_readOne 87 = .ok (.invokevirtual 40, 3) := by decide +kernel
theorem dX1_readOne_90 : decode cX1_readOne 90 = .ok (.aload_n 0, 1) := by decide +kernel
theorem dX1_readOne_91 : decode cX1_readOne 91 = .ok (.iload_n 1, 1) := by decide +kernel
theorem dX1_readOne_92 : decode cX1_readOne 92 = .ok (.iconst 1, 1) := by decide +kernel
theorem dX1_readOne_93 : decode cX1_readOne 93 = .ok (.iadd, 1) := by decide +kernel
theorem dX1_readOne_94 : decode cX1_readOne 94 = .ok (.invokevirtual 49, 3) := by decide +kernel
theorem dX1_readOne_97 : decode cX1_readOne 97 = .ok (.aload_n 0, 1) := by decide +kernel
theorem dX1_readOne_98 : decode cX1_readOne 98 = .ok (.bipush (-16), 2) := by decide +kernel
theorem dX1_readOne_100 : decode cX1_readOne 100 = .ok (.invokevirtual 45, 3) := by decide +kernel
theorem dX1_readOne_103 : decode cX1_readOne 103 = .ok (.goto 7, 3) := by decide +kernel
theorem dX1_readOne_106 : decode cX1_readOne 106 = .ok (.aload_n 0, 1) := by decide +kernel
theorem dX1_readOne_107 : decode cX1_readOne 107 = .ok (.invokevirtual 58, 3) := by decide +kernel
theorem dX1_readOne_110 : decode cX1_readOne 110 = .ok (.return_, 1) := by decide +kernel
theorem dX1_expect_0 : decode cX1_expect 0 = .ok (.aload_n 0, 1) := by decide +kernel
theorem dX1_expect_1 : decode cX1_expect 1 = .ok (.getfield 55, 3) := by decide +kernel
theorem dX1_expect_4 : decode cX1_expect 4 = .ok (.iload_n 1, 1) := by decide +kernel
theorem dX1_expect_5 : decode cX1_expect 5 = .ok (.if_icmp .ne 10, 3) := by decide +kernel
theorem dX1_expect_8 : decode cX1_expect 8 = .ok (.aload_n 0, 1) := by decide +kernel
theorem dX1_expect_9 : decode cX1_expect 9 = .ok (.invokevirtual 40, 3) := by decide +kernel
theorem dX1_expect_12 : decode cX1_expect 12 = .ok (.goto 7, 3) := by decide +kernel
theorem dX1_expect_15 : decode cX1_expect 15 = .ok (.aload_n 0, 1) := by decide +kernel
theorem dX1_expect_16 : decode cX1_expect 16 = .ok (.invokevirtual 58, 3) := by decide +kernel
theorem dX1_expect_19 : decode cX1_expect 19 = .ok (.return_, 1) := by decide +kernel
theorem dX1_refuse_0 : decode cX1_refuse 0 = .ok (.aload_n 0, 1) := by decide +kernel
theorem dX1_refuse_1 : decode cX1_refuse 1 = .ok (.getfield 28, 3) := by decide +kernel
theorem dX1_refuse_4 : decode cX1_refuse 4 = .ok (.iconst (-1), 1) := by decide +kernel
theorem dX1_refuse_5 : decode cX1_refuse 5 = .ok (.if_icmp .ne 11, 3) := by decide +kernel
theorem dX1_refuse_8 : decode cX1_refuse 8 = .ok (.aload_n 0, 1) := by decide +kernel
theorem dX1_refuse_9 : decode cX1_refuse 9 = .ok (.aload_n 0, 1) := by decide +kernel
theorem dX1_refuse_10 : decode cX1_refuse 10 = .ok (.getfield 83, 3) := by decide +kernel
theorem dX1_refuse_13 : decode cX1_refuse 13 = .ok (.putfield 28, 3) := by decide +kernel
theorem dX1_refuse_16 : decode cX1_refuse 16 = .ok (.aload_n 0, 1) := by decide +kernel
theorem dX1_refuse_17 : decode cX1_refuse 17 = .ok (.bipush (-2), 2) := by decide +kernel
theorem dX1_refuse_19 : decode cX1_refuse 19 = .ok (.putfield 55, 3) := by decide +kernel
theorem dX1_refuse_22 : decode cX1_refuse 22 = .ok (.return_, 1) := by decide +kernel
theorem dX1_next_0 : decode cX1_next 0 = .ok (.aload_n 0, 1) := by decide +kernel
theorem dX1_next_1 : decode cX1_next 1 = .ok (.getfield 25, 3) := by decide +kernel
theorem dX1_next_4 : decode cX1_next 4 = .ok (.aload_n 0, 1) := by decide +kernel
theorem dX1_next_5 : decode cX1_next 5 = .ok (.getfield 21, 3) := by decide +kernel
theorem dX1_next_8 : decode cX1_next 8 = .ok (.if_icmp .ge 44, 3) := by decide +kernel
theorem dX1_next_11 : decode cX1_next 11 = .ok (.aload_n 0, 1) := by decide +kernel
theorem dX1_next_12 : decode cX1_next 12 = .ok (.getfield 9, 3) := by decide +kernel
theorem dX1_next_15 : decode cX1_next 15 = .ok (.aload_n 0, 1) := by decide +kernel
theorem dX1_next_16 : decode cX1_next 16 = .ok (.getfield 25, 3) := by decide +kernel
theorem dX1_next_19 : decode cX1_next 19 = .ok (.iaload, 1) := by decide +kernel
theorem dX1_next_20 : decode cX1_next 20 = .ok (.bipush 32, 2) := by decide +kernel
theorem dX1_next_22 : decode cX1_next 22 = .ok (.if_icmp .eq 17, 3) := by decide +kernel
theorem dX1_next_25 : decode cX1_next 25 = .ok (.aload_n 0, 1) := by decide +kernel
theorem dX1_next_26 : decode cX1_next 26 = .ok (.getfield 9, 3) := by decide +kernel
theorem dX1_next_29 : decode cX1_next 29 = .ok (.aload_n 0, 1) := by decide +kernel
theorem dX1_next_30 : decode cX1_next 30 = .ok (.getfield 25, 3) := by decide +kernel
theorem dX1_next_33 : decode cX1_next 33 = .ok (.iaload, 1) := by decide +kernel
theorem dX1_next_34 : decode cX1_next 34 = .ok (.bipush 10, 2) := by decide +kernel
theorem dX1_next_36 : decode cX1_next 36 = .ok (.if_icmp .ne 16, 3) := by decide +kernel
theorem dX1_next_39 : decode cX1_next 39 = .ok (.aload_n 0, 1) := by decide +kernel
theorem dX1_next_40 : decode cX1_next 40 = .ok (.dup, 1) := by decide +kernel
theorem dX1_next_41 : decode cX1_next 41 = .ok (.getfield 25, 3) := by decide +kernel
theorem dX1_next_44 : decode cX1_next 44 = .ok (.iconst 1, 1) := by decide +kernel
theorem dX1_next_45 : decode cX1_next 45 = .ok (.iadd, 1) := by decide +kernel
theorem dX1_next_46 : decode cX1_next 46 = .ok (.putfield 25, 3) := by decide +kernel
theorem dX1_next_49 : decode cX1_next 49 = .ok (.goto (-49), 3) := by decide +kernel
theorem dX1_next_52 : decode cX1_next 52 = .ok (.aload_n 0, 1) := by decide +kernel
theorem dX1_next_53 : decode cX1_next 53 = .ok (.aload_n 0, 1) := by decide +kernel
theorem dX1_next_54 : decode cX1_next 54 = .ok (.getfield 25, 3) := by decide +kernel
theorem dX1_next_57 : decode cX1_next 57 = .ok (.putfield 83, 3) := by decide +kernel
theorem dX1_next_60 : decode cX1_next 60 = .ok (.aload_n 0, 1) := by decide +kernel
theorem dX1_next_61 : decode cX1_next 61 = .ok (.getfield 25, 3) := by decide +kernel
theorem dX1_next_64 : decode cX1_next 64 = .ok (.aload_n 0, 1) := by decide +kernel
theorem dX1_next_65 : decode cX1_next 65 = .ok (.getfield 21, 3) := by decide +kernel
theorem dX1_next_68 : decode cX1_next 68 = .ok (.if_icmp .lt 11, 3) := by decide +kernel
theorem dX1_next_71 : decode cX1_next 71 = .ok (.aload_n 0, 1) := by decide +kernel
theorem dX1_next_72 : decode cX1_next 72 = .ok (.iconst (-1), 1) := by decide +kernel
theorem dX1_next_73 : decode cX1_next 73 = .ok (.putfield 55, 3) := by decide +kernel
theorem dX1_next_76 : decode cX1_next 76 = .ok (.goto 81, 3) := by decide +kernel
theorem dX1_next_79 : decode cX1_next 79 = .ok (.aload_n 0, 1) := by decide +kernel
theorem dX1_next_80 : decode cX1_next 80 = .ok (.getfield 9, 3) := by decide +kernel
theorem dX1_next_83 : decode cX1_next 83 = .ok (.aload_n 0, 1) := by decide +kernel
theorem dX1_next_84 : decode cX1_next 84 = .ok (.getfield 25, 3) := by decide +kernel
theorem dX1_next_87 : decode cX1_next 87 = .ok (.iaload, 1) := by decide +kernel
theorem dX1_next_88 : decode cX1_next 88 = .ok (.invokestatic 86, 3) := by decide +kernel
theorem dX1_next_91 : decode cX1_next 91 = .ok (.ifCond .eq 14, 3) := by decide +kernel
theorem dX1_next_94 : decode cX1_next 94 = .ok (.aload_n 0, 1) := by decide +kernel
theorem dX1_next_95 : decode cX1_next 95 = .ok (.aload_n 0, 1) := by decide +kernel
theorem dX1_next_96 : decode cX1_next 96 = .ok (.invokevirtual 89, 3) := by decide +kernel
theorem dX1_next_99 : decode cX1_next 99 = .ok (.putfield 55, 3) := by decide +kernel
theorem dX1_next_102 : decode cX1_next 102 = .ok (.goto 55, 3) := by decide +kernel
theorem dX1_next_105 : decode cX1_next 105 = .ok (.aload_n 0, 1) := by decide +kernel
theorem dX1_next_106 : decode cX1_next 106 = .ok (.getfield 9, 3) := by decide +kernel
theorem dX1_next_109 : decode cX1_next 109 = .ok (.aload_n 0, 1) := by decide +kernel
theorem dX1_next_110 : decode cX1_next 110 = .ok (.getfield 25, 3) := by decide +kernel
theorem dX1_next_113 : decode cX1_next 113 = .ok (.iaload, 1) := by decide +kernel
theorem dX1_next_114 : decode cX1_next 114 = .ok (.invokestatic 93, 3) := by decide +kernel
theorem dX1_next_117 : decode cX1_next 117 = .ok (.ifCond .eq 14, 3) := by decide +kernel
theorem dX1_next_120 : decode cX1_next 120 = .ok (.aload_n 0, 1) := by decide +kernel
theorem dX1_next_121 : decode cX1_next 121 = .ok (.aload_n 0, 1) := by decide +kernel
theorem dX1_next_122 : decode cX1_next 122 = .ok (.invokevirtual 96, 3) := by decide +kernel
theorem dX1_next_125 : decode cX1_next 125 = .ok (.putfield 55, 3) := by decide +kernel
theorem dX1_next_128 : decode cX1_next 128 = .ok (.goto 29, 3) := by decide +kernel
theorem dX1_next_131 : decode cX1_next 131 = .ok (.aload_n 0, 1) := by decide +kernel
theorem dX1_next_132 : decode cX1_next 132 = .ok (.aload_n 0, 1) := by decide +kernel
theorem dX1_next_133 : decode cX1_next 133 = .ok (.getfield 9, 3) := by decide +kernel
theorem dX1_next_136 : decode cX1_next 136 = .ok (.aload_n 0, 1) := by decide +kernel
theorem dX1_next_137 : decode cX1_next 137 = .ok (.getfield 25, 3) := by decide +kernel
theorem dX1_next_140 : decode cX1_next 140 = .ok (.iaload, 1) := by decide +kernel
theorem dX1_next_141 : decode cX1_next 141 = .ok (.invokestatic 99, 3) := by decide +kernel
theorem dX1_next_144 : decode cX1_next 144 = .ok (.putfield 55, 3) := by decide +kernel
theorem dX1_next_147 : decode cX1_next 147 = .ok (.aload_n 0, 1) := by decide +kernel
theorem dX1_next_148 : decode cX1_next 148 = .ok (.dup, 1) := by decide +kernel
theorem dX1_next_149 : decode cX1_next 149 = .ok (.getfield 25, 3) := by decide +kernel
theorem dX1_next_152 : decode cX1_next 152 = .ok (.iconst 1, 1) := by decide +kernel
theorem dX1_next_153 : decode cX1_next 153 = .ok (.iadd, 1) := by decide +kernel
theorem dX1_next_154 : decode cX1_next 154 = .ok (.putfield 25, 3) := by decide +kernel
theorem dX1_next_157 : decode cX1_next 157 = .ok (.return_, 1) := by decide +kernel
theorem dX1_nextNumber_0 : decode cX1_nextNumber 0 = .ok (.iconst 0, 1) := by decide +kernel
theorem dX1_nextNumber_1 : decode cX1_nextNumber 1 = .ok (.istore_n 1, 1) := by decide +kernel
theorem dX1_nextNumber_2 : decode cX1_nextNumber 2 = .ok (.aload_n 0, 1) := by decide +kernel
theorem dX1_nextNumber_3 : decode cX1_nextNumber 3 = .ok (.getfield 25, 3) := by decide +kernel
theorem dX1_nextNumber_6 : decode cX1_nextNumber 6 = .ok (.aload_n 0, 1) := by decide +kernel
theorem dX1_nextNumber_7 : decode cX1_nextNumber 7 = .ok (.getfield 21, 3) := by decide +kernel
theorem dX1_nextNumber_10 : decode cX1_nextNumber 10 = .ok (.if_icmp .ge 67, 3) := by decide +kernel
theorem dX1_nextNumber_13 : decode cX1_nextNumber 13 = .ok (.aload_n 0, 1) := by decide +kernel
theorem dX1_nextNumber_14 : decode cX1_nextNumber 14 = .ok (.getfield 9, 3) := by decide +kernel
theorem dX1_nextNumber_17 : decode cX1_nextNumber 17 = .ok (.aload_n 0, 1) := by decide +kernel
theorem dX1_nextNumber_18 : decode cX1_nextNumber 18 = .ok (.getfield 25, 3) := by decide +kernel
theorem dX1_nextNumber_21 : decode cX1_nextNumber 21 = .ok (.iaload, 1) := by decide +kernel
theorem dX1_nextNumber_22 : decode cX1_nextNumber 22 = .ok (.invokestatic 93, 3) := by decide +kernel
theorem dX1_nextNumber_25 : decode cX1_nextNumber 25 = .ok (.ifCond .eq 52, 3) := by decide +kernel
theorem dX1_nextNumber_28 : decode cX1_nextNumber 28 = .ok (.aload_n 0, 1) := by decide +kernel
theorem dX1_nextNumber_29 : decode cX1_nextNumber 29 = .ok (.getfield 25, 3) := by decide +kernel
theorem dX1_nextNumber_32 : decode cX1_nextNumber 32 = .ok (.aload_n 0, 1) := by decide +kernel
theorem dX1_nextNumber_33 : decode cX1_nextNumber 33 = .ok (.getfield 83, 3) := by decide +kernel
theorem dX1_nextNumber_36 : decode cX1_nextNumber 36 = .ok (.isub, 1) := by decide +kernel
theorem dX1_nextNumber_37 : decode cX1_nextNumber 37 = .ok (.iconst 4, 1) := by decide +kernel
theorem dX1_nextNumber_38 : decode cX1_nextNumber 38 = .ok (.if_icmp .ge 23, 3) := by decide +kernel
theorem dX1_nextNumber_41 : decode cX1_nextNumber 41 = .ok (.iload_n 1, 1) := by decide +kernel
theorem dX1_nextNumber_42 : decode cX1_nextNumber 42 = .ok (.bipush 10, 2) := by decide +kernel
theorem dX1_nextNumber_44 : decode cX1_nextNumber 44 = .ok (.imul, 1) := by decide +kernel
theorem dX1_nextNumber_45 : decode cX1_nextNumber 45 = .ok (.aload_n 0, 1) := by decide +kernel
theorem dX1_nextNumber_46 : decode cX1_nextNumber 46 = .ok (.getfield 9, 3) := by decide +kernel
theorem dX1_nextNumber_49 : decode cX1_nextNumber 49 = .ok (.aload_n 0, 1) := by decide +kernel
theorem dX1_nextNumber_50 : decode cX1_nextNumber 50 = .ok (.getfield 25, 3) := by decide +kernel
theorem dX1_nextNumber_53 : decode cX1_nextNumber 53 = .ok (.iaload, 1) := by decide +kernel
theorem dX1_nextNumber_54 : decode cX1_nextNumber 54 = .ok (.iadd, 1) := by decide +kernel
theorem dX1_nextNumber_55 : decode cX1_nextNumber 55 = .ok (.bipush 48, 2) := by decide +kernel
theorem dX1_nextNumber_57 : decode cX1_nextNumber 57 = .ok (.isub, 1) := by decide +kernel
theorem dX1_nextNumber_58 : decode cX1_nextNumber 58 = .ok (.goto 5, 3) := by decide +kernel
theorem dX1_nextNumber_61 : decode cX1_nextNumber 61 = .ok (.bipush (-2), 2) := by decide +kernel
theorem dX1_nextNumber_63 : decode cX1_nextNumber 63 = .ok (.istore_n 1, 1) := by decide +kernel
theorem dX1_nextNumber_64 : decode cX1_nextNumber 64 = .ok (.aload_n 0, 1) := by decide +kernel
theorem dX1_nextNumber_65 : decode cX1_nextNumber 65 = .ok (.dup, 1) := by decide +kernel
theorem dX1_nextNumber_66 : decode cX1_nextNumber 66 = .ok (.getfield 25, 3) := by decide +kernel
theorem dX1_nextNumber_69 : decode cX1_nextNumber 69 = .ok (.iconst 1, 1) := by decide +kernel
theorem dX1_nextNumber_70 : decode cX1_nextNumber 70 = .ok (.iadd, 1) := by decide +kernel
theorem dX1_nextNumber_71 : decode cX1_nextNumber 71 = .ok (.putfield 25, 3) := by decide +kernel
theorem dX1_nextNumber_74 : decode cX1_nextNumber 74 = .ok (.goto (-72), 3) := by decide +kernel
theorem dX1_nextNumber_77 : decode cX1_nextNumber 77 = .ok (.iload_n 1, 1) := by decide +kernel
theorem dX1_nextNumber_78 : decode cX1_nextNumber 78 = .ok (.ireturn, 1) := by decide +kernel
theorem dX1_nextWord_0 : decode cX1_nextWord 0 = .ok (.aload_n 0, 1) := by decide +kernel
theorem dX1_nextWord_1 : decode cX1_nextWord 1 = .ok (.getfield 25, 3) := by decide +kernel
theorem dX1_nextWord_4 : decode cX1_nextWord 4 = .ok (.aload_n 0, 1) := by decide +kernel
theorem dX1_nextWord_5 : decode cX1_nextWord 5 = .ok (.getfield 21, 3) := by decide +kernel
theorem dX1_nextWord_8 : decode cX1_nextWord 8 = .ok (.if_icmp .ge 31, 3) := by decide +kernel
theorem dX1_nextWord_11 : decode cX1_nextWord 11 = .ok (.aload_n 0, 1) := by decide +kernel
theorem dX1_nextWord_12 : decode cX1_nextWord 12 = .ok (.getfield 9, 3) := by decide +kernel
theorem dX1_nextWord_15 : decode cX1_nextWord 15 = .ok (.aload_n 0, 1) := by decide +kernel
theorem dX1_nextWord_16 : decode cX1_nextWord 16 = .ok (.getfield 25, 3) := by decide +kernel
theorem dX1_nextWord_19 : decode cX1_nextWord 19 = .ok (.iaload, 1) := by decide +kernel
theorem dX1_nextWord_20 : decode cX1_nextWord 20 = .ok (.invokestatic 86, 3) := by decide +kernel
theorem dX1_nextWord_23 : decode cX1_nextWord 23 = .ok (.ifCond .eq 16, 3) := by decide +kernel
theorem dX1_nextWord_26 : decode cX1_nextWord 26 = .ok (.aload_n 0, 1) := by decide +kernel
theorem dX1_nextWord_27 : decode cX1_nextWord 27 = .ok (.dup, 1) := by decide +kernel
theorem dX1_nextWord_28 : decode cX1_nextWord 28 = .ok (.getfield 25, 3) := by decide +kernel
theorem dX1_nextWord_31 : decode cX1_nextWord 31 = .ok (.iconst 1, 1) := by decide +kernel
theorem dX1_nextWord_32 : decode cX1_nextWord 32 = .ok (.iadd, 1) := by decide +kernel
theorem dX1_nextWord_33 : decode cX1_nextWord 33 = .ok (.putfield 25, 3) := by decide +kernel
theorem dX1_nextWord_36 : decode cX1_nextWord 36 = .ok (.goto (-36), 3) := by decide +kernel
theorem dX1_nextWord_39 : decode cX1_nextWord 39 = .ok (.aload_n 0, 1) := by decide +kernel
theorem dX1_nextWord_40 : decode cX1_nextWord 40 = .ok (.ldc 103, 2) := by decide +kernel
theorem dX1_nextWord_42 : decode cX1_nextWord 42 = .ok (.invokevirtual 105, 3) := by decide +kernel
theorem dX1_nextWord_45 : decode cX1_nextWord 45 = .ok (.ifCond .eq 8, 3) := by decide +kernel
theorem dX1_nextWord_48 : decode cX1_nextWord 48 = .ok (.bipush (-3), 2) := by decide +kernel
theorem dX1_nextWord_50 : decode cX1_nextWord 50 = .ok (.goto 159, 3) := by decide +kernel
theorem dX1_nextWord_53 : decode cX1_nextWord 53 = .ok (.aload_n 0, 1) := by decide +kernel
theorem dX1_nextWord_54 : decode cX1_nextWord 54 = .ok (.ldc 109, 2) := by decide +kernel
theorem dX1_nextWord_56 : decode cX1_nextWord 56 = .ok (.invokevirtual 105, 3) := by decide +kernel
theorem dX1_nextWord_59 : decode cX1_nextWord 59 = .ok (.ifCond .eq 8, 3) := by decide +kernel
theorem dX1_nextWord_62 : decode cX1_nextWord 62 = .ok (.bipush (-4), 2) := by decide +kernel
theorem dX1_nextWord_64 : decode cX1_nextWord 64 = .ok (.goto 145, 3) := by decide +kernel
theorem dX1_nextWord_67 : decode cX1_nextWord 67 = .ok (.aload_n 0, 1) := by decide +kernel
theorem dX1_nextWord_68 : decode cX1_nextWord 68 = .ok (.ldc 111, 2) := by decide +kernel
theorem dX1_nextWord_70 : decode cX1_nextWord 70 = .ok (.invokevirtual 105, 3) := by decide +kernel
theorem dX1_nextWord_73 : decode cX1_nextWord 73 = .ok (.ifCond .eq 8, 3) := by decide +kernel
theorem dX1_nextWord_76 : decode cX1_nextWord 76 = .ok (.bipush (-5), 2) := by decide +kernel
theorem dX1_nextWord_78 : decode cX1_nextWord 78 = .ok (.goto 131, 3) := by decide +kernel
theorem dX1_nextWord_81 : decode cX1_nextWord 81 = .ok (.aload_n 0, 1) := by decide +kernel
theorem dX1_nextWord_82 : decode cX1_nextWord 82 = .ok (.ldc 113, 2) := by decide +kernel
theorem dX1_nextWord_84 : decode cX1_nextWord 84 = .ok (.invokevirtual 105, 3) := by decide +kernel
theorem dX1_nextWord_87 : decode cX1_nextWord 87 = .ok (.ifCond .eq 8, 3) := by decide +kernel
theorem dX1_nextWord_90 : decode cX1_nextWord 90 = .ok (.bipush (-6), 2) := by decide +kernel
theorem dX1_nextWord_92 : decode cX1_nextWord 92 = .ok (.goto 117, 3) := by decide +kernel
theorem dX1_nextWord_95 : decode cX1_nextWord 95 = .ok (.aload_n 0, 1) := by decide +kernel
theorem dX1_nextWord_96 : decode cX1_nextWord 96 = .ok (.ldc 115, 2) := by decide +kernel
theorem dX1_nextWord_98 : decode cX1_nextWord 98 = .ok (.invokevirtual 105, 3) := by decide +kernel
theorem dX1_nextWord_101 : decode cX1_nextWord 101 = .ok (.ifCond .eq 8, 3) := by decide +kernel
theorem dX1_nextWord_104 : decode cX1_nextWord 104 = .ok (.bipush (-7), 2) := by decide +kernel
theorem dX1_nextWord_106 : decode cX1_nextWord 106 = .ok (.goto 103, 3) := by decide +kernel
theorem dX1_nextWord_109 : decode cX1_nextWord 109 = .ok (.aload_n 0, 1) := by decide +kernel
theorem dX1_nextWord_110 : decode cX1_nextWord 110 = .ok (.ldc 117, 2) := by decide +kernel
theorem dX1_nextWord_112 : decode cX1_nextWord 112 = .ok (.invokevirtual 105, 3) := by decide +kernel
theorem dX1_nextWord_115 : decode cX1_nextWord 115 = .ok (.ifCond .eq 8, 3) := by decide +kernel
theorem dX1_nextWord_118 : decode cX1_nextWord 118 = .ok (.bipush (-8), 2) := by decide +kernel
theorem dX1_nextWord_120 : decode cX1_nextWord 120 = .ok (.goto 89, 3) := by decide +kernel
theorem dX1_nextWord_123 : decode cX1_nextWord 123 = .ok (.aload_n 0, 1) := by decide +kernel
theorem dX1_nextWord_124 : decode cX1_nextWord 124 = .ok (.ldc 119, 2) := by decide +kernel
theorem dX1_nextWord_126 : decode cX1_nextWord 126 = .ok (.invokevirtual 105, 3) := by decide +kernel
theorem dX1_nextWord_129 : decode cX1_nextWord 129 = .ok (.ifCond .eq 8, 3) := by decide +kernel
theorem dX1_nextWord_132 : decode cX1_nextWord 132 = .ok (.bipush (-9), 2) := by decide +kernel
theorem dX1_nextWord_134 : decode cX1_nextWord 134 = .ok (.goto 75, 3) := by decide +kernel
theorem dX1_nextWord_137 : decode cX1_nextWord 137 = .ok (.aload_n 0, 1) := by decide +kernel
theorem dX1_nextWord_138 : decode cX1_nextWord 138 = .ok (.ldc 121, 2) := by decide +kernel
theorem dX1_nextWord_140 : decode cX1_nextWord 140 = .ok (.invokevirtual 105, 3) := by decide +kernel
theorem dX1_nextWord_143 : decode cX1_nextWord 143 = .ok (.ifCond .eq 8, 3) := by decide +kernel
theorem dX1_nextWord_146 : decode cX1_nextWord 146 = .ok (.bipush (-10), 2) := by decide +kernel
theorem dX1_nextWord_148 : decode cX1_nextWord 148 = .ok (.goto 61, 3) := by decide +kernel
theorem dX1_nextWord_151 : decode cX1_nextWord 151 = .ok (.aload_n 0, 1) := by decide +kernel
theorem dX1_nextWord_152 : decode cX1_nextWord 152 = .ok (.ldc 123, 2) := by decide +kernel
theorem dX1_nextWord_154 : decode cX1_nextWord 154 = .ok (.invokevirtual 105, 3) := by decide +kernel
theorem dX1_nextWord_157 : decode cX1_nextWord 157 = .ok (.ifCond .eq 8, 3) := by decide +kernel
theorem dX1_nextWord_160 : decode cX1_nextWord 160 = .ok (.bipush (-11), 2) := by decide +kernel
theorem dX1_nextWord_162 : decode cX1_nextWord 162 = .ok (.goto 47, 3) := by decide +kernel
theorem dX1_nextWord_165 : decode cX1_nextWord 165 = .ok (.aload_n 0, 1) := by decide +kernel
theorem dX1_nextWord_166 : decode cX1_nextWord 166 = .ok (.ldc 125, 2) := by decide +kernel
theorem dX1_nextWord_168 : decode cX1_nextWord 168 = .ok (.invokevirtual 105, 3) := by decide +kernel
theorem dX1_nextWord_171 : decode cX1_nextWord 171 = .ok (.ifCond .eq 8, 3) := by decide +kernel
theorem dX1_nextWord_174 : decode cX1_nextWord 174 = .ok (.bipush (-12), 2) := by decide +kernel
theorem dX1_nextWord_176 : decode cX1_nextWord 176 = .ok (.goto 33, 3) := by decide +kernel
theorem dX1_nextWord_179 : decode cX1_nextWord 179 = .ok (.aload_n 0, 1) := by decide +kernel
theorem dX1_nextWord_180 : decode cX1_nextWord 180 = .ok (.ldc 127, 2) := by decide +kernel
theorem dX1_nextWord_182 : decode cX1_nextWord 182 = .ok (.invokevirtual 105, 3) := by decide +kernel
theorem dX1_nextWord_185 : decode cX1_nextWord 185 = .ok (.ifCond .eq 8, 3) := by decide +kernel
theorem dX1_nextWord_188 : decode cX1_nextWord 188 = .ok (.bipush (-13), 2) := by decide +kernel
theorem dX1_nextWord_190 : decode cX1_nextWord 190 = .ok (.goto 19, 3) := by decide +kernel
theorem dX1_nextWord_193 : decode cX1_nextWord 193 = .ok (.aload_n 0, 1) := by decide +kernel
theorem dX1_nextWord_194 : decode cX1_nextWord 194 = .ok (.ldc 129, 2) := by decide +kernel
theorem dX1_nextWord_196 : decode cX1_nextWord 196 = .ok (.invokevirtual 105, 3) := by decide +kernel
theorem dX1_nextWord_199 : decode cX1_nextWord 199 = .ok (.ifCond .eq 8, 3) := by decide +kernel
theorem dX1_nextWord_202 : decode cX1_nextWord 202 = .ok (.bipush (-14), 2) := by decide +kernel
theorem dX1_nextWord_204 : decode cX1_nextWord 204 = .ok (.goto 5, 3) := by decide +kernel
theorem dX1_nextWord_207 : decode cX1_nextWord 207 = .ok (.bipush (-2), 2) := by decide +kernel
theorem dX1_nextWord_209 : decode cX1_nextWord 209 = .ok (.ireturn, 1) := by decide +kernel
theorem dX1_spells_0 : decode cX1_spells 0 = .ok (.aload_n 0, 1) := by decide +kernel
theorem dX1_spells_1 : decode cX1_spells 1 = .ok (.getfield 25, 3) := by decide +kernel
theorem dX1_spells_4 : decode cX1_spells 4 = .ok (.aload_n 0, 1) := by decide +kernel
theorem dX1_spells_5 : decode cX1_spells 5 = .ok (.getfield 83, 3) := by decide +kernel
theorem dX1_spells_8 : decode cX1_spells 8 = .ok (.isub, 1) := by decide +kernel
theorem dX1_spells_9 : decode cX1_spells 9 = .ok (.aload_n 1, 1) := by decide +kernel
theorem dX1_spells_10 : decode cX1_spells 10 = .ok (.invokevirtual 131, 3) := by decide +kernel
theorem dX1_spells_13 : decode cX1_spells 13 = .ok (.if_icmp .eq 5, 3) := by decide +kernel
theorem dX1_spells_16 : decode cX1_spells 16 = .ok (.iconst 0, 1) := by decide +kernel
theorem dX1_spells_17 : decode cX1_spells 17 = .ok (.ireturn, 1) := by decide +kernel
theorem dX1_spells_18 : decode cX1_spells 18 = .ok (.iconst 0, 1) := by decide +kernel
theorem dX1_spells_19 : decode cX1_spells 19 = .ok (.istore_n 2, 1) := by decide +kernel
theorem dX1_spells_20 : decode cX1_spells 20 = .ok (.iload_n 2, 1) := by decide +kernel
theorem dX1_spells_21 : decode cX1_spells 21 = .ok (.aload_n 1, 1) := by decide +kernel
theorem dX1_spells_22 : decode cX1_spells 22 = .ok (.invokevirtual 131, 3) := by decide +kernel
theorem dX1_spells_25 : decode cX1_spells 25 = .ok (.if_icmp .ge 30, 3) := by decide +kernel
theorem dX1_spells_28 : decode cX1_spells 28 = .ok (.aload_n 0, 1) := by decide +kernel
theorem dX1_spells_29 : decode cX1_spells 29 = .ok (.getfield 9, 3) := by decide +kernel
theorem dX1_spells_32 : decode cX1_spells 32 = .ok (.aload_n 0, 1) := by decide +kernel
theorem dX1_spells_33 : decode cX1_spells 33 = .ok (.getfield 83, 3) := by decide +kernel
theorem dX1_spells_36 : decode cX1_spells 36 = .ok (.iload_n 2, 1) := by decide +kernel
theorem dX1_spells_37 : decode cX1_spells 37 = .ok (.iadd, 1) := by decide +kernel
theorem dX1_spells_38 : decode cX1_spells 38 = .ok (.iaload, 1) := by decide +kernel
theorem dX1_spells_39 : decode cX1_spells 39 = .ok (.aload_n 1, 1) := by decide +kernel
theorem dX1_spells_40 : decode cX1_spells 40 = .ok (.iload_n 2, 1) := by decide +kernel
theorem dX1_spells_41 : decode cX1_spells 41 = .ok (.invokevirtual 136, 3) := by decide +kernel
theorem dX1_spells_44 : decode cX1_spells 44 = .ok (.if_icmp .eq 5, 3) := by decide +kernel
theorem dX1_spells_47 : decode cX1_spells 47 = .ok (.iconst 0, 1) := by decide +kernel
theorem dX1_spells_48 : decode cX1_spells 48 = .ok (.ireturn, 1) := by decide +kernel
theorem dX1_spells_49 : decode cX1_spells 49 = .ok (.iinc 2 1, 3) := by decide +kernel
theorem dX1_spells_52 : decode cX1_spells 52 = .ok (.goto (-32), 3) := by decide +kernel
theorem dX1_spells_55 : decode cX1_spells 55 = .ok (.iconst 1, 1) := by decide +kernel
theorem dX1_spells_56 : decode cX1_spells 56 = .ok (.ireturn, 1) := by decide +kernel
theorem dX1_isLetter_0 : decode cX1_isLetter 0 = .ok (.iload_n 0, 1) := by decide +kernel
theorem dX1_isLetter_1 : decode cX1_isLetter 1 = .ok (.bipush 97, 2) := by decide +kernel
theorem dX1_isLetter_3 : decode cX1_isLetter 3 = .ok (.if_icmp .lt 13, 3) := by decide +kernel
theorem dX1_isLetter_6 : decode cX1_isLetter 6 = .ok (.iload_n 0, 1) := by decide +kernel
theorem dX1_isLetter_7 : decode cX1_isLetter 7 = .ok (.bipush 122, 2) := by decide +kernel
theorem dX1_isLetter_9 : decode cX1_isLetter 9 = .ok (.if_icmp .gt 7, 3) := by decide +kernel
theorem dX1_isLetter_12 : decode cX1_isLetter 12 = .ok (.iconst 1, 1) := by decide +kernel
theorem dX1_isLetter_13 : decode cX1_isLetter 13 = .ok (.goto 4, 3) := by decide +kernel
theorem dX1_isLetter_16 : decode cX1_isLetter 16 = .ok (.iconst 0, 1) := by decide +kernel
theorem dX1_isLetter_17 : decode cX1_isLetter 17 = .ok (.ireturn, 1) := by decide +kernel
theorem dX1_isDigit_0 : decode cX1_isDigit 0 = .ok (.iload_n 0, 1) := by decide +kernel
theorem dX1_isDigit_1 : decode cX1_isDigit 1 = .ok (.bipush 48, 2) := by decide +kernel
theorem dX1_isDigit_3 : decode cX1_isDigit 3 = .ok (.if_icmp .lt 13, 3) := by decide +kernel
theorem dX1_isDigit_6 : decode cX1_isDigit 6 = .ok (.iload_n 0, 1) := by decide +kernel
theorem dX1_isDigit_7 : decode cX1_isDigit 7 = .ok (.bipush 57, 2) := by decide +kernel
theorem dX1_isDigit_9 : decode cX1_isDigit 9 = .ok (.if_icmp .gt 7, 3) := by decide +kernel
theorem dX1_isDigit_12 : decode cX1_isDigit 12 = .ok (.iconst 1, 1) := by decide +kernel
theorem dX1_isDigit_13 : decode cX1_isDigit 13 = .ok (.goto 4, 3) := by decide +kernel
theorem dX1_isDigit_16 : decode cX1_isDigit 16 = .ok (.iconst 0, 1) := by decide +kernel
theorem dX1_isDigit_17 : decode cX1_isDigit 17 = .ok (.ireturn, 1) := by decide +kernel
theorem dX2_init_0 : decode cX2_init 0 = .ok (.aload_n 0, 1) := by decide +kernel
theorem dX2_init_1 : decode cX2_init 1 = .ok (.invokespecial 3, 3) := by decide +kernel
theorem dX2_init_4 : decode cX2_init 4 = .ok (.aload_n 0, 1) := by decide +kernel
theorem dX2_init_5 : decode cX2_init 5 = .ok (.bipush 6, 2) := by decide +kernel
theorem dX2_init_7 : decode cX2_init 7 = .ok (.newarray .int, 2) := by decide +kernel
theorem dX2_init_9 : decode cX2_init 9 = .ok (.putfield 9, 3) := by decide +kernel
theorem dX2_init_12 : decode cX2_init 12 = .ok (.aload_n 0, 1) := by decide +kernel
theorem dX2_init_13 : decode cX2_init 13 = .ok (.bipush 6, 2) := by decide +kernel
theorem dX2_init_15 : decode cX2_init 15 = .ok (.newarray .int, 2) := by decide +kernel
theorem dX2_init_17 : decode cX2_init 17 = .ok (.putfield 15, 3) := by decide +kernel
theorem dX2_init_20 : decode cX2_init 20 = .ok (.aload_n 0, 1) := by decide +kernel
theorem dX2_init_21 : decode cX2_init 21 = .ok (.bipush 6, 2) := by decide +kernel
theorem dX2_init_23 : decode cX2_init 23 = .ok (.newarray .int, 2) := by decide +kernel
theorem dX2_init_25 : decode cX2_init 25 = .ok (.putfield 18, 3) := by decide +kernel
theorem dX2_init_28 : decode cX2_init 28 = .ok (.aload_n 0, 1) := by decide +kernel
theorem dX2_init_29 : decode cX2_init 29 = .ok (.bipush 6, 2) := by decide +kernel
theorem dX2_init_31 : decode cX2_init 31 = .ok (.newarray .int, 2) := by decide +kernel
theorem dX2_init_33 : decode cX2_init 33 = .ok (.putfield 21, 3) := by decide +kernel
theorem dX2_init_36 : decode cX2_init 36 = .ok (.aload_n 0, 1) := by decide +kernel
theorem dX2_init_37 : decode cX2_init 37 = .ok (.bipush 6, 2) := by decide +kernel
theorem dX2_init_39 : decode cX2_init 39 = .ok (.newarray .int, 2) := by decide +kernel
theorem dX2_init_41 : decode cX2_init 41 = .ok (.putfield 24, 3) := by decide +kernel
theorem dX2_init_44 : decode cX2_init 44 = .ok (.aload_n 0, 1) := by decide +kernel
theorem dX2_init_45 : decode cX2_init 45 = .ok (.bipush 6, 2) := by decide +kernel
theorem dX2_init_47 : decode cX2_init 47 = .ok (.newarray .int, 2) := by decide +kernel
theorem dX2_init_49 : decode cX2_init 49 = .ok (.putfield 27, 3) := by decide +kernel
theorem dX2_init_52 : decode cX2_init 52 = .ok (.aload_n 0, 1) := by decide +kernel
theorem dX2_init_53 : decode cX2_init 53 = .ok (.bipush 36, 2) := by decide +kernel
theorem dX2_init_55 : decode cX2_init 55 = .ok (.newarray .int, 2) := by decide +kernel
theorem dX2_init_57 : decode cX2_init 57 = .ok (.putfield 30, 3) := by decide +kernel
theorem dX2_init_60 : decode cX2_init 60 = .ok (.aload_n 0, 1) := by decide +kernel
theorem dX2_init_61 : decode cX2_init 61 = .ok (.aload_n 1, 1) := by decide +kernel
theorem dX2_init_62 : decode cX2_init 62 = .ok (.putfield 33, 3) := by decide +kernel
theorem dX2_init_65 : decode cX2_init 65 = .ok (.return_, 1) := by decide +kernel
theorem dX2_become_0 : decode cX2_become 0 = .ok (.aload_n 1, 1) := by decide +kernel
theorem dX2_become_1 : decode cX2_become 1 = .ok (.getfield 9, 3) := by decide +kernel
theorem dX2_become_4 : decode cX2_become 4 = .ok (.iconst 0, 1) := by decide +kernel
theorem dX2_become_5 : decode cX2_become 5 = .ok (.aload_n 0, 1) := by decide +kernel
theorem dX2_become_6 : decode cX2_become 6 = .ok (.getfield 9, 3) := by decide +kernel
theorem dX2_become_9 : decode cX2_become 9 = .ok (.iconst 0, 1) := by decide +kernel
theorem dX2_become_10 : decode cX2_become 10 = .ok (.bipush 6, 2) := by decide +kernel
theorem dX2_become_12 : decode cX2_become 12 = .ok (.invokestatic 37, 3) := by decide +kernel
theorem dX2_become_15 : decode cX2_become 15 = .ok (.aload_n 1, 1) := by decide +kernel
theorem dX2_become_16 : decode cX2_become 16 = .ok (.getfield 15, 3) := by decide +kernel
theorem dX2_become_19 : decode cX2_become 19 = .ok (.iconst 0, 1) := by decide +kernel
theorem dX2_become_20 : decode cX2_become 20 = .ok (.aload_n 0, 1) := by decide +kernel
theorem dX2_become_21 : decode cX2_become 21 = .ok (.getfield 15, 3) := by decide +kernel
theorem dX2_become_24 : decode cX2_become 24 = .ok (.iconst 0, 1) := by decide +kernel
theorem dX2_become_25 : decode cX2_become 25 = .ok (.bipush 6, 2) := by decide +kernel
theorem dX2_become_27 : decode cX2_become 27 = .ok (.invokestatic 37, 3) := by decide +kernel
theorem dX2_become_30 : decode cX2_become 30 = .ok (.aload_n 1, 1) := by decide +kernel
theorem dX2_become_31 : decode cX2_become 31 = .ok (.getfield 18, 3) := by decide +kernel
theorem dX2_become_34 : decode cX2_become 34 = .ok (.iconst 0, 1) := by decide +kernel
theorem dX2_become_35 : decode cX2_become 35 = .ok (.aload_n 0, 1) := by decide +kernel
theorem dX2_become_36 : decode cX2_become 36 = .ok (.getfield 18, 3) := by decide +kernel
theorem dX2_become_39 : decode cX2_become 39 = .ok (.iconst 0, 1) := by decide +kernel
theorem dX2_become_40 : decode cX2_become 40 = .ok (.bipush 6, 2) := by decide +kernel
theorem dX2_become_42 : decode cX2_become 42 = .ok (.invokestatic 37, 3) := by decide +kernel
theorem dX2_become_45 : decode cX2_become 45 = .ok (.aload_n 1, 1) := by decide +kernel
theorem dX2_become_46 : decode cX2_become 46 = .ok (.getfield 21, 3) := by decide +kernel
theorem dX2_become_49 : decode cX2_become 49 = .ok (.iconst 0, 1) := by decide +kernel
theorem dX2_become_50 : decode cX2_become 50 = .ok (.aload_n 0, 1) := by decide +kernel
theorem dX2_become_51 : decode cX2_become 51 = .ok (.getfield 21, 3) := by decide +kernel
theorem dX2_become_54 : decode cX2_become 54 = .ok (.iconst 0, 1) := by decide +kernel
theorem dX2_become_55 : decode cX2_become 55 = .ok (.bipush 6, 2) := by decide +kernel
theorem dX2_become_57 : decode cX2_become 57 = .ok (.invokestatic 37, 3) := by decide +kernel
theorem dX2_become_60 : decode cX2_become 60 = .ok (.aload_n 1, 1) := by decide +kernel
theorem dX2_become_61 : decode cX2_become 61 = .ok (.getfield 24, 3) := by decide +kernel
theorem dX2_become_64 : decode cX2_become 64 = .ok (.iconst 0, 1) := by decide +kernel
theorem dX2_become_65 : decode cX2_become 65 = .ok (.aload_n 0, 1) := by decide +kernel
theorem dX2_become_66 : decode cX2_become 66 = .ok (.getfield 24, 3) := by decide +kernel
theorem dX2_become_69 : decode cX2_become 69 = .ok (.iconst 0, 1) := by decide +kernel
theorem dX2_become_70 : decode cX2_become 70 = .ok (.bipush 6, 2) := by decide +kernel
theorem dX2_become_72 : decode cX2_become 72 = .ok (.invokestatic 37, 3) := by decide +kernel
theorem dX2_become_75 : decode cX2_become 75 = .ok (.aload_n 1, 1) := by decide +kernel
theorem dX2_become_76 : decode cX2_become 76 = .ok (.getfield 27, 3) := by decide +kernel
theorem dX2_become_79 : decode cX2_become 79 = .ok (.iconst 0, 1) := by decide +kernel
theorem dX2_become_80 : decode cX2_become 80 = .ok (.aload_n 0, 1) := by decide +kernel
theorem dX2_become_81 : decode cX2_become 81 = .ok (.getfield 27, 3) := by decide +kernel
theorem dX2_become_84 : decode cX2_become 84 = .ok (.iconst 0, 1) := by decide +kernel
theorem dX2_become_85 : decode cX2_become 85 = .ok (.bipush 6, 2) := by decide +kernel
theorem dX2_become_87 : decode cX2_become 87 = .ok (.invokestatic 37, 3) := by decide +kernel
theorem dX2_become_90 : decode cX2_become 90 = .ok (.aload_n 1, 1) := by decide +kernel
theorem dX2_become_91 : decode cX2_become 91 = .ok (.getfield 30, 3) := by decide +kernel
theorem dX2_become_94 : decode cX2_become 94 = .ok (.iconst 0, 1) := by decide +kernel
theorem dX2_become_95 : decode cX2_become 95 = .ok (.aload_n 0, 1) := by decide +kernel
theorem dX2_become_96 : decode cX2_become 96 = .ok (.getfield 30, 3) := by decide +kernel
theorem dX2_become_99 : decode cX2_become 99 = .ok (.iconst 0, 1) := by decide +kernel
theorem dX2_become_100 : decode cX2_become 100 = .ok (.bipush 36, 2) := by decide +kernel
theorem dX2_become_102 : decode cX2_become 102 = .ok (.invokestatic 37, 3) := by decide +kernel
theorem dX2_become_105 : decode cX2_become 105 = .ok (.aload_n 0, 1) := by decide +kernel
theorem dX2_become_106 : decode cX2_become 106 = .ok (.aload_n 1, 1) := by decide +kernel
theorem dX2_become_107 : decode cX2_become 107 = .ok (.getfield 43, 3) := by decide +kernel
theorem dX2_become_110 : decode cX2_become 110 = .ok (.putfield 43, 3) := by decide +kernel
theorem dX2_become_113 : decode cX2_become 113 = .ok (.aload_n 0, 1) := by decide +kernel
theorem dX2_become_114 : decode cX2_become 114 = .ok (.aload_n 1, 1) := by decide +kernel
theorem dX2_become_115 : decode cX2_become 115 = .ok (.getfield 47, 3) := by decide +kernel
theorem dX2_become_118 : decode cX2_become 118 = .ok (.putfield 47, 3) := by decide +kernel
theorem dX2_become_121 : decode cX2_become 121 = .ok (.aload_n 0, 1) := by decide +kernel
theorem dX2_become_122 : decode cX2_become 122 = .ok (.aload_n 1, 1) := by decide +kernel
theorem dX2_become_123 : decode cX2_become 123 = .ok (.getfield 50, 3) := by decide +kernel
theorem dX2_become_126 : decode cX2_become 126 = .ok (.putfield 50, 3) := by decide +kernel
theorem dX2_become_129 : decode cX2_become 129 = .ok (.return_, 1) := by decide +kernel
theorem dX2_add_0 : decode cX2_add 0 = .ok (.aload_n 0, 1) := by decide +kernel
theorem dX2_add_1 : decode cX2_add 1 = .ok (.getfield 43, 3) := by decide +kernel
theorem dX2_add_4 : decode cX2_add 4 = .ok (.istore 4, 2) := by decide +kernel
theorem dX2_add_6 : decode cX2_add 6 = .ok (.aload_n 0, 1) := by decide +kernel
theorem dX2_add_7 : decode cX2_add 7 = .ok (.getfield 9, 3) := by decide +kernel
theorem dX2_add_10 : decode cX2_add 10 = .ok (.iload 4, 2) := by decide +kernel
theorem dX2_add_12 : decode cX2_add 12 = .ok (.iload_n 1, 1) := by decide +kernel
theorem dX2_add_13 : decode cX2_add 13 = .ok (.bipush 10, 2) := by decide +kernel
theorem dX2_add_15 : decode cX2_add 15 = .ok (.idiv, 1) := by decide +kernel
theorem dX2_add_16 : decode cX2_add 16 = .ok (.iastore, 1) := by decide +kernel
theorem dX2_add_17 : decode cX2_add 17 = .ok (.aload_n 0, 1) := by decide +kernel
theorem dX2_add_18 : decode cX2_add 18 = .ok (.getfield 15, 3) := by decide +kernel
theorem dX2_add_21 : decode cX2_add 21 = .ok (.iload 4, 2) := by decide +kernel
theorem dX2_add_23 : decode cX2_add 23 = .ok (.iload_n 1, 1) := by decide +kernel
theorem dX2_add_24 : decode cX2_add 24 = .ok (.bipush 10, 2) := by decide +kernel
theorem dX2_add_26 : decode cX2_add 26 = .ok (.irem, 1) := by decide +kernel
theorem dX2_add_27 : decode cX2_add 27 = .ok (.iastore, 1) := by decide +kernel
theorem dX2_add_28 : decode cX2_add 28 = .ok (.aload_n 0, 1) := by decide +kernel
theorem dX2_add_29 : decode cX2_add 29 = .ok (.getfield 18, 3) := by decide +kernel
theorem dX2_add_32 : decode cX2_add 32 = .ok (.iload 4, 2) := by decide +kernel
theorem dX2_add_34 : decode cX2_add 34 = .ok (.iload_n 2, 1) := by decide +kernel
theorem dX2_add_35 : decode cX2_add 35 = .ok (.iastore, 1) := by decide +kernel
theorem dX2_add_36 : decode cX2_add 36 = .ok (.aload_n 0, 1) := by decide +kernel
theorem dX2_add_37 : decode cX2_add 37 = .ok (.getfield 21, 3) := by decide +kernel
theorem dX2_add_40 : decode cX2_add 40 = .ok (.iload 4, 2) := by decide +kernel
theorem dX2_add_42 : decode cX2_add 42 = .ok (.iload_n 3, 1) := by decide +kernel
theorem dX2_add_43 : decode cX2_add 43 = .ok (.bipush 100, 2) := by decide +kernel
theorem dX2_add_45 : decode cX2_add 45 = .ok (.idiv, 1) := by decide +kernel
theorem dX2_add_46 : decode cX2_add 46 = .ok (.iastore, 1) := by decide +kernel
theorem dX2_add_47 : decode cX2_add 47 = .ok (.aload_n 0, 1) := by decide +kernel
theorem dX2_add_48 : decode cX2_add 48 = .ok (.getfield 24, 3) := by decide +kernel
theorem dX2_add_51 : decode cX2_add 51 = .ok (.iload 4, 2) := by decide +kernel
theorem dX2_add_53 : decode cX2_add 53 = .ok (.iload_n 3, 1) := by decide +kernel
theorem dX2_add_54 : decode cX2_add 54 = .ok (.bipush 100, 2) := by decide +kernel
theorem dX2_add_56 : decode cX2_add 56 = .ok (.irem, 1) := by decide +kernel
theorem dX2_add_57 : decode cX2_add 57 = .ok (.iastore, 1) := by decide +kernel
theorem dX2_add_58 : decode cX2_add 58 = .ok (.aload_n 0, 1) := by decide +kernel
theorem dX2_add_59 : decode cX2_add 59 = .ok (.dup, 1) := by decide +kernel
theorem dX2_add_60 : decode cX2_add 60 = .ok (.getfield 43, 3) := by decide +kernel
theorem dX2_add_63 : decode cX2_add 63 = .ok (.iconst 1, 1) := by decide +kernel
theorem dX2_add_64 : decode cX2_add 64 = .ok (.iadd, 1) := by decide +kernel
theorem dX2_add_65 : decode cX2_add 65 = .ok (.putfield 43, 3) := by decide +kernel
theorem dX2_add_68 : decode cX2_add 68 = .ok (.return_, 1) := by decide +kernel
theorem dX2_rowOf_0 : decode cX2_rowOf 0 = .ok (.iload_n 1, 1) := by decide +kernel
theorem dX2_rowOf_1 : decode cX2_rowOf 1 = .ok (.tableswitch 51 0 3 #[31, 36, 41, 46], 31) := by decide +kernel
theorem dX2_rowOf_32 : decode cX2_rowOf 32 = .ok (.aload_n 0, 1) := by decide +kernel
theorem dX2_rowOf_33 : decode cX2_rowOf 33 = .ok (.getfield 18, 3) := by decide +kernel
theorem dX2_rowOf_36 : decode cX2_rowOf 36 = .ok (.areturn, 1) := by decide +kernel
theorem dX2_rowOf_37 : decode cX2_rowOf 37 = .ok (.aload_n 0, 1) := by decide +kernel
theorem dX2_rowOf_38 : decode cX2_rowOf 38 = .ok (.getfield 21, 3) := by decide +kernel
theorem dX2_rowOf_41 : decode cX2_rowOf 41 = .ok (.areturn, 1) := by decide +kernel
theorem dX2_rowOf_42 : decode cX2_rowOf 42 = .ok (.aload_n 0, 1) := by decide +kernel
theorem dX2_rowOf_43 : decode cX2_rowOf 43 = .ok (.getfield 24, 3) := by decide +kernel
theorem dX2_rowOf_46 : decode cX2_rowOf 46 = .ok (.areturn, 1) := by decide +kernel
theorem dX2_rowOf_47 : decode cX2_rowOf 47 = .ok (.aload_n 0, 1) := by decide +kernel
theorem dX2_rowOf_48 : decode cX2_rowOf 48 = .ok (.getfield 27, 3) := by decide +kernel
theorem dX2_rowOf_51 : decode cX2_rowOf 51 = .ok (.areturn, 1) := by decide +kernel
theorem dX2_rowOf_52 : decode cX2_rowOf 52 = .ok (.aconst_null, 1) := by decide +kernel
theorem dX2_rowOf_53 : decode cX2_rowOf 53 = .ok (.areturn, 1) := by decide +kernel
theorem dX2_leaveOnly_0 : decode cX2_leaveOnly 0 = .ok (.iconst 0, 1) := by decide +kernel
theorem dX2_leaveOnly_1 : decode cX2_leaveOnly 1 = .ok (.istore_n 3, 1) := by decide +kernel
theorem dX2_leaveOnly_2 : decode cX2_leaveOnly 2 = .ok (.iload_n 3, 1) := by decide +kernel
theorem dX2_leaveOnly_3 : decode cX2_leaveOnly 3 = .ok (.aload_n 0, 1) := by decide +kernel
theorem dX2_leaveOnly_4 : decode cX2_leaveOnly 4 = .ok (.getfield 43, 3) := by decide +kernel
theorem dX2_leaveOnly_7 : decode cX2_leaveOnly 7 = .ok (.if_icmp .ge 35, 3) := by decide +kernel
theorem dX2_leaveOnly_10 : decode cX2_leaveOnly 10 = .ok (.aload_n 0, 1) := by decide +kernel
theorem dX2_leaveOnly_11 : decode cX2_leaveOnly 11 = .ok (.getfield 21, 3) := by decide +kernel
theorem dX2_leaveOnly_14 : decode cX2_leaveOnly 14 = .ok (.iload_n 3, 1) := by decide +kernel
theorem dX2_leaveOnly_15 : decode cX2_leaveOnly 15 = .ok (.iload_n 3, 1) := by decide +kernel
theorem dX2_leaveOnly_16 : decode cX2_leaveOnly 16 = .ok (.iload_n 1, 1) := by decide +kernel
theorem dX2_leaveOnly_17 : decode cX2_leaveOnly 17 = .ok (.if_icmp .eq 8, 3) := by decide +kernel
theorem dX2_leaveOnly_20 : decode cX2_leaveOnly 20 = .ok (.iload_n 3, 1) := by decide +kernel
theorem dX2_leaveOnly_21 : decode cX2_leaveOnly 21 = .ok (.iload_n 2, 1) := by decide +kernel
theorem dX2_leaveOnly_22 : decode cX2_leaveOnly 22 = .ok (.if_icmp .ne 12, 3) := by decide +kernel
theorem dX2_leaveOnly_25 : decode cX2_leaveOnly 25 = .ok (.aload_n 0, 1) := by decide +kernel
theorem dX2_leaveOnly_26 : decode cX2_leaveOnly 26 = .ok (.getfield 21, 3) := by decide +kernel
theorem dX2_leaveOnly_29 : decode cX2_leaveOnly 29 = .ok (.iload_n 3, 1) := by decide +kernel
theorem dX2_leaveOnly_30 : decode cX2_leaveOnly 30 = .ok (.iaload, 1) := by decide +kernel
theorem dX2_leaveOnly_31 : decode cX2_leaveOnly 31 = .ok (.goto 4, 3) := by decide +kernel
theorem dX2_leaveOnly_34 : decode cX2_leaveOnly 34 = .ok (.iconst 0, 1) := by decide +kernel
theorem dX2_leaveOnly_35 : decode cX2_leaveOnly 35 = .ok (.iastore, 1) := by decide +kernel
theorem dX2_leaveOnly_36 : decode cX2_leaveOnly 36 = .ok (.iinc 3 1, 3) := by decide +kernel
theorem dX2_leaveOnly_39 : decode cX2_leaveOnly 39 = .ok (.goto (-37), 3) := by decide +kernel
theorem dX2_leaveOnly_42 : decode cX2_leaveOnly 42 = .ok (.return_, 1) := by decide +kernel
theorem dX2_upBits_0 : decode cX2_upBits 0 = .ok (.iconst 0, 1) := by decide +kernel
theorem dX2_upBits_1 : decode cX2_upBits 1 = .ok (.istore_n 1, 1) := by decide +kernel
theorem dX2_upBits_2 : decode cX2_upBits 2 = .ok (.iconst 0, 1) := by decide +kernel
theorem dX2_upBits_3 : decode cX2_upBits 3 = .ok (.istore_n 2, 1) := by decide +kernel
theorem dX2_upBits_4 : decode cX2_upBits 4 = .ok (.iload_n 2, 1) := by decide +kernel
theorem dX2_upBits_5 : decode cX2_upBits 5 = .ok (.aload_n 0, 1) := by decide +kernel
theorem dX2_upBits_6 : decode cX2_upBits 6 = .ok (.getfield 43, 3) := by decide +kernel
theorem dX2_upBits_9 : decode cX2_upBits 9 = .ok (.if_icmp .ge 24, 3) := by decide +kernel
theorem dX2_upBits_12 : decode cX2_upBits 12 = .ok (.aload_n 0, 1) := by decide +kernel
theorem dX2_upBits_13 : decode cX2_upBits 13 = .ok (.getfield 21, 3) := by decide +kernel
theorem dX2_upBits_16 : decode cX2_upBits 16 = .ok (.iload_n 2, 1) := by decide +kernel
theorem dX2_upBits_17 : decode cX2_upBits 17 = .ok (.iaload, 1) := by decide +kernel
theorem dX2_upBits_18 : decode cX2_upBits 18 = .ok (.ifCond .le 9, 3) := by decide +kernel
theorem dX2_upBits_21 : decode cX2_upBits 21 = .ok (.iload_n 1, 1) := by decide +kernel
theorem dX2_upBits_22 : decode cX2_upBits 22 = .ok (.iconst 1, 1) := by decide +kernel
theorem dX2_upBits_23 : decode cX2_upBits 23 = .ok (.iload_n 2, 1) := by decide +kernel
theorem dX2_upBits_24 : decode cX2_upBits 24 = .ok (.ishl, 1) := by decide +kernel
theorem dX2_upBits_25 : decode cX2_upBits 25 = .ok (.ior, 1) := by decide +kernel
theorem dX2_upBits_26 : decode cX2_upBits 26 = .ok (.istore_n 1, 1) := by decide +kernel
theorem dX2_upBits_27 : decode cX2_upBits 27 = .ok (.iinc 2 1, 3) := by decide +kernel
theorem dX2_upBits_30 : decode cX2_upBits 30 = .ok (.goto (-26), 3) := by decide +kernel
theorem dX2_upBits_33 : decode cX2_upBits 33 = .ok (.iload_n 1, 1) := by decide +kernel
theorem dX2_upBits_34 : decode cX2_upBits 34 = .ok (.ireturn, 1) := by decide +kernel
theorem dX2_upCount_0 : decode cX2_upCount 0 = .ok (.iconst 0, 1) := by decide +kernel
theorem dX2_upCount_1 : decode cX2_upCount 1 = .ok (.istore_n 1, 1) := by decide +kernel
theorem dX2_upCount_2 : decode cX2_upCount 2 = .ok (.iconst 0, 1) := by decide +kernel
theorem dX2_upCount_3 : decode cX2_upCount 3 = .ok (.istore_n 2, 1) := by decide +kernel
theorem dX2_upCount_4 : decode cX2_upCount 4 = .ok (.iload_n 2, 1) := by decide +kernel
theorem dX2_upCount_5 : decode cX2_upCount 5 = .ok (.aload_n 0, 1) := by decide +kernel
theorem dX2_upCount_6 : decode cX2_upCount 6 = .ok (.getfield 43, 3) := by decide +kernel
theorem dX2_upCount_9 : decode cX2_upCount 9 = .ok (.if_icmp .ge 21, 3) := by decide +kernel
theorem dX2_upCount_12 : decode cX2_upCount 12 = .ok (.aload_n 0, 1) := by decide +kernel
theorem dX2_upCount_13 : decode cX2_upCount 13 = .ok (.getfield 21, 3) := by decide +kernel
theorem dX2_upCount_16 : decode cX2_upCount 16 = .ok (.iload_n 2, 1) := by decide +kernel
theorem dX2_upCount_17 : decode cX2_upCount 17 = .ok (.iaload, 1) := by decide +kernel
theorem dX2_upCount_18 : decode cX2_upCount 18 = .ok (.ifCond .le 6, 3) := by decide +kernel
theorem dX2_upCount_21 : decode cX2_upCount 21 = .ok (.iinc 1 1, 3) := by decide +kernel
theorem dX2_upCount_24 : decode cX2_upCount 24 = .ok (.iinc 2 1, 3) := by decide +kernel
theorem dX2_upCount_27 : decode cX2_upCount 27 = .ok (.goto (-23), 3) := by decide +kernel
theorem dX2_upCount_30 : decode cX2_upCount 30 = .ok (.iload_n 1, 1) := by decide +kernel
theorem dX2_upCount_31 : decode cX2_upCount 31 = .ok (.ireturn, 1) := by decide +kernel
theorem dX2_feltSum_0 : decode cX2_feltSum 0 = .ok (.iconst 0, 1) := by decide +kernel
theorem dX2_feltSum_1 : decode cX2_feltSum 1 = .ok (.istore_n 1, 1) := by decide +kernel
theorem dX2_feltSum_2 : decode cX2_feltSum 2 = .ok (.iconst 0, 1) := by decide +kernel
theorem dX2_feltSum_3 : decode cX2_feltSum 3 = .ok (.istore_n 2, 1) := by decide +kernel
theorem dX2_feltSum_4 : decode cX2_feltSum 4 = .ok (.iload_n 2, 1) := by decide +kernel
theorem dX2_feltSum_5 : decode cX2_feltSum 5 = .ok (.aload_n 0, 1) := by decide +kernel
theorem dX2_feltSum_6 : decode cX2_feltSum 6 = .ok (.getfield 43, 3) := by decide +kernel
theorem dX2_feltSum_9 : decode cX2_feltSum 9 = .ok (.if_icmp .ge 18, 3) := by decide +kernel
theorem dX2_feltSum_12 : decode cX2_feltSum 12 = .ok (.iload_n 1, 1) := by decide +kernel
theorem dX2_feltSum_13 : decode cX2_feltSum 13 = .ok (.aload_n 0, 1) := by decide +kernel
theorem dX2_feltSum_14 : decode cX2_feltSum 14 = .ok (.getfield 21, 3) := by decide +kernel
theorem dX2_feltSum_17 : decode cX2_feltSum 17 = .ok (.iload_n 2, 1) := by decide +kernel
theorem dX2_feltSum_18 : decode cX2_feltSum 18 = .ok (.iaload, 1) := by decide +kernel
theorem dX2_feltSum_19 : decode cX2_feltSum 19 = .ok (.iadd, 1) := by decide +kernel
theorem dX2_feltSum_20 : decode cX2_feltSum 20 = .ok (.istore_n 1, 1) := by decide +kernel
theorem dX2_feltSum_21 : decode cX2_feltSum 21 = .ok (.iinc 2 1, 3) := by decide +kernel
theorem dX2_feltSum_24 : decode cX2_feltSum 24 = .ok (.goto (-20), 3) := by decide +kernel
theorem dX2_feltSum_27 : decode cX2_feltSum 27 = .ok (.iload_n 1, 1) := by decide +kernel
theorem dX2_feltSum_28 : decode cX2_feltSum 28 = .ok (.ireturn, 1) := by decide +kernel
theorem dX2_tallySum_0 : decode cX2_tallySum 0 = .ok (.iconst 0, 1) := by decide +kernel
theorem dX2_tallySum_1 : decode cX2_tallySum 1 = .ok (.istore_n 1, 1) := by decide +kernel
theorem dX2_tallySum_2 : decode cX2_tallySum 2 = .ok (.iconst 0, 1) := by decide +kernel
theorem dX2_tallySum_3 : decode cX2_tallySum 3 = .ok (.istore_n 2, 1) := by decide +kernel
theorem dX2_tallySum_4 : decode cX2_tallySum 4 = .ok (.iload_n 2, 1) := by decide +kernel
theorem dX2_tallySum_5 : decode cX2_tallySum 5 = .ok (.aload_n 0, 1) := by decide +kernel
theorem dX2_tallySum_6 : decode cX2_tallySum 6 = .ok (.getfield 43, 3) := by decide +kernel
theorem dX2_tallySum_9 : decode cX2_tallySum 9 = .ok (.if_icmp .ge 39, 3) := by decide +kernel
theorem dX2_tallySum_12 : decode cX2_tallySum 12 = .ok (.iconst 0, 1) := by decide +kernel
theorem dX2_tallySum_13 : decode cX2_tallySum 13 = .ok (.istore_n 3, 1) := by decide +kernel
theorem dX2_tallySum_14 : decode cX2_tallySum 14 = .ok (.iload_n 3, 1) := by decide +kernel
theorem dX2_tallySum_15 : decode cX2_tallySum 15 = .ok (.aload_n 0, 1) := by decide +kernel
theorem dX2_tallySum_16 : decode cX2_tallySum 16 = .ok (.getfield 43, 3) := by decide +kernel
theorem dX2_tallySum_19 : decode cX2_tallySum 19 = .ok (.if_icmp .ge 23, 3) := by decide +kernel
theorem dX2_tallySum_22 : decode cX2_tallySum 22 = .ok (.iload_n 1, 1) := by decide +kernel
theorem dX2_tallySum_23 : decode cX2_tallySum 23 = .ok (.aload_n 0, 1) := by decide +kernel
theorem dX2_tallySum_24 : decode cX2_tallySum 24 = .ok (.getfield 30, 3) := by decide +kernel
theorem dX2_tallySum_27 : decode cX2_tallySum 27 = .ok (.iload_n 2, 1) := by decide +kernel
theorem dX2_tallySum_28 : decode cX2_tallySum 28 = .ok (.bipush 6, 2) := by decide +kernel
theorem dX2_tallySum_30 : decode cX2_tallySum 30 = .ok (.imul, 1) := by decide +kernel
theorem dX2_tallySum_31 : decode cX2_tallySum 31 = .ok (.iload_n 3, 1) := by decide +kernel
theorem dX2_tallySum_32 : decode cX2_tallySum 32 = .ok (.iadd, 1) := by decide +kernel
theorem dX2_tallySum_33 : decode cX2_tallySum 33 = .ok (.iaload, 1) := by decide +kernel
theorem dX2_tallySum_34 : decode cX2_tallySum 34 = .ok (.iadd, 1) := by decide +kernel
theorem dX2_tallySum_35 : decode cX2_tallySum 35 = .ok (.istore_n 1, 1) := by decide +kernel
theorem dX2_tallySum_36 : decode cX2_tallySum 36 = .ok (.iinc 3 1, 3) := by decide +kernel
theorem dX2_tallySum_39 : decode cX2_tallySum 39 = .ok (.goto (-25), 3) := by decide +kernel
theorem dX2_tallySum_42 : decode cX2_tallySum 42 = .ok (.iinc 2 1, 3) := by decide +kernel
theorem dX2_tallySum_45 : decode cX2_tallySum 45 = .ok (.goto (-41), 3) := by decide +kernel
theorem dX2_tallySum_48 : decode cX2_tallySum 48 = .ok (.iload_n 1, 1) := by decide +kernel
theorem dX2_tallySum_49 : decode cX2_tallySum 49 = .ok (.ireturn, 1) := by decide +kernel
theorem dX2_mostFelt_0 : decode cX2_mostFelt 0 = .ok (.iconst (-1), 1) := by decide +kernel
theorem dX2_mostFelt_1 : decode cX2_mostFelt 1 = .ok (.istore_n 1, 1) := by decide +kernel
theorem dX2_mostFelt_2 : decode cX2_mostFelt 2 = .ok (.iconst 0, 1) := by decide +kernel
theorem dX2_mostFelt_3 : decode cX2_mostFelt 3 = .ok (.istore_n 2, 1) := by decide +kernel
theorem dX2_mostFelt_4 : decode cX2_mostFelt 4 = .ok (.iconst 0, 1) := by decide +kernel
theorem dX2_mostFelt_5 : decode cX2_mostFelt 5 = .ok (.istore_n 3, 1) := by decide +kernel
theorem dX2_mostFelt_6 : decode cX2_mostFelt 6 = .ok (.iload_n 3, 1) := by decide +kernel
theorem dX2_mostFelt_7 : decode cX2_mostFelt 7 = .ok (.aload_n 0, 1) := by decide +kernel
theorem dX2_mostFelt_8 : decode cX2_mostFelt 8 = .ok (.getfield 43, 3) := by decide +kernel
theorem dX2_mostFelt_11 : decode cX2_mostFelt 11 = .ok (.if_icmp .ge 28, 3) := by decide +kernel
theorem dX2_mostFelt_14 : decode cX2_mostFelt 14 = .ok (.aload_n 0, 1) := by decide +kernel
theorem dX2_mostFelt_15 : decode cX2_mostFelt 15 = .ok (.getfield 21, 3) := by decide +kernel
theorem dX2_mostFelt_18 : decode cX2_mostFelt 18 = .ok (.iload_n 3, 1) := by decide +kernel
theorem dX2_mostFelt_19 : decode cX2_mostFelt 19 = .ok (.iaload, 1) := by decide +kernel
theorem dX2_mostFelt_20 : decode cX2_mostFelt 20 = .ok (.iload_n 2, 1) := by decide +kernel
theorem dX2_mostFelt_21 : decode cX2_mostFelt 21 = .ok (.if_icmp .le 12, 3) := by decide +kernel
theorem dX2_mostFelt_24 : decode cX2_mostFelt 24 = .ok (.aload_n 0, 1) := by decide +kernel
theorem dX2_mostFelt_25 : decode cX2_mostFelt 25 = .ok (.getfield 21, 3) := by decide +kernel
theorem dX2_mostFelt_28 : decode cX2_mostFelt 28 = .ok (.iload_n 3, 1) := by decide +kernel
theorem dX2_mostFelt_29 : decode cX2_mostFelt 29 = .ok (.iaload, 1) := by decide +kernel
theorem dX2_mostFelt_30 : decode cX2_mostFelt 30 = .ok (.istore_n 2, 1) := by decide +kernel
theorem dX2_mostFelt_31 : decode cX2_mostFelt 31 = .ok (.iload_n 3, 1) := by decide +kernel
theorem dX2_mostFelt_32 : decode cX2_mostFelt 32 = .ok (.istore_n 1, 1) := by decide +kernel
theorem dX2_mostFelt_33 : decode cX2_mostFelt 33 = .ok (.iinc 3 1, 3) := by decide +kernel
theorem dX2_mostFelt_36 : decode cX2_mostFelt 36 = .ok (.goto (-30), 3) := by decide +kernel
theorem dX2_mostFelt_39 : decode cX2_mostFelt 39 = .ok (.iload_n 1, 1) := by decide +kernel
theorem dX2_mostFelt_40 : decode cX2_mostFelt 40 = .ok (.ireturn, 1) := by decide +kernel
theorem dX2_far_0 : decode cX2_far 0 = .ok (.aload_n 0, 1) := by decide +kernel
theorem dX2_far_1 : decode cX2_far 1 = .ok (.getfield 18, 3) := by decide +kernel
theorem dX2_far_4 : decode cX2_far 4 = .ok (.iload_n 1, 1) := by decide +kernel
theorem dX2_far_5 : decode cX2_far 5 = .ok (.iaload, 1) := by decide +kernel
theorem dX2_far_6 : decode cX2_far 6 = .ok (.bipush 8, 2) := by decide +kernel
theorem dX2_far_8 : decode cX2_far 8 = .ok (.irem, 1) := by decide +kernel
theorem dX2_far_9 : decode cX2_far 9 = .ok (.aload_n 0, 1) := by decide +kernel
theorem dX2_far_10 : decode cX2_far 10 = .ok (.getfield 18, 3) := by decide +kernel
theorem dX2_far_13 : decode cX2_far 13 = .ok (.iload_n 2, 1) := by decide +kernel
theorem dX2_far_14 : decode cX2_far 14 = .ok (.iaload, 1) := by decide +kernel
theorem dX2_far_15 : decode cX2_far 15 = .ok (.bipush 8, 2) := by decide +kernel
theorem dX2_far_17 : decode cX2_far 17 = .ok (.irem, 1) := by decide +kernel
theorem dX2_far_18 : decode cX2_far 18 = .ok (.isub, 1) := by decide +kernel
theorem dX2_far_19 : decode cX2_far 19 = .ok (.invokestatic 53, 3) := by decide +kernel
theorem dX2_far_22 : decode cX2_far 22 = .ok (.aload_n 0, 1) := by decide +kernel
theorem dX2_far_23 : decode cX2_far 23 = .ok (.getfield 18, 3) := by decide +kernel
theorem dX2_far_26 : decode cX2_far 26 = .ok (.iload_n 1, 1) := by decide +kernel
theorem dX2_far_27 : decode cX2_far 27 = .ok (.iaload, 1) := by decide +kernel
theorem dX2_far_28 : decode cX2_far 28 = .ok (.bipush 8, 2) := by decide +kernel
theorem dX2_far_30 : decode cX2_far 30 = .ok (.idiv, 1) := by decide +kernel
theorem dX2_far_31 : decode cX2_far 31 = .ok (.aload_n 0, 1) := by decide +kernel
theorem dX2_far_32 : decode cX2_far 32 = .ok (.getfield 18, 3) := by decide +kernel
theorem dX2_far_35 : decode cX2_far 35 = .ok (.iload_n 2, 1) := by decide +kernel
theorem dX2_far_36 : decode cX2_far 36 = .ok (.iaload, 1) := by decide +kernel
theorem dX2_far_37 : decode cX2_far 37 = .ok (.bipush 8, 2) := by decide +kernel
theorem dX2_far_39 : decode cX2_far 39 = .ok (.idiv, 1) := by decide +kernel
theorem dX2_far_40 : decode cX2_far 40 = .ok (.isub, 1) := by decide +kernel
theorem dX2_far_41 : decode cX2_far 41 = .ok (.invokestatic 53, 3) := by decide +kernel
theorem dX2_far_44 : decode cX2_far 44 = .ok (.iadd, 1) := by decide +kernel
theorem dX2_far_45 : decode cX2_far 45 = .ok (.ireturn, 1) := by decide +kernel
theorem dX2_nearest_0 : decode cX2_nearest 0 = .ok (.iconst (-1), 1) := by decide +kernel
theorem dX2_nearest_1 : decode cX2_nearest 1 = .ok (.istore_n 2, 1) := by decide +kernel
theorem dX2_nearest_2 : decode cX2_nearest 2 = .ok (.bipush 64, 2) := by decide +kernel
theorem dX2_nearest_4 : decode cX2_nearest 4 = .ok (.istore_n 3, 1) := by decide +kernel
theorem dX2_nearest_5 : decode cX2_nearest 5 = .ok (.iconst 0, 1) := by decide +kernel
theorem dX2_nearest_6 : decode cX2_nearest 6 = .ok (.istore 4, 2) := by decide +kernel
theorem dX2_nearest_8 : decode cX2_nearest 8 = .ok (.iload 4, 2) := by decide +kernel
theorem dX2_nearest_10 : decode cX2_nearest 10 = .ok (.aload_n 0, 1) := by decide +kernel
theorem dX2_nearest_11 : decode cX2_nearest 11 = .ok (.getfield 43, 3) := by decide +kernel
theorem dX2_nearest_14 : decode cX2_nearest 14 = .ok (.if_icmp .ge 47, 3) := by decide +kernel
theorem dX2_nearest_17 : decode cX2_nearest 17 = .ok (.iload 4, 2) := by decide +kernel
theorem dX2_nearest_19 : decode cX2_nearest 19 = .ok (.iload_n 1, 1) := by decide +kernel
theorem dX2_nearest_20 : decode cX2_nearest 20 = .ok (.if_icmp .eq 35, 3) := by decide +kernel
theorem dX2_nearest_23 : decode cX2_nearest 23 = .ok (.aload_n 0, 1) := by decide +kernel
theorem dX2_nearest_24 : decode cX2_nearest 24 = .ok (.getfield 21, 3) := by decide +kernel
theorem dX2_nearest_27 : decode cX2_nearest 27 = .ok (.iload 4, 2) := by decide +kernel
theorem dX2_nearest_29 : decode cX2_nearest 29 = .ok (.iaload, 1) := by decide +kernel
theorem dX2_nearest_30 : decode cX2_nearest 30 = .ok (.ifCond .le 25, 3) := by decide +kernel
theorem dX2_nearest_33 : decode cX2_nearest 33 = .ok (.aload_n 0, 1) := by decide +kernel
theorem dX2_nearest_34 : decode cX2_nearest 34 = .ok (.iload_n 1, 1) := by decide +kernel
theorem dX2_nearest_35 : decode cX2_nearest 35 = .ok (.iload 4, 2) := by decide +kernel
theorem dX2_nearest_37 : decode cX2_nearest 37 = .ok (.invokevirtual 59, 3) := by decide +kernel
theorem dX2_nearest_40 : decode cX2_nearest 40 = .ok (.iload_n 3, 1) := by decide +kernel
theorem dX2_nearest_41 : decode cX2_nearest 41 = .ok (.if_icmp .ge 14, 3) := by decide +kernel
theorem dX2_nearest_44 : decode cX2_nearest 44 = .ok (.aload_n 0, 1) := by decide +kernel
theorem dX2_nearest_45 : decode cX2_nearest 45 = .ok (.iload_n 1, 1) := by decide +kernel
theorem dX2_nearest_46 : decode cX2_nearest 46 = .ok (.iload 4, 2) := by decide +kernel
theorem dX2_nearest_48 : decode cX2_nearest 48 = .ok (.invokevirtual 59, 3) := by decide +kernel
theorem dX2_nearest_51 : decode cX2_nearest 51 = .ok (.istore_n 3, 1) := by decide +kernel
theorem dX2_nearest_52 : decode cX2_nearest 52 = .ok (.iload 4, 2) := by decide +kernel
theorem dX2_nearest_54 : decode cX2_nearest 54 = .ok (.istore_n 2, 1) := by decide +kernel
theorem dX2_nearest_55 : decode cX2_nearest 55 = .ok (.iinc 4 1, 3) := by decide +kernel
theorem dX2_nearest_58 : decode cX2_nearest 58 = .ok (.goto (-50), 3) := by decide +kernel
theorem dX2_nearest_61 : decode cX2_nearest 61 = .ok (.iload_n 2, 1) := by decide +kernel
theorem dX2_nearest_62 : decode cX2_nearest 62 = .ok (.ireturn, 1) := by decide +kernel
theorem dX2_goes_0 : decode cX2_goes 0 = .ok (.aload_n 0, 1) := by decide +kernel
theorem dX2_goes_1 : decode cX2_goes 1 = .ok (.getfield 9, 3) := by decide +kernel
theorem dX2_goes_4 : decode cX2_goes 4 = .ok (.iload_n 1, 1) := by decide +kernel
theorem dX2_goes_5 : decode cX2_goes 5 = .ok (.iaload, 1) := by decide +kernel
theorem dX2_goes_6 : decode cX2_goes 6 = .ok (.aload_n 0, 1) := by decide +kernel
theorem dX2_goes_7 : decode cX2_goes 7 = .ok (.getfield 15, 3) := by decide +kernel
theorem dX2_goes_10 : decode cX2_goes 10 = .ok (.iload_n 1, 1) := by decide +kernel
theorem dX2_goes_11 : decode cX2_goes 11 = .ok (.iaload, 1) := by decide +kernel
theorem dX2_goes_12 : decode cX2_goes 12 = .ok (.aload_n 0, 1) := by decide +kernel
theorem dX2_goes_13 : decode cX2_goes 13 = .ok (.getfield 47, 3) := by decide +kernel
theorem dX2_goes_16 : decode cX2_goes 16 = .ok (.aload_n 0, 1) := by decide +kernel
theorem dX2_goes_17 : decode cX2_goes 17 = .ok (.getfield 33, 3) := by decide +kernel
theorem dX2_goes_20 : decode cX2_goes 20 = .ok (.aload_n 0, 1) := by decide +kernel
theorem dX2_goes_21 : decode cX2_goes 21 = .ok (.getfield 50, 3) := by decide +kernel
theorem dX2_goes_24 : decode cX2_goes 24 = .ok (.aaload, 1) := by decide +kernel
theorem dX2_goes_25 : decode cX2_goes 25 = .ok (.iconst 0, 1) := by decide +kernel
theorem dX2_goes_26 : decode cX2_goes 26 = .ok (.aload_n 0, 1) := by decide +kernel
theorem dX2_goes_27 : decode cX2_goes 27 = .ok (.iload_n 1, 1) := by decide +kernel
theorem dX2_goes_28 : decode cX2_goes 28 = .ok (.invokevirtual 63, 3) := by decide +kernel
theorem dX2_goes_31 : decode cX2_goes 31 = .ok (.ifCond .eq 7, 3) := by decide +kernel
theorem dX2_goes_34 : decode cX2_goes 34 = .ok (.iconst 1, 1) := by decide +kernel
theorem dX2_goes_35 : decode cX2_goes 35 = .ok (.goto 4, 3) := by decide +kernel
theorem dX2_goes_38 : decode cX2_goes 38 = .ok (.iconst 0, 1) := by decide +kernel
theorem dX2_goes_39 : decode cX2_goes 39 = .ok (.invokestatic 69, 3) := by decide +kernel
theorem dX2_goes_42 : decode cX2_goes 42 = .ok (.ireturn, 1) := by decide +kernel
theorem dX2_hits_0 : decode cX2_hits 0 = .ok (.aload_n 0, 1) := by decide +kernel
theorem dX2_hits_1 : decode cX2_hits 1 = .ok (.getfield 9, 3) := by decide +kernel
theorem dX2_hits_4 : decode cX2_hits 4 = .ok (.iload_n 1, 1) := by decide +kernel
theorem dX2_hits_5 : decode cX2_hits 5 = .ok (.iaload, 1) := by decide +kernel
theorem dX2_hits_6 : decode cX2_hits 6 = .ok (.aload_n 0, 1) := by decide +kernel
theorem dX2_hits_7 : decode cX2_hits 7 = .ok (.getfield 15, 3) := by decide +kernel
theorem dX2_hits_10 : decode cX2_hits 10 = .ok (.iload_n 1, 1) := by decide +kernel
theorem dX2_hits_11 : decode cX2_hits 11 = .ok (.iaload, 1) := by decide +kernel
theorem dX2_hits_12 : decode cX2_hits 12 = .ok (.aload_n 0, 1) := by decide +kernel
theorem dX2_hits_13 : decode cX2_hits 13 = .ok (.getfield 9, 3) := by decide +kernel
theorem dX2_hits_16 : decode cX2_hits 16 = .ok (.iload_n 2, 1) := by decide +kernel
theorem dX2_hits_17 : decode cX2_hits 17 = .ok (.iaload, 1) := by decide +kernel
theorem dX2_hits_18 : decode cX2_hits 18 = .ok (.aload_n 0, 1) := by decide +kernel
theorem dX2_hits_19 : decode cX2_hits 19 = .ok (.getfield 47, 3) := by decide +kernel
theorem dX2_hits_22 : decode cX2_hits 22 = .ok (.aload_n 0, 1) := by decide +kernel
theorem dX2_hits_23 : decode cX2_hits 23 = .ok (.getfield 33, 3) := by decide +kernel
theorem dX2_hits_26 : decode cX2_hits 26 = .ok (.aload_n 0, 1) := by decide +kernel
theorem dX2_hits_27 : decode cX2_hits 27 = .ok (.getfield 50, 3) := by decide +kernel
theorem dX2_hits_30 : decode cX2_hits 30 = .ok (.aaload, 1) := by decide +kernel
theorem dX2_hits_31 : decode cX2_hits 31 = .ok (.iconst 1, 1) := by decide +kernel
theorem dX2_hits_32 : decode cX2_hits 32 = .ok (.aload_n 0, 1) := by decide +kernel
theorem dX2_hits_33 : decode cX2_hits 33 = .ok (.iload_n 1, 1) := by decide +kernel
theorem dX2_hits_34 : decode cX2_hits 34 = .ok (.invokevirtual 63, 3) := by decide +kernel
theorem dX2_hits_37 : decode cX2_hits 37 = .ok (.invokestatic 75, 3) := by decide +kernel
theorem dX2_hits_40 : decode cX2_hits 40 = .ok (.ireturn, 1) := by decide +kernel
theorem dX2_soft_0 : decode cX2_soft 0 = .ok (.aload_n 0, 1) := by decide +kernel
theorem dX2_soft_1 : decode cX2_soft 1 = .ok (.getfield 9, 3) := by decide +kernel
theorem dX2_soft_4 : decode cX2_soft 4 = .ok (.iload_n 1, 1) := by decide +kernel
theorem dX2_soft_5 : decode cX2_soft 5 = .ok (.iaload, 1) := by decide +kernel
theorem dX2_soft_6 : decode cX2_soft 6 = .ok (.aload_n 0, 1) := by decide +kernel
theorem dX2_soft_7 : decode cX2_soft 7 = .ok (.getfield 15, 3) := by decide +kernel
theorem dX2_soft_10 : decode cX2_soft 10 = .ok (.iload_n 1, 1) := by decide +kernel
theorem dX2_soft_11 : decode cX2_soft 11 = .ok (.iaload, 1) := by decide +kernel
theorem dX2_soft_12 : decode cX2_soft 12 = .ok (.aload_n 0, 1) := by decide +kernel
theorem dX2_soft_13 : decode cX2_soft 13 = .ok (.getfield 33, 3) := by decide +kernel
theorem dX2_soft_16 : decode cX2_soft 16 = .ok (.aload_n 0, 1) := by decide +kernel
theorem dX2_soft_17 : decode cX2_soft 17 = .ok (.getfield 50, 3) := by decide +kernel
theorem dX2_soft_20 : decode cX2_soft 20 = .ok (.aaload, 1) := by decide +kernel
theorem dX2_soft_21 : decode cX2_soft 21 = .ok (.iconst 2, 1) := by decide +kernel
theorem dX2_soft_22 : decode cX2_soft 22 = .ok (.aload_n 0, 1) := by decide +kernel
theorem dX2_soft_23 : decode cX2_soft 23 = .ok (.iload_n 1, 1) := by decide +kernel
theorem dX2_soft_24 : decode cX2_soft 24 = .ok (.invokevirtual 63, 3) := by decide +kernel
theorem dX2_soft_27 : decode cX2_soft 27 = .ok (.invokestatic 79, 3) := by decide +kernel
theorem dX2_soft_30 : decode cX2_soft 30 = .ok (.ireturn, 1) := by decide +kernel
theorem dX2_blow_0 : decode cX2_blow 0 = .ok (.iconst 0, 1) := by decide +kernel
theorem dX2_blow_1 : decode cX2_blow 1 = .ok (.bipush 99, 2) := by decide +kernel
theorem dX2_blow_3 : decode cX2_blow 3 = .ok (.iload_n 0, 1) := by decide +kernel
theorem dX2_blow_4 : decode cX2_blow 4 = .ok (.iload_n 1, 1) := by decide +kernel
theorem dX2_blow_5 : decode cX2_blow 5 = .ok (.isub, 1) := by decide +kernel
theorem dX2_blow_6 : decode cX2_blow 6 = .ok (.invokestatic 83, 3) := by decide +kernel
theorem dX2_blow_9 : decode cX2_blow 9 = .ok (.invokestatic 86, 3) := by decide +kernel
theorem dX2_blow_12 : decode cX2_blow 12 = .ok (.ireturn, 1) := by decide +kernel
theorem dX2_play_0 : decode cX2_play 0 = .ok (.iconst 0, 1) := by decide +kernel
theorem dX2_play_1 : decode cX2_play 1 = .ok (.istore_n 1, 1) := by decide +kernel
theorem dX2_play_2 : decode cX2_play 2 = .ok (.iconst 0, 1) := by decide +kernel
theorem dX2_play_3 : decode cX2_play 3 = .ok (.istore_n 2, 1) := by decide +kernel
theorem dX2_play_4 : decode cX2_play 4 = .ok (.iload_n 2, 1) := by decide +kernel
theorem dX2_play_5 : decode cX2_play 5 = .ok (.aload_n 0, 1) := by decide +kernel
theorem dX2_play_6 : decode cX2_play 6 = .ok (.getfield 43, 3) := by decide +kernel
theorem dX2_play_9 : decode cX2_play 9 = .ok (.if_icmp .ge 102, 3) := by decide +kernel
theorem dX2_play_12 : decode cX2_play 12 = .ok (.aload_n 0, 1) := by decide +kernel
theorem dX2_play_13 : decode cX2_play 13 = .ok (.getfield 21, 3) := by decide +kernel
theorem dX2_play_16 : decode cX2_play 16 = .ok (.iload_n 2, 1) := by decide +kernel
theorem dX2_play_17 : decode cX2_play 17 = .ok (.iaload, 1) := by decide +kernel
theorem dX2_play_18 : decode cX2_play 18 = .ok (.ifCond .le 19, 3) := by decide +kernel
theorem dX2_play_21 : decode cX2_play 21 = .ok (.aload_n 0, 1) := by decide +kernel
theorem dX2_play_22 : decode cX2_play 22 = .ok (.iload_n 2, 1) := by decide +kernel
theorem dX2_play_23 : decode cX2_play 23 = .ok (.invokevirtual 89, 3) := by decide +kernel
theorem dX2_play_26 : decode cX2_play 26 = .ok (.ifCond .eq 11, 3) := by decide +kernel
theorem dX2_play_29 : decode cX2_play 29 = .ok (.aload_n 0, 1) := by decide +kernel
theorem dX2_play_30 : decode cX2_play 30 = .ok (.iload_n 2, 1) := by decide +kernel
theorem dX2_play_31 : decode cX2_play 31 = .ok (.invokevirtual 92, 3) := by decide +kernel
theorem dX2_play_34 : decode cX2_play 34 = .ok (.goto 4, 3) := by decide +kernel
theorem dX2_play_37 : decode cX2_play 37 = .ok (.iconst (-1), 1) := by decide +kernel
theorem dX2_play_38 : decode cX2_play 38 = .ok (.istore_n 3, 1) := by decide +kernel
theorem dX2_play_39 : decode cX2_play 39 = .ok (.iload_n 3, 1) := by decide +kernel
theorem dX2_play_40 : decode cX2_play 40 = .ok (.iconst (-1), 1) := by decide +kernel
theorem dX2_play_41 : decode cX2_play 41 = .ok (.if_icmp .ne 6, 3) := by decide +kernel
theorem dX2_play_44 : decode cX2_play 44 = .ok (.goto 61, 3) := by decide +kernel
theorem dX2_play_47 : decode cX2_play 47 = .ok (.aload_n 0, 1) := by decide +kernel
theorem dX2_play_48 : decode cX2_play 48 = .ok (.iload_n 2, 1) := by decide +kernel
theorem dX2_play_49 : decode cX2_play 49 = .ok (.iload_n 3, 1) := by decide +kernel
theorem dX2_play_50 : decode cX2_play 50 = .ok (.invokevirtual 59, 3) := by decide +kernel
theorem dX2_play_53 : decode cX2_play 53 = .ok (.iconst 1, 1) := by decide +kernel
theorem dX2_play_54 : decode cX2_play 54 = .ok (.if_icmp .le 12, 3) := by decide +kernel
theorem dX2_play_57 : decode cX2_play 57 = .ok (.aload_n 0, 1) := by decide +kernel
theorem dX2_play_58 : decode cX2_play 58 = .ok (.iload_n 2, 1) := by decide +kernel
theorem dX2_play_59 : decode cX2_play 59 = .ok (.iload_n 3, 1) := by decide +kernel
theorem dX2_play_60 : decode cX2_play 60 = .ok (.invokevirtual 95, 3) := by decide +kernel
theorem dX2_play_63 : decode cX2_play 63 = .ok (.goto 42, 3) := by decide +kernel
theorem dX2_play_66 : decode cX2_play 66 = .ok (.aload_n 0, 1) := by decide +kernel
theorem dX2_play_67 : decode cX2_play 67 = .ok (.iload_n 2, 1) := by decide +kernel
theorem dX2_play_68 : decode cX2_play 68 = .ok (.iload_n 3, 1) := by decide +kernel
theorem dX2_play_69 : decode cX2_play 69 = .ok (.aload_n 0, 1) := by decide +kernel
theorem dX2_play_70 : decode cX2_play 70 = .ok (.iload_n 2, 1) := by decide +kernel
theorem dX2_play_71 : decode cX2_play 71 = .ok (.iload_n 3, 1) := by decide +kernel
theorem dX2_play_72 : decode cX2_play 72 = .ok (.invokevirtual 99, 3) := by decide +kernel
theorem dX2_play_75 : decode cX2_play 75 = .ok (.aload_n 0, 1) := by decide +kernel
theorem dX2_play_76 : decode cX2_play 76 = .ok (.iload_n 3, 1) := by decide +kernel
theorem dX2_play_77 : decode cX2_play 77 = .ok (.invokevirtual 101, 3) := by decide +kernel
theorem dX2_play_80 : decode cX2_play 80 = .ok (.invokestatic 103, 3) := by decide +kernel
theorem dX2_play_83 : decode cX2_play 83 = .ok (.invokevirtual 106, 3) := by decide +kernel
theorem dX2_play_86 : decode cX2_play 86 = .ok (.iload_n 1, 1) := by decide +kernel
theorem dX2_play_87 : decode cX2_play 87 = .ok (.aload_n 0, 1) := by decide +kernel
theorem dX2_play_88 : decode cX2_play 88 = .ok (.getfield 21, 3) := by decide +kernel
theorem dX2_play_91 : decode cX2_play 91 = .ok (.iload_n 3, 1) := by decide +kernel
theorem dX2_play_92 : decode cX2_play 92 = .ok (.iaload, 1) := by decide +kernel
theorem dX2_play_93 : decode cX2_play 93 = .ok (.ifCond .ne 9, 3) := by decide +kernel
theorem dX2_play_96 : decode cX2_play 96 = .ok (.iconst 1, 1) := by decide +kernel
theorem dX2_play_97 : decode cX2_play 97 = .ok (.iload_n 3, 1) := by decide +kernel
theorem dX2_play_98 : decode cX2_play 98 = .ok (.ishl, 1) := by decide +kernel
theorem dX2_play_99 : decode cX2_play 99 = .ok (.goto 4, 3) := by decide +kernel
theorem dX2_play_102 : decode cX2_play 102 = .ok (.iconst 0, 1) := by decide +kernel
theorem dX2_play_103 : decode cX2_play 103 = .ok (.ior, 1) := by decide +kernel
theorem dX2_play_104 : decode cX2_play 104 = .ok (.istore_n 1, 1) := by decide +kernel
theorem dX2_play_105 : decode cX2_play 105 = .ok (.iinc 2 1, 3) := by decide +kernel
theorem dX2_play_108 : decode cX2_play 108 = .ok (.goto (-104), 3) := by decide +kernel
theorem dX2_play_111 : decode cX2_play 111 = .ok (.aload_n 0, 1) := by decide +kernel
theorem dX2_play_112 : decode cX2_play 112 = .ok (.dup, 1) := by decide +kernel
theorem dX2_play_113 : decode cX2_play 113 = .ok (.getfield 47, 3) := by decide +kernel
theorem dX2_play_116 : decode cX2_play 116 = .ok (.iconst 1, 1) := by decide +kernel
theorem dX2_play_117 : decode cX2_play 117 = .ok (.iadd, 1) := by decide +kernel
theorem dX2_play_118 : decode cX2_play 118 = .ok (.putfield 47, 3) := by decide +kernel
theorem dX2_play_121 : decode cX2_play 121 = .ok (.iload_n 1, 1) := by decide +kernel
theorem dX2_play_122 : decode cX2_play 122 = .ok (.ireturn, 1) := by decide +kernel
theorem dX2_step_0 : decode cX2_step 0 = .ok (.aload_n 0, 1) := by decide +kernel
theorem dX2_step_1 : decode cX2_step 1 = .ok (.getfield 18, 3) := by decide +kernel
theorem dX2_step_4 : decode cX2_step 4 = .ok (.iload_n 2, 1) := by decide +kernel
theorem dX2_step_5 : decode cX2_step 5 = .ok (.iaload, 1) := by decide +kernel
theorem dX2_step_6 : decode cX2_step 6 = .ok (.bipush 8, 2) := by decide +kernel
theorem dX2_step_8 : decode cX2_step 8 = .ok (.idiv, 1) := by decide +kernel
theorem dX2_step_9 : decode cX2_step 9 = .ok (.aload_n 0, 1) := by decide +kernel
theorem dX2_step_10 : decode cX2_step 10 = .ok (.getfield 18, 3) := by decide +kernel
theorem dX2_step_13 : decode cX2_step 13 = .ok (.iload_n 1, 1) := by decide +kernel
theorem dX2_step_14 : decode cX2_step 14 = .ok (.iaload, 1) := by decide +kernel
theorem dX2_step_15 : decode cX2_step 15 = .ok (.bipush 8, 2) := by decide +kernel
theorem dX2_step_17 : decode cX2_step 17 = .ok (.idiv, 1) := by decide +kernel
theorem dX2_step_18 : decode cX2_step 18 = .ok (.isub, 1) := by decide +kernel
theorem dX2_step_19 : decode cX2_step 19 = .ok (.istore_n 3, 1) := by decide +kernel
theorem dX2_step_20 : decode cX2_step 20 = .ok (.aload_n 0, 1) := by decide +kernel
theorem dX2_step_21 : decode cX2_step 21 = .ok (.getfield 18, 3) := by decide +kernel
theorem dX2_step_24 : decode cX2_step 24 = .ok (.iload_n 2, 1) := by decide +kernel
theorem dX2_step_25 : decode cX2_step 25 = .ok (.iaload, 1) := by decide +kernel
theorem dX2_step_26 : decode cX2_step 26 = .ok (.bipush 8, 2) := by decide +kernel
theorem dX2_step_28 : decode cX2_step 28 = .ok (.irem, 1) := by decide +kernel
theorem dX2_step_29 : decode cX2_step 29 = .ok (.aload_n 0, 1) := by decide +kernel
theorem dX2_step_30 : decode cX2_step 30 = .ok (.getfield 18, 3) := by decide +kernel
theorem dX2_step_33 : decode cX2_step 33 = .ok (.iload_n 1, 1) := by decide +kernel
theorem dX2_step_34 : decode cX2_step 34 = .ok (.iaload, 1) := by decide +kernel
theorem dX2_step_35 : decode cX2_step 35 = .ok (.bipush 8, 2) := by decide +kernel
theorem dX2_step_37 : decode cX2_step 37 = .ok (.irem, 1) := by decide +kernel
theorem dX2_step_38 : decode cX2_step 38 = .ok (.isub, 1) := by decide +kernel
theorem dX2_step_39 : decode cX2_step 39 = .ok (.istore 4, 2) := by decide +kernel
theorem dX2_step_41 : decode cX2_step 41 = .ok (.iload_n 3, 1) := by decide +kernel
theorem dX2_step_42 : decode cX2_step 42 = .ok (.ifCond .eq 26, 3) := by decide +kernel
theorem dX2_step_45 : decode cX2_step 45 = .ok (.aload_n 0, 1) := by decide +kernel
theorem dX2_step_46 : decode cX2_step 46 = .ok (.getfield 18, 3) := by decide +kernel
theorem dX2_step_49 : decode cX2_step 49 = .ok (.iload_n 1, 1) := by decide +kernel
theorem dX2_step_50 : decode cX2_step 50 = .ok (.dup2, 1) := by decide +kernel
theorem dX2_step_51 : decode cX2_step 51 = .ok (.iaload, 1) := by decide +kernel
theorem dX2_step_52 : decode cX2_step 52 = .ok (.iload_n 3, 1) := by decide +kernel
theorem dX2_step_53 : decode cX2_step 53 = .ok (.ifCond .le 8, 3) := by decide +kernel
theorem dX2_step_56 : decode cX2_step 56 = .ok (.bipush 8, 2) := by decide +kernel
theorem dX2_step_58 : decode cX2_step 58 = .ok (.goto 5, 3) := by decide +kernel
theorem dX2_step_61 : decode cX2_step 61 = .ok (.bipush (-8), 2) := by decide +kernel
theorem dX2_step_63 : decode cX2_step 63 = .ok (.iadd, 1) := by decide +kernel
theorem dX2_step_64 : decode cX2_step 64 = .ok (.iastore, 1) := by decide +kernel
theorem dX2_step_65 : decode cX2_step 65 = .ok (.goto 22, 3) := by decide +kernel
theorem dX2_step_68 : decode cX2_step 68 = .ok (.aload_n 0, 1) := by decide +kernel
theorem dX2_step_69 : decode cX2_step 69 = .ok (.getfield 18, 3) := by decide +kernel
theorem dX2_step_72 : decode cX2_step 72 = .ok (.iload_n 1, 1) := by decide +kernel
theorem dX2_step_73 : decode cX2_step 73 = .ok (.dup2, 1) := by decide +kernel
theorem dX2_step_74 : decode cX2_step 74 = .ok (.iaload, 1) := by decide +kernel
theorem dX2_step_75 : decode cX2_step 75 = .ok (.iload 4, 2) := by decide +kernel
theorem dX2_step_77 : decode cX2_step 77 = .ok (.ifCond .le 7, 3) := by decide +kernel
theorem dX2_step_80 : decode cX2_step 80 = .ok (.iconst 1, 1) := by decide +kernel
theorem dX2_step_81 : decode cX2_step 81 = .ok (.goto 4, 3) := by decide +kernel
theorem dX2_step_84 : decode cX2_step 84 = .ok (.iconst (-1), 1) := by decide +kernel
theorem dX2_step_85 : decode cX2_step 85 = .ok (.iadd, 1) := by decide +kernel
theorem dX2_step_86 : decode cX2_step 86 = .ok (.iastore, 1) := by decide +kernel
theorem dX2_step_87 : decode cX2_step 87 = .ok (.return_, 1) := by decide +kernel
theorem dX2_land_0 : decode cX2_land 0 = .ok (.aload_n 0, 1) := by decide +kernel
theorem dX2_land_1 : decode cX2_land 1 = .ok (.getfield 21, 3) := by decide +kernel
theorem dX2_land_4 : decode cX2_land 4 = .ok (.iload_n 2, 1) := by decide +kernel
theorem dX2_land_5 : decode cX2_land 5 = .ok (.iconst 0, 1) := by decide +kernel
theorem dX2_land_6 : decode cX2_land 6 = .ok (.aload_n 0, 1) := by decide +kernel
theorem dX2_land_7 : decode cX2_land 7 = .ok (.getfield 21, 3) := by decide +kernel
theorem dX2_land_10 : decode cX2_land 10 = .ok (.iload_n 2, 1) := by decide +kernel
theorem dX2_land_11 : decode cX2_land 11 = .ok (.iaload, 1) := by decide +kernel
theorem dX2_land_12 : decode cX2_land 12 = .ok (.iload_n 3, 1) := by decide +kernel
theorem dX2_land_13 : decode cX2_land 13 = .ok (.isub, 1) := by decide +kernel
theorem dX2_land_14 : decode cX2_land 14 = .ok (.invokestatic 86, 3) := by decide +kernel
theorem dX2_land_17 : decode cX2_land 17 = .ok (.iastore, 1) := by decide +kernel
theorem dX2_land_18 : decode cX2_land 18 = .ok (.aload_n 0, 1) := by decide +kernel
theorem dX2_land_19 : decode cX2_land 19 = .ok (.getfield 27, 3) := by decide +kernel
theorem dX2_land_22 : decode cX2_land 22 = .ok (.iload_n 2, 1) := by decide +kernel
theorem dX2_land_23 : decode cX2_land 23 = .ok (.bipush 99, 2) := by decide +kernel
theorem dX2_land_25 : decode cX2_land 25 = .ok (.aload_n 0, 1) := by decide +kernel
theorem dX2_land_26 : decode cX2_land 26 = .ok (.getfield 27, 3) := by decide +kernel
theorem dX2_land_29 : decode cX2_land 29 = .ok (.iload_n 2, 1) := by decide +kernel
theorem dX2_land_30 : decode cX2_land 30 = .ok (.iaload, 1) := by decide +kernel
theorem dX2_land_31 : decode cX2_land 31 = .ok (.iconst 1, 1) := by decide +kernel
theorem dX2_land_32 : decode cX2_land 32 = .ok (.iadd, 1) := by decide +kernel
theorem dX2_land_33 : decode cX2_land 33 = .ok (.invokestatic 83, 3) := by decide +kernel
theorem dX2_land_36 : decode cX2_land 36 = .ok (.iastore, 1) := by decide +kernel
theorem dX2_land_37 : decode cX2_land 37 = .ok (.aload_n 0, 1) := by decide +kernel
theorem dX2_land_38 : decode cX2_land 38 = .ok (.getfield 30, 3) := by decide +kernel
theorem dX2_land_41 : decode cX2_land 41 = .ok (.iload_n 1, 1) := by decide +kernel
theorem dX2_land_42 : decode cX2_land 42 = .ok (.bipush 6, 2) := by decide +kernel
theorem dX2_land_44 : decode cX2_land 44 = .ok (.imul, 1) := by decide +kernel
theorem dX2_land_45 : decode cX2_land 45 = .ok (.iload_n 2, 1) := by decide +kernel
theorem dX2_land_46 : decode cX2_land 46 = .ok (.iadd, 1) := by decide +kernel
theorem dX2_land_47 : decode cX2_land 47 = .ok (.bipush 99, 2) := by decide +kernel
theorem dX2_land_49 : decode cX2_land 49 = .ok (.aload_n 0, 1) := by decide +kernel
theorem dX2_land_50 : decode cX2_land 50 = .ok (.getfield 30, 3) := by decide +kernel
theorem dX2_land_53 : decode cX2_land 53 = .ok (.iload_n 1, 1) := by decide +kernel
theorem dX2_land_54 : decode cX2_land 54 = .ok (.bipush 6, 2) := by decide +kernel
theorem dX2_land_56 : decode cX2_land 56 = .ok (.imul, 1) := by decide +kernel
theorem dX2_land_57 : decode cX2_land 57 = .ok (.iload_n 2, 1) := by decide +kernel
theorem dX2_land_58 : decode cX2_land 58 = .ok (.iadd, 1) := by decide +kernel
theorem dX2_land_59 : decode cX2_land 59 = .ok (.iaload, 1) := by decide +kernel
theorem dX2_land_60 : decode cX2_land 60 = .ok (.iconst 1, 1) := by decide +kernel
theorem dX2_land_61 : decode cX2_land 61 = .ok (.iadd, 1) := by decide +kernel
theorem dX2_land_62 : decode cX2_land 62 = .ok (.invokestatic 83, 3) := by decide +kernel
theorem dX2_land_65 : decode cX2_land 65 = .ok (.iastore, 1) := by decide +kernel
theorem dX2_land_66 : decode cX2_land 66 = .ok (.aload_n 0, 1) := by decide +kernel
theorem dX2_land_67 : decode cX2_land 67 = .ok (.getfield 24, 3) := by decide +kernel
theorem dX2_land_70 : decode cX2_land 70 = .ok (.iload_n 1, 1) := by decide +kernel
theorem dX2_land_71 : decode cX2_land 71 = .ok (.bipush 99, 2) := by decide +kernel
theorem dX2_land_73 : decode cX2_land 73 = .ok (.aload_n 0, 1) := by decide +kernel
theorem dX2_land_74 : decode cX2_land 74 = .ok (.getfield 24, 3) := by decide +kernel
theorem dX2_land_77 : decode cX2_land 77 = .ok (.iload_n 1, 1) := by decide +kernel
theorem dX2_land_78 : decode cX2_land 78 = .ok (.iaload, 1) := by decide +kernel
theorem dX2_land_79 : decode cX2_land 79 = .ok (.iconst 1, 1) := by decide +kernel
theorem dX2_land_80 : decode cX2_land 80 = .ok (.iadd, 1) := by decide +kernel
theorem dX2_land_81 : decode cX2_land 81 = .ok (.invokestatic 83, 3) := by decide +kernel
theorem dX2_land_84 : decode cX2_land 84 = .ok (.iastore, 1) := by decide +kernel
theorem dX2_land_85 : decode cX2_land 85 = .ok (.return_, 1) := by decide +kernel
theorem dX3_init_0 : decode cX3_init 0 = .ok (.aload_n 0, 1) := by decide +kernel
theorem dX3_init_1 : decode cX3_init 1 = .ok (.invokespecial 3, 3) := by decide +kernel
theorem dX3_init_4 : decode cX3_init 4 = .ok (.aload_n 0, 1) := by decide +kernel
theorem dX3_init_5 : decode cX3_init 5 = .ok (.bipush 40, 2) := by decide +kernel
theorem dX3_init_7 : decode cX3_init 7 = .ok (.newarray .int, 2) := by decide +kernel
theorem dX3_init_9 : decode cX3_init 9 = .ok (.putfield 9, 3) := by decide +kernel
theorem dX3_init_12 : decode cX3_init 12 = .ok (.aload_n 0, 1) := by decide +kernel
theorem dX3_init_13 : decode cX3_init 13 = .ok (.iconst (-1), 1) := by decide +kernel
theorem dX3_init_14 : decode cX3_init 14 = .ok (.putfield 15, 3) := by decide +kernel
theorem dX3_init_17 : decode cX3_init 17 = .ok (.return_, 1) := by decide +kernel
theorem dX3_isMissing_0 : decode cX3_isMissing 0 = .ok (.aload_n 0, 1) := by decide +kernel
theorem dX3_isMissing_1 : decode cX3_isMissing 1 = .ok (.getfield 15, 3) := by decide +kernel
theorem dX3_isMissing_4 : decode cX3_isMissing 4 = .ok (.iconst (-1), 1) := by decide +kernel
theorem dX3_isMissing_5 : decode cX3_isMissing 5 = .ok (.if_icmp .ne 7, 3) := by decide +kernel
theorem dX3_isMissing_8 : decode cX3_isMissing 8 = .ok (.iconst 1, 1) := by decide +kernel
theorem dX3_isMissing_9 : decode cX3_isMissing 9 = .ok (.goto 4, 3) := by decide +kernel
theorem dX3_isMissing_12 : decode cX3_isMissing 12 = .ok (.iconst 0, 1) := by decide +kernel
theorem dX3_isMissing_13 : decode cX3_isMissing 13 = .ok (.ireturn, 1) := by decide +kernel
theorem dX3_become_0 : decode cX3_become 0 = .ok (.aload_n 0, 1) := by decide +kernel
theorem dX3_become_1 : decode cX3_become 1 = .ok (.iload_n 1, 1) := by decide +kernel
theorem dX3_become_2 : decode cX3_become 2 = .ok (.putfield 15, 3) := by decide +kernel
theorem dX3_become_5 : decode cX3_become 5 = .ok (.aload_n 0, 1) := by decide +kernel
theorem dX3_become_6 : decode cX3_become 6 = .ok (.iload_n 2, 1) := by decide +kernel
theorem dX3_become_7 : decode cX3_become 7 = .ok (.putfield 19, 3) := by decide +kernel
theorem dX3_become_10 : decode cX3_become 10 = .ok (.aload_n 0, 1) := by decide +kernel
theorem dX3_become_11 : decode cX3_become 11 = .ok (.getfield 9, 3) := by decide +kernel
theorem dX3_become_14 : decode cX3_become 14 = .ok (.iconst 0, 1) := by decide +kernel
theorem dX3_become_15 : decode cX3_become 15 = .ok (.invokestatic 22, 3) := by decide +kernel
theorem dX3_become_18 : decode cX3_become 18 = .ok (.return_, 1) := by decide +kernel
theorem dX3_write_0 : decode cX3_write 0 = .ok (.aload_n 0, 1) := by decide +kernel
theorem dX3_write_1 : decode cX3_write 1 = .ok (.getfield 9, 3) := by decide +kernel
theorem dX3_write_4 : decode cX3_write 4 = .ok (.iload_n 1, 1) := by decide +kernel
theorem dX3_write_5 : decode cX3_write 5 = .ok (.aload_n 0, 1) := by decide +kernel
theorem dX3_write_6 : decode cX3_write 6 = .ok (.getfield 15, 3) := by decide +kernel
theorem dX3_write_9 : decode cX3_write 9 = .ok (.ifCond .ne 8, 3) := by decide +kernel
theorem dX3_write_12 : decode cX3_write 12 = .ok (.iload_n 2, 1) := by decide +kernel
theorem dX3_write_13 : decode cX3_write 13 = .ok (.i2b, 1) := by decide +kernel
theorem dX3_write_14 : decode cX3_write 14 = .ok (.goto 17, 3) := by decide +kernel
theorem dX3_write_17 : decode cX3_write 17 = .ok (.aload_n 0, 1) := by decide +kernel
theorem dX3_write_18 : decode cX3_write 18 = .ok (.getfield 15, 3) := by decide +kernel
theorem dX3_write_21 : decode cX3_write 21 = .ok (.iconst 1, 1) := by decide +kernel
theorem dX3_write_22 : decode cX3_write 22 = .ok (.if_icmp .ne 8, 3) := by decide +kernel
theorem dX3_write_25 : decode cX3_write 25 = .ok (.iload_n 2, 1) := by decide +kernel
theorem dX3_write_26 : decode cX3_write 26 = .ok (.i2s, 1) := by decide +kernel
theorem dX3_write_27 : decode cX3_write 27 = .ok (.goto 4, 3) := by decide +kernel
theorem dX3_write_30 : decode cX3_write 30 = .ok (.iload_n 2, 1) := by decide +kernel
theorem dX3_write_31 : decode cX3_write 31 = .ok (.iastore, 1) := by decide +kernel
theorem dX3_write_32 : decode cX3_write 32 = .ok (.return_, 1) := by decide +kernel
theorem dX4_init_0 : decode cX4_init 0 = .ok (.aload_n 0, 1) := by decide +kernel
theorem dX4_init_1 : decode cX4_init 1 = .ok (.invokespecial 3, 3) := by decide +kernel
theorem dX4_init_4 : decode cX4_init 4 = .ok (.aload_n 0, 1) := by decide +kernel
theorem dX4_init_5 : decode cX4_init 5 = .ok (.sipush 160, 3) := by decide +kernel
theorem dX4_init_8 : decode cX4_init 8 = .ok (.newarray .int, 2) := by decide +kernel
theorem dX4_init_10 : decode cX4_init 10 = .ok (.putfield 9, 3) := by decide +kernel
theorem dX4_init_13 : decode cX4_init 13 = .ok (.aload_n 0, 1) := by decide +kernel
theorem dX4_init_14 : decode cX4_init 14 = .ok (.iconst 3, 1) := by decide +kernel
theorem dX4_init_15 : decode cX4_init 15 = .ok (.newarray .int, 2) := by decide +kernel
theorem dX4_init_17 : decode cX4_init 17 = .ok (.putfield 15, 3) := by decide +kernel
theorem dX4_init_20 : decode cX4_init 20 = .ok (.aload_n 0, 1) := by decide +kernel
theorem dX4_init_21 : decode cX4_init 21 = .ok (.aload_n 1, 1) := by decide +kernel
theorem dX4_init_22 : decode cX4_init 22 = .ok (.putfield 18, 3) := by decide +kernel
theorem dX4_init_25 : decode cX4_init 25 = .ok (.return_, 1) := by decide +kernel
theorem dX4_clear_0 : decode cX4_clear 0 = .ok (.aload_n 0, 1) := by decide +kernel
theorem dX4_clear_1 : decode cX4_clear 1 = .ok (.iconst 0, 1) := by decide +kernel
theorem dX4_clear_2 : decode cX4_clear 2 = .ok (.putfield 21, 3) := by decide +kernel
theorem dX4_clear_5 : decode cX4_clear 5 = .ok (.return_, 1) := by decide +kernel
theorem dX4_write_0 : decode cX4_write 0 = .ok (.aload_n 0, 1) := by decide +kernel
theorem dX4_write_1 : decode cX4_write 1 = .ok (.getfield 21, 3) := by decide +kernel
theorem dX4_write_4 : decode cX4_write 4 = .ok (.aload_n 0, 1) := by decide +kernel
theorem dX4_write_5 : decode cX4_write 5 = .ok (.getfield 9, 3) := by decide +kernel
theorem dX4_write_8 : decode cX4_write 8 = .ok (.arraylength, 1) := by decide +kernel
theorem dX4_write_9 : decode cX4_write 9 = .ok (.if_icmp .ge 23, 3) := by decide +kernel
theorem dX4_write_12 : decode cX4_write 12 = .ok (.aload_n 0, 1) := by decide +kernel
theorem dX4_write_13 : decode cX4_write 13 = .ok (.getfield 9, 3) := by decide +kernel
theorem dX4_write_16 : decode cX4_write 16 = .ok (.aload_n 0, 1) := by decide +kernel
theorem dX4_write_17 : decode cX4_write 17 = .ok (.getfield 21, 3) := by decide +kernel
theorem dX4_write_20 : decode cX4_write 20 = .ok (.iload_n 1, 1) := by decide +kernel
theorem dX4_write_21 : decode cX4_write 21 = .ok (.iastore, 1) := by decide +kernel
theorem dX4_write_22 : decode cX4_write 22 = .ok (.aload_n 0, 1) := by decide +kernel
theorem dX4_write_23 : decode cX4_write 23 = .ok (.dup, 1) := by decide +kernel
theorem dX4_write_24 : decode cX4_write 24 = .ok (.getfield 21, 3) := by decide +kernel
theorem dX4_write_27 : decode cX4_write 27 = .ok (.iconst 1, 1) := by decide +kernel
theorem dX4_write_28 : decode cX4_write 28 = .ok (.iadd, 1) := by decide +kernel
theorem dX4_write_29 : decode cX4_write 29 = .ok (.putfield 21, 3) := by decide +kernel
theorem dX4_write_32 : decode cX4_write 32 = .ok (.return_, 1) := by decide +kernel
theorem dX4_endPart_0 : decode cX4_endPart 0 = .ok (.aload_n 0, 1) := by decide +kernel
theorem dX4_endPart_1 : decode cX4_endPart 1 = .ok (.getfield 15, 3) := by decide +kernel
theorem dX4_endPart_4 : decode cX4_endPart 4 = .ok (.iload_n 1, 1) := by decide +kernel
theorem dX4_endPart_5 : decode cX4_endPart 5 = .ok (.aload_n 0, 1) := by decide +kernel
theorem dX4_endPart_6 : decode cX4_endPart 6 = .ok (.getfield 21, 3) := by decide +kernel
theorem dX4_endPart_9 : decode cX4_endPart 9 = .ok (.iastore, 1) := by decide +kernel
theorem dX4_endPart_10 : decode cX4_endPart 10 = .ok (.return_, 1) := by decide +kernel
theorem dX4_says_0 : decode cX4_says 0 = .ok (.iconst 0, 1) := by decide +kernel
theorem dX4_says_1 : decode cX4_says 1 = .ok (.istore 4, 2) := by decide +kernel
theorem dX4_says_3 : decode cX4_says 3 = .ok (.iload_n 1, 1) := by decide +kernel
theorem dX4_says_4 : decode cX4_says 4 = .ok (.ifCond .ne 7, 3) := by decide +kernel
theorem dX4_says_7 : decode cX4_says 7 = .ok (.iconst 0, 1) := by decide +kernel
theorem dX4_says_8 : decode cX4_says 8 = .ok (.goto 11, 3) := by decide +kernel
theorem dX4_says_11 : decode cX4_says 11 = .ok (.aload_n 0, 1) := by decide +kernel
theorem dX4_says_12 : decode cX4_says 12 = .ok (.getfield 15, 3) := by decide +kernel
theorem dX4_says_15 : decode cX4_says 15 = .ok (.iload_n 1, 1) := by decide +kernel
theorem dX4_says_16 : decode cX4_says 16 = .ok (.iconst 1, 1) := by decide +kernel
theorem dX4_says_17 : decode cX4_says 17 = .ok (.isub, 1) := by decide +kernel
theorem dX4_says_18 : decode cX4_says 18 = .ok (.iaload, 1) := by decide +kernel
theorem dX4_says_19 : decode cX4_says 19 = .ok (.istore 5, 2) := by decide +kernel
theorem dX4_says_21 : decode cX4_says 21 = .ok (.iload 5, 2) := by decide +kernel
theorem dX4_says_23 : decode cX4_says 23 = .ok (.aload_n 0, 1) := by decide +kernel
theorem dX4_says_24 : decode cX4_says 24 = .ok (.getfield 15, 3) := by decide +kernel
theorem dX4_says_27 : decode cX4_says 27 = .ok (.iload_n 1, 1) := by decide +kernel
theorem dX4_says_28 : decode cX4_says 28 = .ok (.iaload, 1) := by decide +kernel
theorem dX4_says_29 : decode cX4_says 29 = .ok (.if_icmp .ge 197, 3) := by decide +kernel
theorem dX4_says_32 : decode cX4_says 32 = .ok (.aload_n 0, 1) := by decide +kernel
theorem dX4_says_33 : decode cX4_says 33 = .ok (.getfield 9, 3) := by decide +kernel
theorem dX4_says_36 : decode cX4_says 36 = .ok (.iload 5, 2) := by decide +kernel
theorem dX4_says_38 : decode cX4_says 38 = .ok (.iaload, 1) := by decide +kernel
theorem dX4_says_39 : decode cX4_says 39 = .ok (.istore 6, 2) := by decide +kernel
theorem dX4_says_41 : decode cX4_says 41 = .ok (.iload 6, 2) := by decide +kernel
theorem dX4_says_43 : decode cX4_says 43 = .ok (.ifCond .lt 7, 3) := by decide +kernel
theorem dX4_says_46 : decode cX4_says 46 = .ok (.iconst 1, 1) := by decide +kernel
theorem dX4_says_47 : decode cX4_says 47 = .ok (.goto 4, 3) := by decide +kernel
theorem dX4_says_50 : decode cX4_says 50 = .ok (.iconst 0, 1) := by decide +kernel
theorem dX4_says_51 : decode cX4_says 51 = .ok (.istore 7, 2) := by decide +kernel
theorem dX4_says_53 : decode cX4_says 53 = .ok (.iload 7, 2) := by decide +kernel
theorem dX4_says_55 : decode cX4_says 55 = .ok (.ifCond .ne 11, 3) := by decide +kernel
theorem dX4_says_58 : decode cX4_says 58 = .ok (.iload 6, 2) := by decide +kernel
theorem dX4_says_60 : decode cX4_says 60 = .ok (.invokestatic 25, 3) := by decide +kernel
theorem dX4_says_63 : decode cX4_says 63 = .ok (.ifCond .eq 43, 3) := by decide +kernel
theorem dX4_says_66 : decode cX4_says 66 = .ok (.iload 4, 2) := by decide +kernel
theorem dX4_says_68 : decode cX4_says 68 = .ok (.aload_n 0, 1) := by decide +kernel
theorem dX4_says_69 : decode cX4_says 69 = .ok (.getfield 18, 3) := by decide +kernel
theorem dX4_says_72 : decode cX4_says 72 = .ok (.arraylength, 1) := by decide +kernel
theorem dX4_says_73 : decode cX4_says 73 = .ok (.if_icmp .ge 33, 3) := by decide +kernel
theorem dX4_says_76 : decode cX4_says 76 = .ok (.aload_n 0, 1) := by decide +kernel
theorem dX4_says_77 : decode cX4_says 77 = .ok (.getfield 18, 3) := by decide +kernel
theorem dX4_says_80 : decode cX4_says 80 = .ok (.iload 4, 2) := by decide +kernel
theorem dX4_says_82 : decode cX4_says 82 = .ok (.iload 7, 2) := by decide +kernel
theorem dX4_says_84 : decode cX4_says 84 = .ok (.ifCond .eq 8, 3) := by decide +kernel
theorem dX4_says_87 : decode cX4_says 87 = .ok (.iload 6, 2) := by decide +kernel
theorem dX4_says_89 : decode cX4_says 89 = .ok (.goto 10, 3) := by decide +kernel
theorem dX4_says_92 : decode cX4_says 92 = .ok (.iload 6, 2) := by decide +kernel
theorem dX4_says_94 : decode cX4_says 94 = .ok (.aload_n 2, 1) := by decide +kernel
theorem dX4_says_95 : decode cX4_says 95 = .ok (.iload_n 3, 1) := by decide +kernel
theorem dX4_says_96 : decode cX4_says 96 = .ok (.invokestatic 31, 3) := by decide +kernel
theorem dX4_says_99 : decode cX4_says 99 = .ok (.iastore, 1) := by decide +kernel
theorem dX4_says_100 : decode cX4_says 100 = .ok (.iinc 4 1, 3) := by decide +kernel
theorem dX4_says_103 : decode cX4_says 103 = .ok (.goto 117, 3) := by decide +kernel
theorem dX4_says_106 : decode cX4_says 106 = .ok (.iload 6, 2) := by decide +kernel
theorem dX4_says_108 : decode cX4_says 108 = .ok (.bipush (-8), 2) := by decide +kernel
theorem dX4_says_110 : decode cX4_says 110 = .ok (.if_icmp .ne 37, 3) := by decide +kernel
theorem dX4_says_113 : decode cX4_says 113 = .ok (.iload 4, 2) := by decide +kernel
theorem dX4_says_115 : decode cX4_says 115 = .ok (.ifCond .le 32, 3) := by decide +kernel
theorem dX4_says_118 : decode cX4_says 118 = .ok (.aload_n 0, 1) := by decide +kernel
theorem dX4_says_119 : decode cX4_says 119 = .ok (.getfield 18, 3) := by decide +kernel
theorem dX4_says_122 : decode cX4_says 122 = .ok (.iload 4, 2) := by decide +kernel
theorem dX4_says_124 : decode cX4_says 124 = .ok (.iconst 1, 1) := by decide +kernel
theorem dX4_says_125 : decode cX4_says 125 = .ok (.isub, 1) := by decide +kernel
theorem dX4_says_126 : decode cX4_says 126 = .ok (.aload_n 0, 1) := by decide +kernel
theorem dX4_says_127 : decode cX4_says 127 = .ok (.getfield 18, 3) := by decide +kernel
theorem dX4_says_130 : decode cX4_says 130 = .ok (.iload 4, 2) := by decide +kernel
theorem dX4_says_132 : decode cX4_says 132 = .ok (.iconst 1, 1) := by decide +kernel
theorem dX4_says_133 : decode cX4_says 133 = .ok (.isub, 1) := by decide +kernel
theorem dX4_says_134 : decode cX4_says 134 = .ok (.iaload, 1) := by decide +kernel
theorem dX4_says_135 : decode cX4_says 135 = .ok (.ifCond .ne 7, 3) := by decide +kernel
theorem dX4_says_138 : decode cX4_says 138 = .ok (.iconst 1, 1) := by decide +kernel
theorem dX4_says_139 : decode cX4_says 139 = .ok (.goto 4, 3) := by decide +kernel
theorem dX4_says_142 : decode cX4_says 142 = .ok (.iconst 0, 1) := by decide +kernel
theorem dX4_says_143 : decode cX4_says 143 = .ok (.iastore, 1) := by decide +kernel
theorem dX4_says_144 : decode cX4_says 144 = .ok (.goto 76, 3) := by decide +kernel
theorem dX4_says_147 : decode cX4_says 147 = .ok (.iload 6, 2) := by decide +kernel
theorem dX4_says_149 : decode cX4_says 149 = .ok (.bipush (-23), 2) := by decide +kernel
theorem dX4_says_151 : decode cX4_says 151 = .ok (.if_icmp .ne 30, 3) := by decide +kernel
theorem dX4_says_154 : decode cX4_says 154 = .ok (.iload 4, 2) := by decide +kernel
theorem dX4_says_156 : decode cX4_says 156 = .ok (.ifCond .le 25, 3) := by decide +kernel
theorem dX4_says_159 : decode cX4_says 159 = .ok (.aload_n 0, 1) := by decide +kernel
theorem dX4_says_160 : decode cX4_says 160 = .ok (.getfield 18, 3) := by decide +kernel
theorem dX4_says_163 : decode cX4_says 163 = .ok (.iload 4, 2) := by decide +kernel
theorem dX4_says_165 : decode cX4_says 165 = .ok (.iconst 1, 1) := by decide +kernel
theorem dX4_says_166 : decode cX4_says 166 = .ok (.isub, 1) := by decide +kernel
theorem dX4_says_167 : decode cX4_says 167 = .ok (.aload_n 0, 1) := by decide +kernel
theorem dX4_says_168 : decode cX4_says 168 = .ok (.getfield 18, 3) := by decide +kernel
theorem dX4_says_171 : decode cX4_says 171 = .ok (.iload 4, 2) := by decide +kernel
theorem dX4_says_173 : decode cX4_says 173 = .ok (.iconst 1, 1) := by decide +kernel
theorem dX4_says_174 : decode cX4_says 174 = .ok (.isub, 1) := by decide +kernel
theorem dX4_says_175 : decode cX4_says 175 = .ok (.iaload, 1) := by decide +kernel
theorem dX4_says_176 : decode cX4_says 176 = .ok (.ineg, 1) := by decide +kernel
theorem dX4_says_177 : decode cX4_says 177 = .ok (.iastore, 1) := by decide +kernel
theorem dX4_says_178 : decode cX4_says 178 = .ok (.goto 42, 3) := by decide +kernel
theorem dX4_says_181 : decode cX4_says 181 = .ok (.iload 4, 2) := by decide +kernel
theorem dX4_says_183 : decode cX4_says 183 = .ok (.iconst 1, 1) := by decide +kernel
theorem dX4_says_184 : decode cX4_says 184 = .ok (.if_icmp .le 36, 3) := by decide +kernel
theorem dX4_says_187 : decode cX4_says 187 = .ok (.iinc 4 (-1), 3) := by decide +kernel
theorem dX4_says_190 : decode cX4_says 190 = .ok (.aload_n 0, 1) := by decide +kernel
theorem dX4_says_191 : decode cX4_says 191 = .ok (.getfield 18, 3) := by decide +kernel
theorem dX4_says_194 : decode cX4_says 194 = .ok (.iload 4, 2) := by decide +kernel
theorem dX4_says_196 : decode cX4_says 196 = .ok (.iconst 1, 1) := by decide +kernel
theorem dX4_says_197 : decode cX4_says 197 = .ok (.isub, 1) := by decide +kernel
theorem dX4_says_198 : decode cX4_says 198 = .ok (.iload 6, 2) := by decide +kernel
theorem dX4_says_200 : decode cX4_says 200 = .ok (.aload_n 0, 1) := by decide +kernel
theorem dX4_says_201 : decode cX4_says 201 = .ok (.getfield 18, 3) := by decide +kernel
theorem dX4_says_204 : decode cX4_says 204 = .ok (.iload 4, 2) := by decide +kernel
theorem dX4_says_206 : decode cX4_says 206 = .ok (.iconst 1, 1) := by decide +kernel
theorem dX4_says_207 : decode cX4_says 207 = .ok (.isub, 1) := by decide +kernel
theorem dX4_says_208 : decode cX4_says 208 = .ok (.iaload, 1) := by decide +kernel
theorem dX4_says_209 : decode cX4_says 209 = .ok (.aload_n 0, 1) := by decide +kernel
theorem dX4_says_210 : decode cX4_says 210 = .ok (.getfield 18, 3) := by decide +kernel
theorem dX4_says_213 : decode cX4_says 213 = .ok (.iload 4, 2) := by decide +kernel
theorem dX4_says_215 : decode cX4_says 215 = .ok (.iaload, 1) := by decide +kernel
theorem dX4_says_216 : decode cX4_says 216 = .ok (.invokestatic 35, 3) := by decide +kernel
theorem dX4_says_219 : decode cX4_says 219 = .ok (.iastore, 1) := by decide +kernel
theorem dX4_says_220 : decode cX4_says 220 = .ok (.iinc 5 1, 3) := by decide +kernel
theorem dX4_says_223 : decode cX4_says 223 = .ok (.goto (-202), 3) := by decide +kernel
theorem dX4_says_226 : decode cX4_says 226 = .ok (.iload_n 1, 1) := by decide +kernel
theorem dX4_says_227 : decode cX4_says 227 = .ok (.iconst 2, 1) := by decide +kernel
theorem dX4_says_228 : decode cX4_says 228 = .ok (.if_icmp .ne 8, 3) := by decide +kernel
theorem dX4_says_231 : decode cX4_says 231 = .ok (.bipush (-99), 2) := by decide +kernel
theorem dX4_says_233 : decode cX4_says 233 = .ok (.goto 4, 3) := by decide +kernel
theorem dX4_says_236 : decode cX4_says 236 = .ok (.iconst 0, 1) := by decide +kernel
theorem dX4_says_237 : decode cX4_says 237 = .ok (.bipush 99, 2) := by decide +kernel
theorem dX4_says_239 : decode cX4_says 239 = .ok (.aload_n 0, 1) := by decide +kernel
theorem dX4_says_240 : decode cX4_says 240 = .ok (.getfield 18, 3) := by decide +kernel
theorem dX4_says_243 : decode cX4_says 243 = .ok (.iconst 0, 1) := by decide +kernel
theorem dX4_says_244 : decode cX4_says 244 = .ok (.iaload, 1) := by decide +kernel
theorem dX4_says_245 : decode cX4_says 245 = .ok (.invokestatic 39, 3) := by decide +kernel
theorem dX4_says_248 : decode cX4_says 248 = .ok (.invokestatic 45, 3) := by decide +kernel
theorem dX4_says_251 : decode cX4_says 251 = .ok (.ireturn, 1) := by decide +kernel
theorem dX4_fact_0 : decode cX4_fact 0 = .ok (.iload_n 0, 1) := by decide +kernel
theorem dX4_fact_1 : decode cX4_fact 1 = .ok (.tableswitch 66 (-13) (-9) #[59, 54, 49, 42, 35], 35) := by decide +kernel
theorem dX4_fact_36 : decode cX4_fact 36 = .ok (.aload_n 1, 1) := by decide +kernel
theorem dX4_fact_37 : decode cX4_fact 37 = .ok (.getfield 48, 3) := by decide +kernel
theorem dX4_fact_40 : decode cX4_fact 40 = .ok (.iload_n 2, 1) := by decide +kernel
theorem dX4_fact_41 : decode cX4_fact 41 = .ok (.iaload, 1) := by decide +kernel
theorem dX4_fact_42 : decode cX4_fact 42 = .ok (.ireturn, 1) := by decide +kernel
theorem dX4_fact_43 : decode cX4_fact 43 = .ok (.aload_n 1, 1) := by decide +kernel
theorem dX4_fact_44 : decode cX4_fact 44 = .ok (.getfield 53, 3) := by decide +kernel
theorem dX4_fact_47 : decode cX4_fact 47 = .ok (.iload_n 2, 1) := by decide +kernel
theorem dX4_fact_48 : decode cX4_fact 48 = .ok (.iaload, 1) := by decide +kernel
theorem dX4_fact_49 : decode cX4_fact 49 = .ok (.ireturn, 1) := by decide +kernel
theorem dX4_fact_50 : decode cX4_fact 50 = .ok (.aload_n 1, 1) := by decide +kernel
theorem dX4_fact_51 : decode cX4_fact 51 = .ok (.getfield 56, 3) := by decide +kernel
theorem dX4_fact_54 : decode cX4_fact 54 = .ok (.ireturn, 1) := by decide +kernel
theorem dX4_fact_55 : decode cX4_fact 55 = .ok (.aload_n 1, 1) := by decide +kernel
theorem dX4_fact_56 : decode cX4_fact 56 = .ok (.invokevirtual 59, 3) := by decide +kernel
theorem dX4_fact_59 : decode cX4_fact 59 = .ok (.ireturn, 1) := by decide +kernel
theorem dX4_fact_60 : decode cX4_fact 60 = .ok (.aload_n 1, 1) := by decide +kernel
theorem dX4_fact_61 : decode cX4_fact 61 = .ok (.getfield 63, 3) := by decide +kernel
theorem dX4_fact_64 : decode cX4_fact 64 = .ok (.iload_n 2, 1) := by decide +kernel
theorem dX4_fact_65 : decode cX4_fact 65 = .ok (.iaload, 1) := by decide +kernel
theorem dX4_fact_66 : decode cX4_fact 66 = .ok (.ireturn, 1) := by decide +kernel
theorem dX4_fact_67 : decode cX4_fact 67 = .ok (.aload_n 1, 1) := by decide +kernel
theorem dX4_fact_68 : decode cX4_fact 68 = .ok (.getfield 66, 3) := by decide +kernel
theorem dX4_fact_71 : decode cX4_fact 71 = .ok (.iload_n 2, 1) := by decide +kernel
theorem dX4_fact_72 : decode cX4_fact 72 = .ok (.iaload, 1) := by decide +kernel
theorem dX4_fact_73 : decode cX4_fact 73 = .ok (.ireturn, 1) := by decide +kernel
theorem dX4_joined_0 : decode cX4_joined 0 = .ok (.iload_n 0, 1) := by decide +kernel
theorem dX4_joined_1 : decode cX4_joined 1 = .ok (.tableswitch 141 (-22) (-6) #[122, 111, 141, 137, 133, 141, 141, 141, 141, 141, 141, 141, 141, 141, 141, 97, 83], 83) := by decide +kernel
theorem dX4_joined_84 : decode cX4_joined 84 = .ok (.iload_n 1, 1) := by decide +kernel
theorem dX4_joined_85 : decode cX4_joined 85 = .ok (.ifCond .ne 7, 3) := by decide +kernel
theorem dX4_joined_88 : decode cX4_joined 88 = .ok (.iload_n 2, 1) := by decide +kernel
theorem dX4_joined_89 : decode cX4_joined 89 = .ok (.ifCond .eq 7, 3) := by decide +kernel
theorem dX4_joined_92 : decode cX4_joined 92 = .ok (.iconst 1, 1) := by decide +kernel
theorem dX4_joined_93 : decode cX4_joined 93 = .ok (.goto 4, 3) := by decide +kernel
theorem dX4_joined_96 : decode cX4_joined 96 = .ok (.iconst 0, 1) := by decide +kernel
theorem dX4_joined_97 : decode cX4_joined 97 = .ok (.ireturn, 1) := by decide +kernel
theorem dX4_joined_98 : decode cX4_joined 98 = .ok (.iload_n 1, 1) := by decide +kernel
theorem dX4_joined_99 : decode cX4_joined 99 = .ok (.ifCond .eq 11, 3) := by decide +kernel
theorem dX4_joined_102 : decode cX4_joined 102 = .ok (.iload_n 2, 1) := by decide +kernel
theorem dX4_joined_103 : decode cX4_joined 103 = .ok (.ifCond .eq 7, 3) := by decide +kernel
theorem dX4_joined_106 : decode cX4_joined 106 = .ok (.iconst 1, 1) := by decide +kernel
theorem dX4_joined_107 : decode cX4_joined 107 = .ok (.goto 4, 3) := by decide +kernel
theorem dX4_joined_110 : decode cX4_joined 110 = .ok (.iconst 0, 1) := by decide +kernel
theorem dX4_joined_111 : decode cX4_joined 111 = .ok (.ireturn, 1) := by decide +kernel
theorem dX4_joined_112 : decode cX4_joined 112 = .ok (.iload_n 1, 1) := by decide +kernel
theorem dX4_joined_113 : decode cX4_joined 113 = .ok (.iload_n 2, 1) := by decide +kernel
theorem dX4_joined_114 : decode cX4_joined 114 = .ok (.if_icmp .ge 7, 3) := by decide +kernel
theorem dX4_joined_117 : decode cX4_joined 117 = .ok (.iconst 1, 1) := by decide +kernel
theorem dX4_joined_118 : decode cX4_joined 118 = .ok (.goto 4, 3) := by decide +kernel
theorem dX4_joined_121 : decode cX4_joined 121 = .ok (.iconst 0, 1) := by decide +kernel
theorem dX4_joined_122 : decode cX4_joined 122 = .ok (.ireturn, 1) := by decide +kernel
theorem dX4_joined_123 : decode cX4_joined 123 = .ok (.iload_n 1, 1) := by decide +kernel
theorem dX4_joined_124 : decode cX4_joined 124 = .ok (.iload_n 2, 1) := by decide +kernel
theorem dX4_joined_125 : decode cX4_joined 125 = .ok (.if_icmp .ne 7, 3) := by decide +kernel
theorem dX4_joined_128 : decode cX4_joined 128 = .ok (.iconst 1, 1) := by decide +kernel
theorem dX4_joined_129 : decode cX4_joined 129 = .ok (.goto 4, 3) := by decide +kernel
theorem dX4_joined_132 : decode cX4_joined 132 = .ok (.iconst 0, 1) := by decide +kernel
theorem dX4_joined_133 : decode cX4_joined 133 = .ok (.ireturn, 1) := by decide +kernel
theorem dX4_joined_134 : decode cX4_joined 134 = .ok (.iload_n 1, 1) := by decide +kernel
theorem dX4_joined_135 : decode cX4_joined 135 = .ok (.iload_n 2, 1) := by decide +kernel
theorem dX4_joined_136 : decode cX4_joined 136 = .ok (.iadd, 1) := by decide +kernel
theorem dX4_joined_137 : decode cX4_joined 137 = .ok (.ireturn, 1) := by decide +kernel
theorem dX4_joined_138 : decode cX4_joined 138 = .ok (.iload_n 1, 1) := by decide +kernel
theorem dX4_joined_139 : decode cX4_joined 139 = .ok (.iload_n 2, 1) := by decide +kernel
theorem dX4_joined_140 : decode cX4_joined 140 = .ok (.isub, 1) := by decide +kernel
theorem dX4_joined_141 : decode cX4_joined 141 = .ok (.ireturn, 1) := by decide +kernel
theorem dX4_joined_142 : decode cX4_joined 142 = .ok (.iload_n 1, 1) := by decide +kernel
theorem dX4_joined_143 : decode cX4_joined 143 = .ok (.iload_n 2, 1) := by decide +kernel
theorem dX4_joined_144 : decode cX4_joined 144 = .ok (.imul, 1) := by decide +kernel
theorem dX4_joined_145 : decode cX4_joined 145 = .ok (.ireturn, 1) := by decide +kernel
theorem dX5_isName_0 : decode cX5_isName 0 = .ok (.iload_n 0, 1) := by decide +kernel
theorem dX5_isName_1 : decode cX5_isName 1 = .ok (.bipush (-9), 2) := by decide +kernel
theorem dX5_isName_3 : decode cX5_isName 3 = .ok (.if_icmp .gt 13, 3) := by decide +kernel
theorem dX5_isName_6 : decode cX5_isName 6 = .ok (.iload_n 0, 1) := by decide +kernel
theorem dX5_isName_7 : decode cX5_isName 7 = .ok (.bipush (-14), 2) := by decide +kernel
theorem dX5_isName_9 : decode cX5_isName 9 = .ok (.if_icmp .lt 7, 3) := by decide +kernel
theorem dX5_isName_12 : decode cX5_isName 12 = .ok (.iconst 1, 1) := by decide +kernel
theorem dX5_isName_13 : decode cX5_isName 13 = .ok (.goto 4, 3) := by decide +kernel
theorem dX5_isName_16 : decode cX5_isName 16 = .ok (.iconst 0, 1) := by decide +kernel
theorem dX5_isName_17 : decode cX5_isName 17 = .ok (.ireturn, 1) := by decide +kernel
theorem dX5_ofSign_0 : decode cX5_ofSign 0 = .ok (.iload_n 0, 1) := by decide +kernel
theorem dX5_ofSign_1 : decode cX5_ofSign 1 = .ok (.tableswitch 127 40 61 #[103, 106, 118, 112, 127, 115, 127, 127, 127, 127, 127, 127, 127, 127, 127, 127, 127, 127, 127, 109, 121, 124], 103) := by decide +kernel
theorem dX5_ofSign_104 : decode cX5_ofSign 104 = .ok (.bipush (-15), 2) := by decide +kernel
theorem dX5_ofSign_106 : decode cX5_ofSign 106 = .ok (.ireturn, 1) := by decide +kernel
theorem dX5_ofSign_107 : decode cX5_ofSign 107 = .ok (.bipush (-16), 2) := by decide +kernel
theorem dX5_ofSign_109 : decode cX5_ofSign 109 = .ok (.ireturn, 1) := by decide +kernel
theorem dX5_ofSign_110 : decode cX5_ofSign 110 = .ok (.bipush (-17), 2) := by decide +kernel
theorem dX5_ofSign_112 : decode cX5_ofSign 112 = .ok (.ireturn, 1) := by decide +kernel
theorem dX5_ofSign_113 : decode cX5_ofSign 113 = .ok (.bipush (-18), 2) := by decide +kernel
theorem dX5_ofSign_115 : decode cX5_ofSign 115 = .ok (.ireturn, 1) := by decide +kernel
theorem dX5_ofSign_116 : decode cX5_ofSign 116 = .ok (.bipush (-19), 2) := by decide +kernel
theorem dX5_ofSign_118 : decode cX5_ofSign 118 = .ok (.ireturn, 1) := by decide +kernel
theorem dX5_ofSign_119 : decode cX5_ofSign 119 = .ok (.bipush (-20), 2) := by decide +kernel
theorem dX5_ofSign_121 : decode cX5_ofSign 121 = .ok (.ireturn, 1) := by decide +kernel
theorem dX5_ofSign_122 : decode cX5_ofSign 122 = .ok (.bipush (-21), 2) := by decide +kernel
theorem dX5_ofSign_124 : decode cX5_ofSign 124 = .ok (.ireturn, 1) := by decide +kernel
theorem dX5_ofSign_125 : decode cX5_ofSign 125 = .ok (.bipush (-22), 2) := by decide +kernel
theorem dX5_ofSign_127 : decode cX5_ofSign 127 = .ok (.ireturn, 1) := by decide +kernel
theorem dX5_ofSign_128 : decode cX5_ofSign 128 = .ok (.bipush (-2), 2) := by decide +kernel
theorem dX5_ofSign_130 : decode cX5_ofSign 130 = .ok (.ireturn, 1) := by decide +kernel
theorem dJ6_bitCount_0f7a4_0 : decode cJ6_bitCount_0f7a4 0 = .ok (.iload_n 0, 1) := by decide +kernel
theorem dJ6_bitCount_0f7a4_1 : decode cJ6_bitCount_0f7a4 1 = .ok (.iload_n 0, 1) := by decide +kernel
theorem dJ6_bitCount_0f7a4_2 : decode cJ6_bitCount_0f7a4 2 = .ok (.iconst 1, 1) := by decide +kernel
theorem dJ6_bitCount_0f7a4_3 : decode cJ6_bitCount_0f7a4 3 = .ok (.iushr, 1) := by decide +kernel
theorem dJ6_bitCount_0f7a4_4 : decode cJ6_bitCount_0f7a4 4 = .ok (.ldc_w 265, 3) := by decide +kernel
theorem dJ6_bitCount_0f7a4_7 : decode cJ6_bitCount_0f7a4 7 = .ok (.iand, 1) := by decide +kernel
theorem dJ6_bitCount_0f7a4_8 : decode cJ6_bitCount_0f7a4 8 = .ok (.isub, 1) := by decide +kernel
theorem dJ6_bitCount_0f7a4_9 : decode cJ6_bitCount_0f7a4 9 = .ok (.istore_n 0, 1) := by decide +kernel
theorem dJ6_bitCount_0f7a4_10 : decode cJ6_bitCount_0f7a4 10 = .ok (.iload_n 0, 1) := by decide +kernel
theorem dJ6_bitCount_0f7a4_11 : decode cJ6_bitCount_0f7a4 11 = .ok (.ldc_w 266, 3) := by decide +kernel
theorem dJ6_bitCount_0f7a4_14 : decode cJ6_bitCount_0f7a4 14 = .ok (.iand, 1) := by decide +kernel
theorem dJ6_bitCount_0f7a4_15 : decode cJ6_bitCount_0f7a4 15 = .ok (.iload_n 0, 1) := by decide +kernel
theorem dJ6_bitCount_0f7a4_16 : decode cJ6_bitCount_0f7a4 16 = .ok (.iconst 2, 1) := by decide +kernel
theorem dJ6_bitCount_0f7a4_17 : decode cJ6_bitCount_0f7a4 17 = .ok (.iushr, 1) := by decide +kernel
theorem dJ6_bitCount_0f7a4_18 : decode cJ6_bitCount_0f7a4 18 = .ok (.ldc_w 266, 3) := by decide +kernel
theorem dJ6_bitCount_0f7a4_21 : decode cJ6_bitCount_0f7a4 21 = .ok (.iand, 1) := by decide +kernel
theorem dJ6_bitCount_0f7a4_22 : decode cJ6_bitCount_0f7a4 22 = .ok (.iadd, 1) := by decide +kernel
theorem dJ6_bitCount_0f7a4_23 : decode cJ6_bitCount_0f7a4 23 = .ok (.istore_n 0, 1) := by decide +kernel
theorem dJ6_bitCount_0f7a4_24 : decode cJ6_bitCount_0f7a4 24 = .ok (.iload_n 0, 1) := by decide +kernel
theorem dJ6_bitCount_0f7a4_25 : decode cJ6_bitCount_0f7a4 25 = .ok (.iload_n 0, 1) := by decide +kernel
theorem dJ6_bitCount_0f7a4_26 : decode cJ6_bitCount_0f7a4 26 = .ok (.iconst 4, 1) := by decide +kernel
theorem dJ6_bitCount_0f7a4_27 : decode cJ6_bitCount_0f7a4 27 = .ok (.iushr, 1) := by decide +kernel
theorem dJ6_bitCount_0f7a4_28 : decode cJ6_bitCount_0f7a4 28 = .ok (.iadd, 1) := by decide +kernel
theorem dJ6_bitCount_0f7a4_29 : decode cJ6_bitCount_0f7a4 29 = .ok (.ldc_w 267, 3) := by decide +kernel
theorem dJ6_bitCount_0f7a4_32 : decode cJ6_bitCount_0f7a4 32 = .ok (.iand, 1) := by decide +kernel
theorem dJ6_bitCount_0f7a4_33 : decode cJ6_bitCount_0f7a4 33 = .ok (.istore_n 0, 1) := by decide +kernel
theorem dJ6_bitCount_0f7a4_34 : decode cJ6_bitCount_0f7a4 34 = .ok (.iload_n 0, 1) := by decide +kernel
theorem dJ6_bitCount_0f7a4_35 : decode cJ6_bitCount_0f7a4 35 = .ok (.iload_n 0, 1) := by decide +kernel
theorem dJ6_bitCount_0f7a4_36 : decode cJ6_bitCount_0f7a4 36 = .ok (.bipush 8, 2) := by decide +kernel
theorem dJ6_bitCount_0f7a4_38 : decode cJ6_bitCount_0f7a4 38 = .ok (.iushr, 1) := by decide +kernel
theorem dJ6_bitCount_0f7a4_39 : decode cJ6_bitCount_0f7a4 39 = .ok (.iadd, 1) := by decide +kernel
theorem dJ6_bitCount_0f7a4_40 : decode cJ6_bitCount_0f7a4 40 = .ok (.istore_n 0, 1) := by decide +kernel
theorem dJ6_bitCount_0f7a4_41 : decode cJ6_bitCount_0f7a4 41 = .ok (.iload_n 0, 1) := by decide +kernel
theorem dJ6_bitCount_0f7a4_42 : decode cJ6_bitCount_0f7a4 42 = .ok (.iload_n 0, 1) := by decide +kernel
theorem dJ6_bitCount_0f7a4_43 : decode cJ6_bitCount_0f7a4 43 = .ok (.bipush 16, 2) := by decide +kernel
theorem dJ6_bitCount_0f7a4_45 : decode cJ6_bitCount_0f7a4 45 = .ok (.iushr, 1) := by decide +kernel
theorem dJ6_bitCount_0f7a4_46 : decode cJ6_bitCount_0f7a4 46 = .ok (.iadd, 1) := by decide +kernel
theorem dJ6_bitCount_0f7a4_47 : decode cJ6_bitCount_0f7a4 47 = .ok (.istore_n 0, 1) := by decide +kernel
theorem dJ6_bitCount_0f7a4_48 : decode cJ6_bitCount_0f7a4 48 = .ok (.iload_n 0, 1) := by decide +kernel
theorem dJ6_bitCount_0f7a4_49 : decode cJ6_bitCount_0f7a4 49 = .ok (.bipush 63, 2) := by decide +kernel
theorem dJ6_bitCount_0f7a4_51 : decode cJ6_bitCount_0f7a4 51 = .ok (.iand, 1) := by decide +kernel
theorem dJ6_bitCount_0f7a4_52 : decode cJ6_bitCount_0f7a4 52 = .ok (.ireturn, 1) := by decide +kernel
theorem dJ9_abs_0f7a4_0 : decode cJ9_abs_0f7a4 0 = .ok (.iload_n 0, 1) := by decide +kernel
theorem dJ9_abs_0f7a4_1 : decode cJ9_abs_0f7a4 1 = .ok (.ifCond .ge 8, 3) := by decide +kernel
theorem dJ9_abs_0f7a4_4 : decode cJ9_abs_0f7a4 4 = .ok (.iload_n 0, 1) := by decide +kernel
theorem dJ9_abs_0f7a4_5 : decode cJ9_abs_0f7a4 5 = .ok (.ineg, 1) := by decide +kernel
theorem dJ9_abs_0f7a4_6 : decode cJ9_abs_0f7a4 6 = .ok (.goto 4, 3) := by decide +kernel
theorem dJ9_abs_0f7a4_9 : decode cJ9_abs_0f7a4 9 = .ok (.iload_n 0, 1) := by decide +kernel
theorem dJ9_abs_0f7a4_10 : decode cJ9_abs_0f7a4 10 = .ok (.ireturn, 1) := by decide +kernel
theorem dJ9_max_7cf53_0 : decode cJ9_max_7cf53 0 = .ok (.iload_n 0, 1) := by decide +kernel
theorem dJ9_max_7cf53_1 : decode cJ9_max_7cf53 1 = .ok (.iload_n 1, 1) := by decide +kernel
theorem dJ9_max_7cf53_2 : decode cJ9_max_7cf53 2 = .ok (.if_icmp .lt 7, 3) := by decide +kernel
theorem dJ9_max_7cf53_5 : decode cJ9_max_7cf53 5 = .ok (.iload_n 0, 1) := by decide +kernel
theorem dJ9_max_7cf53_6 : decode cJ9_max_7cf53 6 = .ok (.goto 4, 3) := by decide +kernel
theorem dJ9_max_7cf53_9 : decode cJ9_max_7cf53 9 = .ok (.iload_n 1, 1) := by decide +kernel
theorem dJ9_max_7cf53_10 : decode cJ9_max_7cf53 10 = .ok (.ireturn, 1) := by decide +kernel
theorem dJ9_min_7cf53_0 : decode cJ9_min_7cf53 0 = .ok (.iload_n 0, 1) := by decide +kernel
theorem dJ9_min_7cf53_1 : decode cJ9_min_7cf53 1 = .ok (.iload_n 1, 1) := by decide +kernel
theorem dJ9_min_7cf53_2 : decode cJ9_min_7cf53 2 = .ok (.if_icmp .gt 7, 3) := by decide +kernel
theorem dJ9_min_7cf53_5 : decode cJ9_min_7cf53 5 = .ok (.iload_n 0, 1) := by decide +kernel
theorem dJ9_min_7cf53_6 : decode cJ9_min_7cf53 6 = .ok (.goto 4, 3) := by decide +kernel
theorem dJ9_min_7cf53_9 : decode cJ9_min_7cf53 9 = .ok (.iload_n 1, 1) := by decide +kernel
theorem dJ9_min_7cf53_10 : decode cJ9_min_7cf53 10 = .ok (.ireturn, 1) := by decide +kernel
theorem dJ0_length_8abf5_0 : decode cJ0_length_8abf5 0 = .ok (.aload_n 0, 1) := by decide +kernel
theorem dJ0_length_8abf5_1 : decode cJ0_length_8abf5 1 = .ok (.getfield 9, 3) := by decide +kernel
theorem dJ0_length_8abf5_4 : decode cJ0_length_8abf5 4 = .ok (.arraylength, 1) := by decide +kernel
theorem dJ0_length_8abf5_5 : decode cJ0_length_8abf5 5 = .ok (.aload_n 0, 1) := by decide +kernel
theorem dJ0_length_8abf5_6 : decode cJ0_length_8abf5 6 = .ok (.invokevirtual 335, 3) := by decide +kernel
theorem dJ0_length_8abf5_9 : decode cJ0_length_8abf5 9 = .ok (.ishr, 1) := by decide +kernel
theorem dJ0_length_8abf5_10 : decode cJ0_length_8abf5 10 = .ok (.ireturn, 1) := by decide +kernel
theorem dJ0_charAt_5068e_0 : decode cJ0_charAt_5068e 0 = .ok (.aload_n 0, 1) := by decide +kernel
theorem dJ0_charAt_5068e_1 : decode cJ0_charAt_5068e 1 = .ok (.invokevirtual 492, 3) := by decide +kernel
theorem dJ0_charAt_5068e_4 : decode cJ0_charAt_5068e 4 = .ok (.ifCond .eq 12, 3) := by decide +kernel
theorem dJ0_charAt_5068e_7 : decode cJ0_charAt_5068e 7 = .ok (.aload_n 0, 1) := by decide +kernel
theorem dJ0_charAt_5068e_8 : decode cJ0_charAt_5068e 8 = .ok (.getfield 9, 3) := by decide +kernel
theorem dJ0_charAt_5068e_11 : decode cJ0_charAt_5068e 11 = .ok (.iload_n 1, 1) := by decide +kernel
theorem dJ0_charAt_5068e_12 : decode cJ0_charAt_5068e 12 = .ok (.invokestatic 495, 3) := by decide +kernel
theorem dJ0_charAt_5068e_15 : decode cJ0_charAt_5068e 15 = .ok (.ireturn, 1) := by decide +kernel
theorem dJ0_charAt_5068e_16 : decode cJ0_charAt_5068e 16 = .ok (.aload_n 0, 1) := by decide +kernel
theorem dJ0_charAt_5068e_17 : decode cJ0_charAt_5068e 17 = .ok (.getfield 9, 3) := by decide +kernel
theorem dJ0_charAt_5068e_20 : decode cJ0_charAt_5068e 20 = .ok (.iload_n 1, 1) := by decide +kernel
theorem dJ0_charAt_5068e_21 : decode cJ0_charAt_5068e 21 = .ok (.invokestatic 498, 3) := by decide +kernel
theorem dJ0_charAt_5068e_24 : decode cJ0_charAt_5068e 24 = .ok (.ireturn, 1) := by decide +kernel
theorem dJ0_coder_7d493_0 : decode cJ0_coder_7d493 0 = .ok (.getstatic 38, 3) := by decide +kernel
theorem dJ0_coder_7d493_3 : decode cJ0_coder_7d493 3 = .ok (.ifCond .eq 10, 3) := by decide +kernel
theorem dJ0_coder_7d493_6 : decode cJ0_coder_7d493 6 = .ok (.aload_n 0, 1) := by decide +kernel
theorem dJ0_coder_7d493_7 : decode cJ0_coder_7d493 7 = .ok (.getfield 15, 3) := by decide +kernel
theorem dJ0_coder_7d493_10 : decode cJ0_coder_7d493 10 = .ok (.goto 4, 3) := by decide +kernel
theorem dJ0_coder_7d493_13 : decode cJ0_coder_7d493 13 = .ok (.iconst 1, 1) := by decide +kernel
theorem dJ0_coder_7d493_14 : decode cJ0_coder_7d493 14 = .ok (.ireturn, 1) := by decide +kernel
theorem dJ0_isLatin1_aae02_0 : decode cJ0_isLatin1_aae02 0 = .ok (.getstatic 38, 3) := by decide +kernel
theorem dJ0_isLatin1_aae02_3 : decode cJ0_isLatin1_aae02 3 = .ok (.ifCond .eq 14, 3) := by decide +kernel
theorem dJ0_isLatin1_aae02_6 : decode cJ0_isLatin1_aae02 6 = .ok (.aload_n 0, 1) := by decide +kernel
theorem dJ0_isLatin1_aae02_7 : decode cJ0_isLatin1_aae02 7 = .ok (.getfield 15, 3) := by decide +kernel
theorem dJ0_isLatin1_aae02_10 : decode cJ0_isLatin1_aae02 10 = .ok (.ifCond .ne 7, 3) := by decide +kernel
theorem dJ0_isLatin1_aae02_13 : decode cJ0_isLatin1_aae02 13 = .ok (.iconst 1, 1) := by decide +kernel
theorem dJ0_isLatin1_aae02_14 : decode cJ0_isLatin1_aae02 14 = .ok (.goto 4, 3) := by decide +kernel
theorem dJ0_isLatin1_aae02_17 : decode cJ0_isLatin1_aae02 17 = .ok (.iconst 0, 1) := by decide +kernel
theorem dJ0_isLatin1_aae02_18 : decode cJ0_isLatin1_aae02 18 = .ok (.ireturn, 1) := by decide +kernel
theorem dJ0_checkIndex_df160_0 : decode cJ0_checkIndex_df160 0 = .ok (.iload_n 0, 1) := by decide +kernel
theorem dJ0_checkIndex_df160_1 : decode cJ0_checkIndex_df160 1 = .ok (.iload_n 1, 1) := by decide +kernel
theorem dJ0_checkIndex_df160_2 : decode cJ0_checkIndex_df160 2 = .ok (.getstatic 1053, 3) := by decide +kernel
theorem dJ0_checkIndex_df160_5 : decode cJ0_checkIndex_df160 5 = .ok (.invokestatic 1059, 3) := by decide +kernel
theorem dJ0_checkIndex_df160_8 : decode cJ0_checkIndex_df160 8 = .ok (.pop, 1) := by decide +kernel
theorem dJ0_checkIndex_df160_9 : decode cJ0_checkIndex_df160 9 = .ok (.return_, 1) := by decide +kernel
theorem dJ1_charAt_3b067_0 : decode cJ1_charAt_3b067 0 = .ok (.iload_n 1, 1) := by decide +kernel
theorem dJ1_charAt_3b067_1 : decode cJ1_charAt_3b067 1 = .ok (.aload_n 0, 1) := by decide +kernel
theorem dJ1_charAt_3b067_2 : decode cJ1_charAt_3b067 2 = .ok (.arraylength, 1) := by decide +kernel
theorem dJ1_charAt_3b067_3 : decode cJ1_charAt_3b067 3 = .ok (.invokestatic 9, 3) := by decide +kernel
theorem dJ1_charAt_3b067_6 : decode cJ1_charAt_3b067 6 = .ok (.aload_n 0, 1) := by decide +kernel
theorem dJ1_charAt_3b067_7 : decode cJ1_charAt_3b067 7 = .ok (.iload_n 1, 1) := by decide +kernel
theorem dJ1_charAt_3b067_8 : decode cJ1_charAt_3b067 8 = .ok (.baload, 1) := by decide +kernel
theorem dJ1_charAt_3b067_9 : decode cJ1_charAt_3b067 9 = .ok (.sipush 255, 3) := by decide +kernel
theorem dJ1_charAt_3b067_12 : decode cJ1_charAt_3b067 12 = .ok (.iand, 1) := by decide +kernel
theorem dJ1_charAt_3b067_13 : decode cJ1_charAt_3b067 13 = .ok (.i2c, 1) := by decide +kernel
theorem dJ1_charAt_3b067_14 : decode cJ1_charAt_3b067 14 = .ok (.ireturn, 1) := by decide +kernel
theorem dJ2_getChar_3b067_0 : decode cJ2_getChar_3b067 0 = .ok (.getstatic 44, 3) := by decide +kernel
theorem dJ2_getChar_3b067_3 : decode cJ2_getChar_3b067 3 = .ok (.ifCond .ne 25, 3) := by decide +kernel
theorem dJ2_getChar_3b067_6 : decode cJ2_getChar_3b067 6 = .ok (.iload_n 1, 1) := by decide +kernel
theorem dJ2_getChar_3b067_7 : decode cJ2_getChar_3b067 7 = .ok (.ifCond .lt 11, 3) := by decide +kernel
theorem dJ2_getChar_3b067_10 : decode cJ2_getChar_3b067 10 = .ok (.iload_n 1, 1) := by decide +kernel
theorem dJ2_getChar_3b067_11 : decode cJ2_getChar_3b067 11 = .ok (.aload_n 0, 1) := by decide +kernel
theorem dJ2_getChar_3b067_12 : decode cJ2_getChar_3b067 12 = .ok (.invokestatic 48, 3) := by decide +kernel
theorem dJ2_getChar_3b067_15 : decode cJ2_getChar_3b067 15 = .ok (.if_icmp .lt 13, 3) := by decide +kernel
theorem dJ2_getChar_3b067_18 : decode cJ2_getChar_3b067 18 = .ok (.new 52, 3) := by decide +kernel
theorem dJ2_getChar_3b067_21 : decode cJ2_getChar_3b067 21 = .ok (.dup, 1) := by decide +kernel
theorem dJ2_getChar_3b067_22 : decode cJ2_getChar_3b067 22 = .ok (.ldc 54, 2) := by decide +kernel
theorem dJ2_getChar_3b067_24 : decode cJ2_getChar_3b067 24 = .ok (.invokespecial 56, 3) := by decide +kernel
theorem dJ2_getChar_3b067_27 : decode cJ2_getChar_3b067 27 = .ok (.athrow, 1) := by decide +kernel
theorem dJ2_getChar_3b067_28 : decode cJ2_getChar_3b067 28 = .ok (.iload_n 1, 1) := by decide +kernel
theorem dJ2_getChar_3b067_29 : decode cJ2_getChar_3b067 29 = .ok (.iconst 1, 1) := by decide +kernel
theorem dJ2_getChar_3b067_30 : decode cJ2_getChar_3b067 30 = .ok (.ishl, 1) := by decide +kernel
theorem dJ2_getChar_3b067_31 : decode cJ2_getChar_3b067 31 = .ok (.istore_n 1, 1) := by decide +kernel
theorem dJ2_getChar_3b067_32 : decode cJ2_getChar_3b067 32 = .ok (.aload_n 0, 1) := by decide +kernel
theorem dJ2_getChar_3b067_33 : decode cJ2_getChar_3b067 33 = .ok (.iload_n 1, 1) := by decide +kernel
theorem dJ2_getChar_3b067_34 : decode cJ2_getChar_3b067 34 = .ok (.iinc 1 1, 3) := by decide +kernel
theorem dJ2_getChar_3b067_37 : decode cJ2_getChar_3b067 37 = .ok (.baload, 1) := by decide +kernel
theorem dJ2_getChar_3b067_38 : decode cJ2_getChar_3b067 38 = .ok (.sipush 255, 3) := by decide +kernel
theorem dJ2_getChar_3b067_41 : decode cJ2_getChar_3b067 41 = .ok (.iand, 1) := by decide +kernel
theorem dJ2_getChar_3b067_42 : decode cJ2_getChar_3b067 42 = .ok (.getstatic 59, 3) := by decide +kernel
theorem dJ2_getChar_3b067_45 : decode cJ2_getChar_3b067 45 = .ok (.ishl, 1) := by decide +kernel
theorem dJ2_getChar_3b067_46 : decode cJ2_getChar_3b067 46 = .ok (.aload_n 0, 1) := by decide +kernel
theorem dJ2_getChar_3b067_47 : decode cJ2_getChar_3b067 47 = .ok (.iload_n 1, 1) := by decide +kernel
theorem dJ2_getChar_3b067_48 : decode cJ2_getChar_3b067 48 = .ok (.baload, 1) := by decide +kernel
theorem dJ2_getChar_3b067_49 : decode cJ2_getChar_3b067 49 = .ok (.sipush 255, 3) := by decide +kernel
theorem dJ2_getChar_3b067_52 : decode cJ2_getChar_3b067 52 = .ok (.iand, 1) := by decide +kernel
theorem dJ2_getChar_3b067_53 : decode cJ2_getChar_3b067 53 = .ok (.getstatic 63, 3) := by decide +kernel
theorem dJ2_getChar_3b067_56 : decode cJ2_getChar_3b067 56 = .ok (.ishl, 1) := by decide +kernel
theorem dJ2_getChar_3b067_57 : decode cJ2_getChar_3b067 57 = .ok (.ior, 1) := by decide +kernel
theorem dJ2_getChar_3b067_58 : decode cJ2_getChar_3b067 58 = .ok (.i2c, 1) := by decide +kernel
theorem dJ2_getChar_3b067_59 : decode cJ2_getChar_3b067 59 = .ok (.ireturn, 1) := by decide +kernel
theorem dJ2_length_9d52b_0 : decode cJ2_length_9d52b 0 = .ok (.aload_n 0, 1) := by decide +kernel
theorem dJ2_length_9d52b_1 : decode cJ2_length_9d52b 1 = .ok (.arraylength, 1) := by decide +kernel
theorem dJ2_length_9d52b_2 : decode cJ2_length_9d52b 2 = .ok (.iconst 1, 1) := by decide +kernel
theorem dJ2_length_9d52b_3 : decode cJ2_length_9d52b 3 = .ok (.ishr, 1) := by decide +kernel
theorem dJ2_length_9d52b_4 : decode cJ2_length_9d52b 4 = .ok (.ireturn, 1) := by decide +kernel
theorem dJ2_charAt_3b067_0 : decode cJ2_charAt_3b067 0 = .ok (.iload_n 1, 1) := by decide +kernel
theorem dJ2_charAt_3b067_1 : decode cJ2_charAt_3b067 1 = .ok (.aload_n 0, 1) := by decide +kernel
theorem dJ2_charAt_3b067_2 : decode cJ2_charAt_3b067 2 = .ok (.invokestatic 67, 3) := by decide +kernel
theorem dJ2_charAt_3b067_5 : decode cJ2_charAt_3b067 5 = .ok (.aload_n 0, 1) := by decide +kernel
theorem dJ2_charAt_3b067_6 : decode cJ2_charAt_3b067 6 = .ok (.iload_n 1, 1) := by decide +kernel
theorem dJ2_charAt_3b067_7 : decode cJ2_charAt_3b067 7 = .ok (.invokestatic 71, 3) := by decide +kernel
theorem dJ2_charAt_3b067_10 : decode cJ2_charAt_3b067 10 = .ok (.ireturn, 1) := by decide +kernel
theorem dJ2_checkIndex_2214a_0 : decode cJ2_checkIndex_2214a 0 = .ok (.iload_n 0, 1) := by decide +kernel
theorem dJ2_checkIndex_2214a_1 : decode cJ2_checkIndex_2214a 1 = .ok (.aload_n 1, 1) := by decide +kernel
theorem dJ2_checkIndex_2214a_2 : decode cJ2_checkIndex_2214a 2 = .ok (.invokestatic 48, 3) := by decide +kernel
theorem dJ2_checkIndex_2214a_5 : decode cJ2_checkIndex_2214a 5 = .ok (.invokestatic 414, 3) := by decide +kernel
theorem dJ2_checkIndex_2214a_8 : decode cJ2_checkIndex_2214a 8 = .ok (.return_, 1) := by decide +kernel
theorem dJ7_fill_53178_0 : decode cJ7_fill_53178 0 = .ok (.iconst 0, 1) := by decide +kernel
theorem dJ7_fill_53178_1 : decode cJ7_fill_53178 1 = .ok (.istore_n 2, 1) := by decide +kernel
theorem dJ7_fill_53178_2 : decode cJ7_fill_53178 2 = .ok (.aload_n 0, 1) := by decide +kernel
theorem dJ7_fill_53178_3 : decode cJ7_fill_53178 3 = .ok (.arraylength, 1) := by decide +kernel
theorem dJ7_fill_53178_4 : decode cJ7_fill_53178 4 = .ok (.istore_n 3, 1) := by decide +kernel
theorem dJ7_fill_53178_5 : decode cJ7_fill_53178 5 = .ok (.iload_n 2, 1) := by decide +kernel
theorem dJ7_fill_53178_6 : decode cJ7_fill_53178 6 = .ok (.iload_n 3, 1) := by decide +kernel
theorem dJ7_fill_53178_7 : decode cJ7_fill_53178 7 = .ok (.if_icmp .ge 13, 3) := by decide +kernel
theorem dJ7_fill_53178_10 : decode cJ7_fill_53178 10 = .ok (.aload_n 0, 1) := by decide +kernel
theorem dJ7_fill_53178_11 : decode cJ7_fill_53178 11 = .ok (.iload_n 2, 1) := by decide +kernel
theorem dJ7_fill_53178_12 : decode cJ7_fill_53178 12 = .ok (.iload_n 1, 1) := by decide +kernel
theorem dJ7_fill_53178_13 : decode cJ7_fill_53178 13 = .ok (.iastore, 1) := by decide +kernel
theorem dJ7_fill_53178_14 : decode cJ7_fill_53178 14 = .ok (.iinc 2 1, 3) := by decide +kernel
theorem dJ7_fill_53178_17 : decode cJ7_fill_53178 17 = .ok (.goto (-12), 3) := by decide +kernel
theorem dJ7_fill_53178_20 : decode cJ7_fill_53178 20 = .ok (.return_, 1) := by decide +kernel
theorem dJ3_checkIndex_8e157_0 : decode cJ3_checkIndex_8e157 0 = .ok (.iload_n 0, 1) := by decide +kernel
theorem dJ3_checkIndex_8e157_1 : decode cJ3_checkIndex_8e157 1 = .ok (.ifCond .lt 8, 3) := by decide +kernel
theorem dJ3_checkIndex_8e157_4 : decode cJ3_checkIndex_8e157 4 = .ok (.iload_n 0, 1) := by decide +kernel
theorem dJ3_checkIndex_8e157_5 : decode cJ3_checkIndex_8e157 5 = .ok (.iload_n 1, 1) := by decide +kernel
theorem dJ3_checkIndex_8e157_6 : decode cJ3_checkIndex_8e157 6 = .ok (.if_icmp .lt 10, 3) := by decide +kernel
theorem dJ3_checkIndex_8e157_9 : decode cJ3_checkIndex_8e157 9 = .ok (.aload_n 2, 1) := by decide +kernel
theorem dJ3_checkIndex_8e157_10 : decode cJ3_checkIndex_8e157 10 = .ok (.iload_n 0, 1) := by decide +kernel
theorem dJ3_checkIndex_8e157_11 : decode cJ3_checkIndex_8e157 11 = .ok (.iload_n 1, 1) := by decide +kernel
theorem dJ3_checkIndex_8e157_12 : decode cJ3_checkIndex_8e157 12 = .ok (.invokestatic 95, 3) := by decide +kernel
theorem dJ3_checkIndex_8e157_15 : decode cJ3_checkIndex_8e157 15 = .ok (.athrow, 1) := by decide +kernel
theorem dJ3_checkIndex_8e157_16 : decode cJ3_checkIndex_8e157 16 = .ok (.iload_n 0, 1) := by decide +kernel
theorem dJ3_checkIndex_8e157_17 : decode cJ3_checkIndex_8e157 17 = .ok (.ireturn, 1) := by decide +kernel
