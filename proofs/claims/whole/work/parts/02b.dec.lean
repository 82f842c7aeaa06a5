theorem dX6_init_0 : decode cX6_init 0 = .ok (.aload_n 0, 1) := by decide +kernel
theorem dX6_init_1 : decode cX6_init 1 = .ok (.invokespecial 1, 3) := by decide +kernel
theorem dX6_init_4 : decode cX6_init 4 = .ok (.aload_n 0, 1) := by decide +kernel
theorem dX6_init_5 : decode cX6_init 5 = .ok (.bipush 6, 2) := by decide +kernel
theorem dX6_init_7 : decode cX6_init 7 = .ok (.anewarray 9, 3) := by decide +kernel
theorem dX6_init_10 : decode cX6_init 10 = .ok (.putfield 11, 3) := by decide +kernel
theorem dX6_init_13 : decode cX6_init 13 = .ok (.aload_n 0, 1) := by decide +kernel
theorem dX6_init_14 : decode cX6_init 14 = .ok (.new 15, 3) := by decide +kernel
theorem dX6_init_17 : decode cX6_init 17 = .ok (.dup, 1) := by decide +kernel
theorem dX6_init_18 : decode cX6_init 18 = .ok (.aload_n 0, 1) := by decide +kernel
theorem dX6_init_19 : decode cX6_init 19 = .ok (.getfield 11, 3) := by decide +kernel
theorem dX6_init_22 : decode cX6_init 22 = .ok (.invokespecial 17, 3) := by decide +kernel
theorem dX6_init_25 : decode cX6_init 25 = .ok (.putfield 20, 3) := by decide +kernel
theorem dX6_init_28 : decode cX6_init 28 = .ok (.aload_n 0, 1) := by decide +kernel
theorem dX6_init_29 : decode cX6_init 29 = .ok (.new 15, 3) := by decide +kernel
theorem dX6_init_32 : decode cX6_init 32 = .ok (.dup, 1) := by decide +kernel
theorem dX6_init_33 : decode cX6_init 33 = .ok (.aload_n 0, 1) := by decide +kernel
theorem dX6_init_34 : decode cX6_init 34 = .ok (.getfield 11, 3) := by decide +kernel
theorem dX6_init_37 : decode cX6_init 37 = .ok (.invokespecial 17, 3) := by decide +kernel
theorem dX6_init_40 : decode cX6_init 40 = .ok (.putfield 24, 3) := by decide +kernel
theorem dX6_init_43 : decode cX6_init 43 = .ok (.aload_n 0, 1) := by decide +kernel
theorem dX6_init_44 : decode cX6_init 44 = .ok (.new 15, 3) := by decide +kernel
theorem dX6_init_47 : decode cX6_init 47 = .ok (.dup, 1) := by decide +kernel
theorem dX6_init_48 : decode cX6_init 48 = .ok (.aload_n 0, 1) := by decide +kernel
theorem dX6_init_49 : decode cX6_init 49 = .ok (.getfield 11, 3) := by decide +kernel
theorem dX6_init_52 : decode cX6_init 52 = .ok (.invokespecial 17, 3) := by decide +kernel
theorem dX6_init_55 : decode cX6_init 55 = .ok (.putfield 27, 3) := by decide +kernel
theorem dX6_init_58 : decode cX6_init 58 = .ok (.aload_n 0, 1) := by decide +kernel
theorem dX6_init_59 : decode cX6_init 59 = .ok (.new 30, 3) := by decide +kernel
theorem dX6_init_62 : decode cX6_init 62 = .ok (.dup, 1) := by decide +kernel
theorem dX6_init_63 : decode cX6_init 63 = .ok (.invokespecial 32, 3) := by decide +kernel
theorem dX6_init_66 : decode cX6_init 66 = .ok (.putfield 33, 3) := by decide +kernel
theorem dX6_init_69 : decode cX6_init 69 = .ok (.aload_n 0, 1) := by decide +kernel
theorem dX6_init_70 : decode cX6_init 70 = .ok (.sipush 160, 3) := by decide +kernel
theorem dX6_init_73 : decode cX6_init 73 = .ok (.newarray .int, 2) := by decide +kernel
theorem dX6_init_75 : decode cX6_init 75 = .ok (.putfield 37, 3) := by decide +kernel
theorem dX6_init_78 : decode cX6_init 78 = .ok (.aload_n 0, 1) := by decide +kernel
theorem dX6_init_79 : decode cX6_init 79 = .ok (.iconst 4, 1) := by decide +kernel
theorem dX6_init_80 : decode cX6_init 80 = .ok (.anewarray 41, 3) := by decide +kernel
theorem dX6_init_83 : decode cX6_init 83 = .ok (.putfield 43, 3) := by decide +kernel
theorem dX6_init_86 : decode cX6_init 86 = .ok (.sipush 160, 3) := by decide +kernel
theorem dX6_init_89 : decode cX6_init 89 = .ok (.newarray .int, 2) := by decide +kernel
theorem dX6_init_91 : decode cX6_init 91 = .ok (.astore_n 1, 1) := by decide +kernel
theorem dX6_init_92 : decode cX6_init 92 = .ok (.iconst 0, 1) := by decide +kernel
theorem dX6_init_93 : decode cX6_init 93 = .ok (.istore_n 2, 1) := by decide +kernel
theorem dX6_init_94 : decode cX6_init 94 = .ok (.iload_n 2, 1) := by decide +kernel
theorem dX6_init_95 : decode cX6_init 95 = .ok (.bipush 6, 2) := by decide +kernel
theorem dX6_init_97 : decode cX6_init 97 = .ok (.if_icmp .ge 23, 3) := by decide +kernel
theorem dX6_init_100 : decode cX6_init 100 = .ok (.aload_n 0, 1) := by decide +kernel
theorem dX6_init_101 : decode cX6_init 101 = .ok (.getfield 11, 3) := by decide +kernel
theorem dX6_init_104 : decode cX6_init 104 = .ok (.iload_n 2, 1) := by decide +kernel
theorem dX6_init_105 : decode cX6_init 105 = .ok (.new 9, 3) := by decide +kernel
theorem dX6_init_108 : decode cX6_init 108 = .ok (.dup, 1) := by decide +kernel
theorem dX6_init_109 : decode cX6_init 109 = .ok (.aload_n 1, 1) := by decide +kernel
theorem dX6_init_110 : decode cX6_init 110 = .ok (.invokespecial 47, 3) := by decide +kernel
theorem dX6_init_113 : decode cX6_init 113 = .ok (.aastore, 1) := by decide +kernel
theorem dX6_init_114 : decode cX6_init 114 = .ok (.iinc 2 1, 3) := by decide +kernel
theorem dX6_init_117 : decode cX6_init 117 = .ok (.goto (-23), 3) := by decide +kernel
theorem dX6_init_120 : decode cX6_init 120 = .ok (.iconst 0, 1) := by decide +kernel
theorem dX6_init_121 : decode cX6_init 121 = .ok (.istore_n 2, 1) := by decide +kernel
theorem dX6_init_122 : decode cX6_init 122 = .ok (.iload_n 2, 1) := by decide +kernel
theorem dX6_init_123 : decode cX6_init 123 = .ok (.iconst 4, 1) := by decide +kernel
theorem dX6_init_124 : decode cX6_init 124 = .ok (.if_icmp .ge 22, 3) := by decide +kernel
theorem dX6_init_127 : decode cX6_init 127 = .ok (.aload_n 0, 1) := by decide +kernel
theorem dX6_init_128 : decode cX6_init 128 = .ok (.getfield 43, 3) := by decide +kernel
theorem dX6_init_131 : decode cX6_init 131 = .ok (.iload_n 2, 1) := by decide +kernel
theorem dX6_init_132 : decode cX6_init 132 = .ok (.new 41, 3) := by decide +kernel
theorem dX6_init_135 : decode cX6_init 135 = .ok (.dup, 1) := by decide +kernel
theorem dX6_init_136 : decode cX6_init 136 = .ok (.invokespecial 50, 3) := by decide +kernel
theorem dX6_init_139 : decode cX6_init 139 = .ok (.aastore, 1) := by decide +kernel
theorem dX6_init_140 : decode cX6_init 140 = .ok (.iinc 2 1, 3) := by decide +kernel
theorem dX6_init_143 : decode cX6_init 143 = .ok (.goto (-21), 3) := by decide +kernel
theorem dX6_init_146 : decode cX6_init 146 = .ok (.iconst 0, 1) := by decide +kernel
theorem dX6_init_147 : decode cX6_init 147 = .ok (.istore_n 2, 1) := by decide +kernel
theorem dX6_init_148 : decode cX6_init 148 = .ok (.iload_n 2, 1) := by decide +kernel
theorem dX6_init_149 : decode cX6_init 149 = .ok (.ldc 51, 2) := by decide +kernel
theorem dX6_init_151 : decode cX6_init 151 = .ok (.invokevirtual 53, 3) := by decide +kernel
theorem dX6_init_154 : decode cX6_init 154 = .ok (.if_icmp .ge 28, 3) := by decide +kernel
theorem dX6_init_157 : decode cX6_init 157 = .ok (.iload_n 2, 1) := by decide +kernel
theorem dX6_init_158 : decode cX6_init 158 = .ok (.sipush 160, 3) := by decide +kernel
theorem dX6_init_161 : decode cX6_init 161 = .ok (.if_icmp .ge 21, 3) := by decide +kernel
theorem dX6_init_164 : decode cX6_init 164 = .ok (.aload_n 0, 1) := by decide +kernel
theorem dX6_init_165 : decode cX6_init 165 = .ok (.getfield 37, 3) := by decide +kernel
theorem dX6_init_168 : decode cX6_init 168 = .ok (.iload_n 2, 1) := by decide +kernel
theorem dX6_init_169 : decode cX6_init 169 = .ok (.ldc 51, 2) := by decide +kernel
theorem dX6_init_171 : decode cX6_init 171 = .ok (.iload_n 2, 1) := by decide +kernel
theorem dX6_init_172 : decode cX6_init 172 = .ok (.invokevirtual 59, 3) := by decide +kernel
theorem dX6_init_175 : decode cX6_init 175 = .ok (.iastore, 1) := by decide +kernel
theorem dX6_init_176 : decode cX6_init 176 = .ok (.iinc 2 1, 3) := by decide +kernel
theorem dX6_init_179 : decode cX6_init 179 = .ok (.goto (-31), 3) := by decide +kernel
theorem dX6_init_182 : decode cX6_init 182 = .ok (.aload_n 0, 1) := by decide +kernel
theorem dX6_init_183 : decode cX6_init 183 = .ok (.getfield 33, 3) := by decide +kernel
theorem dX6_init_186 : decode cX6_init 186 = .ok (.aload_n 0, 1) := by decide +kernel
theorem dX6_init_187 : decode cX6_init 187 = .ok (.getfield 37, 3) := by decide +kernel
theorem dX6_init_190 : decode cX6_init 190 = .ok (.ldc 51, 2) := by decide +kernel
theorem dX6_init_192 : decode cX6_init 192 = .ok (.invokevirtual 53, 3) := by decide +kernel
theorem dX6_init_195 : decode cX6_init 195 = .ok (.aload_n 0, 1) := by decide +kernel
theorem dX6_init_196 : decode cX6_init 196 = .ok (.getfield 11, 3) := by decide +kernel
theorem dX6_init_199 : decode cX6_init 199 = .ok (.iconst 0, 1) := by decide +kernel
theorem dX6_init_200 : decode cX6_init 200 = .ok (.aaload, 1) := by decide +kernel
theorem dX6_init_201 : decode cX6_init 201 = .ok (.invokevirtual 63, 3) := by decide +kernel
theorem dX6_init_204 : decode cX6_init 204 = .ok (.pop, 1) := by decide +kernel
theorem dX6_init_205 : decode cX6_init 205 = .ok (.aload_n 0, 1) := by decide +kernel
theorem dX6_init_206 : decode cX6_init 206 = .ok (.iconst 1, 1) := by decide +kernel
theorem dX6_init_207 : decode cX6_init 207 = .ok (.putfield 67, 3) := by decide +kernel
theorem dX6_init_210 : decode cX6_init 210 = .ok (.return_, 1) := by decide +kernel
theorem dX6_count_0 : decode cX6_count 0 = .ok (.iload_n 1, 1) := by decide +kernel
theorem dX6_count_1 : decode cX6_count 1 = .ok (.tableswitch 81 0 5 #[39, 47, 55, 63, 68, 76], 39) := by decide +kernel
theorem dX6_count_40 : decode cX6_count 40 = .ok (.aload_n 0, 1) := by decide +kernel
theorem dX6_count_41 : decode cX6_count 41 = .ok (.getfield 20, 3) := by decide +kernel
theorem dX6_count_44 : decode cX6_count 44 = .ok (.getfield 71, 3) := by decide +kernel
theorem dX6_count_47 : decode cX6_count 47 = .ok (.ireturn, 1) := by decide +kernel
theorem dX6_count_48 : decode cX6_count 48 = .ok (.aload_n 0, 1) := by decide +kernel
theorem dX6_count_49 : decode cX6_count 49 = .ok (.getfield 20, 3) := by decide +kernel
theorem dX6_count_52 : decode cX6_count 52 = .ok (.getfield 74, 3) := by decide +kernel
theorem dX6_count_55 : decode cX6_count 55 = .ok (.ireturn, 1) := by decide +kernel
theorem dX6_count_56 : decode cX6_count 56 = .ok (.aload_n 0, 1) := by decide +kernel
theorem dX6_count_57 : decode cX6_count 57 = .ok (.getfield 20, 3) := by decide +kernel
theorem dX6_count_60 : decode cX6_count 60 = .ok (.invokevirtual 77, 3) := by decide +kernel
theorem dX6_count_63 : decode cX6_count 63 = .ok (.ireturn, 1) := by decide +kernel
theorem dX6_count_64 : decode cX6_count 64 = .ok (.aload_n 0, 1) := by decide +kernel
theorem dX6_count_65 : decode cX6_count 65 = .ok (.getfield 67, 3) := by decide +kernel
theorem dX6_count_68 : decode cX6_count 68 = .ok (.ireturn, 1) := by decide +kernel
theorem dX6_count_69 : decode cX6_count 69 = .ok (.aload_n 0, 1) := by decide +kernel
theorem dX6_count_70 : decode cX6_count 70 = .ok (.getfield 20, 3) := by decide +kernel
theorem dX6_count_73 : decode cX6_count 73 = .ok (.getfield 80, 3) := by decide +kernel
theorem dX6_count_76 : decode cX6_count 76 = .ok (.ireturn, 1) := by decide +kernel
theorem dX6_count_77 : decode cX6_count 77 = .ok (.aload_n 0, 1) := by decide +kernel
theorem dX6_count_78 : decode cX6_count 78 = .ok (.getfield 83, 3) := by decide +kernel
theorem dX6_count_81 : decode cX6_count 81 = .ok (.ireturn, 1) := by decide +kernel
theorem dX6_count_82 : decode cX6_count 82 = .ok (.bipush (-2), 2) := by decide +kernel
theorem dX6_count_84 : decode cX6_count 84 = .ok (.ireturn, 1) := by decide +kernel
theorem dX6_feed_0 : decode cX6_feed 0 = .ok (.iload_n 1, 1) := by decide +kernel
theorem dX6_feed_1 : decode cX6_feed 1 = .ok (.iconst 1, 1) := by decide +kernel
theorem dX6_feed_2 : decode cX6_feed 2 = .ok (.iconst 5, 1) := by decide +kernel
theorem dX6_feed_3 : decode cX6_feed 3 = .ok (.invokestatic 86, 3) := by decide +kernel
theorem dX6_feed_6 : decode cX6_feed 6 = .ok (.ifCond .eq 41, 3) := by decide +kernel
theorem dX6_feed_9 : decode cX6_feed 9 = .ok (.iload_n 2, 1) := by decide +kernel
theorem dX6_feed_10 : decode cX6_feed 10 = .ok (.invokestatic 90, 3) := by decide +kernel
theorem dX6_feed_13 : decode cX6_feed 13 = .ok (.ifCond .eq 34, 3) := by decide +kernel
theorem dX6_feed_16 : decode cX6_feed 16 = .ok (.iload_n 3, 1) := by decide +kernel
theorem dX6_feed_17 : decode cX6_feed 17 = .ok (.invokestatic 90, 3) := by decide +kernel
theorem dX6_feed_20 : decode cX6_feed 20 = .ok (.ifCond .eq 27, 3) := by decide +kernel
theorem dX6_feed_23 : decode cX6_feed 23 = .ok (.iload 4, 2) := by decide +kernel
theorem dX6_feed_25 : decode cX6_feed 25 = .ok (.invokestatic 90, 3) := by decide +kernel
theorem dX6_feed_28 : decode cX6_feed 28 = .ok (.ifCond .eq 19, 3) := by decide +kernel
theorem dX6_feed_31 : decode cX6_feed 31 = .ok (.iload 5, 2) := by decide +kernel
theorem dX6_feed_33 : decode cX6_feed 33 = .ok (.invokestatic 90, 3) := by decide +kernel
theorem dX6_feed_36 : decode cX6_feed 36 = .ok (.ifCond .eq 11, 3) := by decide +kernel
theorem dX6_feed_39 : decode cX6_feed 39 = .ok (.iload 6, 2) := by decide +kernel
theorem dX6_feed_41 : decode cX6_feed 41 = .ok (.invokestatic 90, 3) := by decide +kernel
theorem dX6_feed_44 : decode cX6_feed 44 = .ok (.ifCond .ne 6, 3) := by decide +kernel
theorem dX6_feed_47 : decode cX6_feed 47 = .ok (.bipush (-2), 2) := by decide +kernel
theorem dX6_feed_49 : decode cX6_feed 49 = .ok (.ireturn, 1) := by decide +kernel
theorem dX6_feed_50 : decode cX6_feed 50 = .ok (.aload_n 0, 1) := by decide +kernel
theorem dX6_feed_51 : decode cX6_feed 51 = .ok (.getfield 83, 3) := by decide +kernel
theorem dX6_feed_54 : decode cX6_feed 54 = .ok (.iload_n 1, 1) := by decide +kernel
theorem dX6_feed_55 : decode cX6_feed 55 = .ok (.iadd, 1) := by decide +kernel
theorem dX6_feed_56 : decode cX6_feed 56 = .ok (.sipush 160, 3) := by decide +kernel
theorem dX6_feed_59 : decode cX6_feed 59 = .ok (.if_icmp .le 6, 3) := by decide +kernel
theorem dX6_feed_62 : decode cX6_feed 62 = .ok (.bipush (-4), 2) := by decide +kernel
theorem dX6_feed_64 : decode cX6_feed 64 = .ok (.ireturn, 1) := by decide +kernel
theorem dX6_feed_65 : decode cX6_feed 65 = .ok (.iconst 0, 1) := by decide +kernel
theorem dX6_feed_66 : decode cX6_feed 66 = .ok (.istore 7, 2) := by decide +kernel
theorem dX6_feed_68 : decode cX6_feed 68 = .ok (.iload 7, 2) := by decide +kernel
theorem dX6_feed_70 : decode cX6_feed 70 = .ok (.iload_n 1, 1) := by decide +kernel
theorem dX6_feed_71 : decode cX6_feed 71 = .ok (.if_icmp .ge 71, 3) := by decide +kernel
theorem dX6_feed_74 : decode cX6_feed 74 = .ok (.aload_n 0, 1) := by decide +kernel
theorem dX6_feed_75 : decode cX6_feed 75 = .ok (.getfield 37, 3) := by decide +kernel
theorem dX6_feed_78 : decode cX6_feed 78 = .ok (.aload_n 0, 1) := by decide +kernel
theorem dX6_feed_79 : decode cX6_feed 79 = .ok (.getfield 83, 3) := by decide +kernel
theorem dX6_feed_82 : decode cX6_feed 82 = .ok (.iload 7, 2) := by decide +kernel
theorem dX6_feed_84 : decode cX6_feed 84 = .ok (.ifCond .ne 7, 3) := by decide +kernel
theorem dX6_feed_87 : decode cX6_feed 87 = .ok (.iload_n 2, 1) := by decide +kernel
theorem dX6_feed_88 : decode cX6_feed 88 = .ok (.goto 37, 3) := by decide +kernel
theorem dX6_feed_91 : decode cX6_feed 91 = .ok (.iload 7, 2) := by decide +kernel
theorem dX6_feed_93 : decode cX6_feed 93 = .ok (.iconst 1, 1) := by decide +kernel
theorem dX6_feed_94 : decode cX6_feed 94 = .ok (.if_icmp .ne 7, 3) := by decide +kernel
theorem dX6_feed_97 : decode cX6_feed 97 = .ok (.iload_n 3, 1) := by decide +kernel
theorem dX6_feed_98 : decode cX6_feed 98 = .ok (.goto 27, 3) := by decide +kernel
theorem dX6_feed_101 : decode cX6_feed 101 = .ok (.iload 7, 2) := by decide +kernel
theorem dX6_feed_103 : decode cX6_feed 103 = .ok (.iconst 2, 1) := by decide +kernel
theorem dX6_feed_104 : decode cX6_feed 104 = .ok (.if_icmp .ne 8, 3) := by decide +kernel
theorem dX6_feed_107 : decode cX6_feed 107 = .ok (.iload 4, 2) := by decide +kernel
theorem dX6_feed_109 : decode cX6_feed 109 = .ok (.goto 16, 3) := by decide +kernel
theorem dX6_feed_112 : decode cX6_feed 112 = .ok (.iload 7, 2) := by decide +kernel
theorem dX6_feed_114 : decode cX6_feed 114 = .ok (.iconst 3, 1) := by decide +kernel
theorem dX6_feed_115 : decode cX6_feed 115 = .ok (.if_icmp .ne 8, 3) := by decide +kernel
theorem dX6_feed_118 : decode cX6_feed 118 = .ok (.iload 5, 2) := by decide +kernel
theorem dX6_feed_120 : decode cX6_feed 120 = .ok (.goto 5, 3) := by decide +kernel
theorem dX6_feed_123 : decode cX6_feed 123 = .ok (.iload 6, 2) := by decide +kernel
theorem dX6_feed_125 : decode cX6_feed 125 = .ok (.iastore, 1) := by decide +kernel
theorem dX6_feed_126 : decode cX6_feed 126 = .ok (.aload_n 0, 1) := by decide +kernel
theorem dX6_feed_127 : decode cX6_feed 127 = .ok (.dup, 1) := by decide +kernel
theorem dX6_feed_128 : decode cX6_feed 128 = .ok (.getfield 83, 3) := by decide +kernel
theorem dX6_feed_131 : decode cX6_feed 131 = .ok (.iconst 1, 1) := by decide +kernel
theorem dX6_feed_132 : decode cX6_feed 132 = .ok (.iadd, 1) := by decide +kernel
theorem dX6_feed_133 : decode cX6_feed 133 = .ok (.putfield 83, 3) := by decide +kernel
theorem dX6_feed_136 : decode cX6_feed 136 = .ok (.iinc 7 1, 3) := by decide +kernel
theorem dX6_feed_139 : decode cX6_feed 139 = .ok (.goto (-71), 3) := by decide +kernel
theorem dX6_feed_142 : decode cX6_feed 142 = .ok (.aload_n 0, 1) := by decide +kernel
theorem dX6_feed_143 : decode cX6_feed 143 = .ok (.getfield 83, 3) := by decide +kernel
theorem dX6_feed_146 : decode cX6_feed 146 = .ok (.ireturn, 1) := by decide +kernel
theorem dX6_text_0 : decode cX6_text 0 = .ok (.aload_n 0, 1) := by decide +kernel
theorem dX6_text_1 : decode cX6_text 1 = .ok (.getfield 67, 3) := by decide +kernel
theorem dX6_text_4 : decode cX6_text 4 = .ok (.bipush 6, 2) := by decide +kernel
theorem dX6_text_6 : decode cX6_text 6 = .ok (.if_icmp .lt 6, 3) := by decide +kernel
theorem dX6_text_9 : decode cX6_text 9 = .ok (.bipush (-4), 2) := by decide +kernel
theorem dX6_text_11 : decode cX6_text 11 = .ok (.ireturn, 1) := by decide +kernel
theorem dX6_text_12 : decode cX6_text 12 = .ok (.aload_n 0, 1) := by decide +kernel
theorem dX6_text_13 : decode cX6_text 13 = .ok (.getfield 33, 3) := by decide +kernel
theorem dX6_text_16 : decode cX6_text 16 = .ok (.aload_n 0, 1) := by decide +kernel
theorem dX6_text_17 : decode cX6_text 17 = .ok (.getfield 37, 3) := by decide +kernel
theorem dX6_text_20 : decode cX6_text 20 = .ok (.aload_n 0, 1) := by decide +kernel
theorem dX6_text_21 : decode cX6_text 21 = .ok (.getfield 83, 3) := by decide +kernel
theorem dX6_text_24 : decode cX6_text 24 = .ok (.aload_n 0, 1) := by decide +kernel
theorem dX6_text_25 : decode cX6_text 25 = .ok (.getfield 11, 3) := by decide +kernel
theorem dX6_text_28 : decode cX6_text 28 = .ok (.aload_n 0, 1) := by decide +kernel
theorem dX6_text_29 : decode cX6_text 29 = .ok (.getfield 67, 3) := by decide +kernel
theorem dX6_text_32 : decode cX6_text 32 = .ok (.aaload, 1) := by decide +kernel
theorem dX6_text_33 : decode cX6_text 33 = .ok (.invokevirtual 63, 3) := by decide +kernel
theorem dX6_text_36 : decode cX6_text 36 = .ok (.istore_n 1, 1) := by decide +kernel
theorem dX6_text_37 : decode cX6_text 37 = .ok (.aload_n 0, 1) := by decide +kernel
theorem dX6_text_38 : decode cX6_text 38 = .ok (.iconst 0, 1) := by decide +kernel
theorem dX6_text_39 : decode cX6_text 39 = .ok (.putfield 83, 3) := by decide +kernel
theorem dX6_text_42 : decode cX6_text 42 = .ok (.iload_n 1, 1) := by decide +kernel
theorem dX6_text_43 : decode cX6_text 43 = .ok (.iconst (-1), 1) := by decide +kernel
theorem dX6_text_44 : decode cX6_text 44 = .ok (.if_icmp .eq 8, 3) := by decide +kernel
theorem dX6_text_47 : decode cX6_text 47 = .ok (.bipush (-100), 2) := by decide +kernel
theorem dX6_text_49 : decode cX6_text 49 = .ok (.iload_n 1, 1) := by decide +kernel
theorem dX6_text_50 : decode cX6_text 50 = .ok (.isub, 1) := by decide +kernel
theorem dX6_text_51 : decode cX6_text 51 = .ok (.ireturn, 1) := by decide +kernel
theorem dX6_text_52 : decode cX6_text 52 = .ok (.aload_n 0, 1) := by decide +kernel
theorem dX6_text_53 : decode cX6_text 53 = .ok (.dup, 1) := by decide +kernel
theorem dX6_text_54 : decode cX6_text 54 = .ok (.getfield 67, 3) := by decide +kernel
theorem dX6_text_57 : decode cX6_text 57 = .ok (.iconst 1, 1) := by decide +kernel
theorem dX6_text_58 : decode cX6_text 58 = .ok (.iadd, 1) := by decide +kernel
theorem dX6_text_59 : decode cX6_text 59 = .ok (.putfield 67, 3) := by decide +kernel
theorem dX6_text_62 : decode cX6_text 62 = .ok (.aload_n 0, 1) := by decide +kernel
theorem dX6_text_63 : decode cX6_text 63 = .ok (.getfield 67, 3) := by decide +kernel
theorem dX6_text_66 : decode cX6_text 66 = .ok (.iconst 1, 1) := by decide +kernel
theorem dX6_text_67 : decode cX6_text 67 = .ok (.isub, 1) := by decide +kernel
theorem dX6_text_68 : decode cX6_text 68 = .ok (.ireturn, 1) := by decide +kernel
theorem dX6_force_0 : decode cX6_force 0 = .ok (.iload_n 1, 1) := by decide +kernel
theorem dX6_force_1 : decode cX6_force 1 = .ok (.iconst 0, 1) := by decide +kernel
theorem dX6_force_2 : decode cX6_force 2 = .ok (.aload_n 0, 1) := by decide +kernel
theorem dX6_force_3 : decode cX6_force 3 = .ok (.getfield 67, 3) := by decide +kernel
theorem dX6_force_6 : decode cX6_force 6 = .ok (.iconst 1, 1) := by decide +kernel
theorem dX6_force_7 : decode cX6_force 7 = .ok (.isub, 1) := by decide +kernel
theorem dX6_force_8 : decode cX6_force 8 = .ok (.invokestatic 86, 3) := by decide +kernel
theorem dX6_force_11 : decode cX6_force 11 = .ok (.ifCond .ne 6, 3) := by decide +kernel
theorem dX6_force_14 : decode cX6_force 14 = .ok (.bipush (-2), 2) := by decide +kernel
theorem dX6_force_16 : decode cX6_force 16 = .ok (.ireturn, 1) := by decide +kernel
theorem dX6_force_17 : decode cX6_force 17 = .ok (.aload_n 0, 1) := by decide +kernel
theorem dX6_force_18 : decode cX6_force 18 = .ok (.getfield 20, 3) := by decide +kernel
theorem dX6_force_21 : decode cX6_force 21 = .ok (.getfield 80, 3) := by decide +kernel
theorem dX6_force_24 : decode cX6_force 24 = .ok (.istore_n 2, 1) := by decide +kernel
theorem dX6_force_25 : decode cX6_force 25 = .ok (.aload_n 0, 1) := by decide +kernel
theorem dX6_force_26 : decode cX6_force 26 = .ok (.getfield 20, 3) := by decide +kernel
theorem dX6_force_29 : decode cX6_force 29 = .ok (.iload_n 1, 1) := by decide +kernel
theorem dX6_force_30 : decode cX6_force 30 = .ok (.putfield 80, 3) := by decide +kernel
theorem dX6_force_33 : decode cX6_force 33 = .ok (.iload_n 2, 1) := by decide +kernel
theorem dX6_force_34 : decode cX6_force 34 = .ok (.ireturn, 1) := by decide +kernel
theorem dX6_asks_0 : decode cX6_asks 0 = .ok (.iload_n 1, 1) := by decide +kernel
theorem dX6_asks_1 : decode cX6_asks 1 = .ok (.iconst 0, 1) := by decide +kernel
theorem dX6_asks_2 : decode cX6_asks 2 = .ok (.iconst 2, 1) := by decide +kernel
theorem dX6_asks_3 : decode cX6_asks 3 = .ok (.invokestatic 86, 3) := by decide +kernel
theorem dX6_asks_6 : decode cX6_asks 6 = .ok (.ifCond .eq 35, 3) := by decide +kernel
theorem dX6_asks_9 : decode cX6_asks 9 = .ok (.aload_n 0, 1) := by decide +kernel
theorem dX6_asks_10 : decode cX6_asks 10 = .ok (.iload_n 2, 1) := by decide +kernel
theorem dX6_asks_11 : decode cX6_asks 11 = .ok (.invokevirtual 94, 3) := by decide +kernel
theorem dX6_asks_14 : decode cX6_asks 14 = .ok (.ifCond .eq 27, 3) := by decide +kernel
theorem dX6_asks_17 : decode cX6_asks 17 = .ok (.aload_n 0, 1) := by decide +kernel
theorem dX6_asks_18 : decode cX6_asks 18 = .ok (.getfield 11, 3) := by decide +kernel
theorem dX6_asks_21 : decode cX6_asks 21 = .ok (.aload_n 0, 1) := by decide +kernel
theorem dX6_asks_22 : decode cX6_asks 22 = .ok (.getfield 20, 3) := by decide +kernel
theorem dX6_asks_25 : decode cX6_asks 25 = .ok (.getfield 80, 3) := by decide +kernel
theorem dX6_asks_28 : decode cX6_asks 28 = .ok (.aaload, 1) := by decide +kernel
theorem dX6_asks_29 : decode cX6_asks 29 = .ok (.iload_n 1, 1) := by decide +kernel
theorem dX6_asks_30 : decode cX6_asks 30 = .ok (.aload_n 0, 1) := by decide +kernel
theorem dX6_asks_31 : decode cX6_asks 31 = .ok (.getfield 20, 3) := by decide +kernel
theorem dX6_asks_34 : decode cX6_asks 34 = .ok (.iload_n 2, 1) := by decide +kernel
theorem dX6_asks_35 : decode cX6_asks 35 = .ok (.invokevirtual 97, 3) := by decide +kernel
theorem dX6_asks_38 : decode cX6_asks 38 = .ok (.goto 6, 3) := by decide +kernel
theorem dX6_asks_41 : decode cX6_asks 41 = .ok (.sipush (-1000), 3) := by decide +kernel
theorem dX6_asks_44 : decode cX6_asks 44 = .ok (.ireturn, 1) := by decide +kernel
theorem dX6_hat_0 : decode cX6_hat 0 = .ok (.iload_n 1, 1) := by decide +kernel
theorem dX6_hat_1 : decode cX6_hat 1 = .ok (.iconst 0, 1) := by decide +kernel
theorem dX6_hat_2 : decode cX6_hat 2 = .ok (.bipush 59, 2) := by decide +kernel
theorem dX6_hat_4 : decode cX6_hat 4 = .ok (.invokestatic 86, 3) := by decide +kernel
theorem dX6_hat_7 : decode cX6_hat 7 = .ok (.ifCond .eq 24, 3) := by decide +kernel
theorem dX6_hat_10 : decode cX6_hat 10 = .ok (.iload_n 2, 1) := by decide +kernel
theorem dX6_hat_11 : decode cX6_hat 11 = .ok (.iconst 0, 1) := by decide +kernel
theorem dX6_hat_12 : decode cX6_hat 12 = .ok (.bipush 63, 2) := by decide +kernel
theorem dX6_hat_14 : decode cX6_hat 14 = .ok (.invokestatic 86, 3) := by decide +kernel
theorem dX6_hat_17 : decode cX6_hat 17 = .ok (.ifCond .eq 14, 3) := by decide +kernel
theorem dX6_hat_20 : decode cX6_hat 20 = .ok (.iload_n 3, 1) := by decide +kernel
theorem dX6_hat_21 : decode cX6_hat 21 = .ok (.iconst 0, 1) := by decide +kernel
theorem dX6_hat_22 : decode cX6_hat 22 = .ok (.sipush 9999, 3) := by decide +kernel
theorem dX6_hat_25 : decode cX6_hat 25 = .ok (.invokestatic 86, 3) := by decide +kernel
theorem dX6_hat_28 : decode cX6_hat 28 = .ok (.ifCond .ne 6, 3) := by decide +kernel
theorem dX6_hat_31 : decode cX6_hat 31 = .ok (.bipush (-2), 2) := by decide +kernel
theorem dX6_hat_33 : decode cX6_hat 33 = .ok (.ireturn, 1) := by decide +kernel
theorem dX6_hat_34 : decode cX6_hat 34 = .ok (.aload_n 0, 1) := by decide +kernel
theorem dX6_hat_35 : decode cX6_hat 35 = .ok (.getfield 20, 3) := by decide +kernel
theorem dX6_hat_38 : decode cX6_hat 38 = .ok (.getfield 71, 3) := by decide +kernel
theorem dX6_hat_41 : decode cX6_hat 41 = .ok (.bipush 6, 2) := by decide +kernel
theorem dX6_hat_43 : decode cX6_hat 43 = .ok (.if_icmp .lt 6, 3) := by decide +kernel
theorem dX6_hat_46 : decode cX6_hat 46 = .ok (.bipush (-4), 2) := by decide +kernel
theorem dX6_hat_48 : decode cX6_hat 48 = .ok (.ireturn, 1) := by decide +kernel
theorem dX6_hat_49 : decode cX6_hat 49 = .ok (.aload_n 0, 1) := by decide +kernel
theorem dX6_hat_50 : decode cX6_hat 50 = .ok (.getfield 20, 3) := by decide +kernel
theorem dX6_hat_53 : decode cX6_hat 53 = .ok (.iload_n 1, 1) := by decide +kernel
theorem dX6_hat_54 : decode cX6_hat 54 = .ok (.iload_n 2, 1) := by decide +kernel
theorem dX6_hat_55 : decode cX6_hat 55 = .ok (.iload_n 3, 1) := by decide +kernel
theorem dX6_hat_56 : decode cX6_hat 56 = .ok (.invokevirtual 101, 3) := by decide +kernel
theorem dX6_hat_59 : decode cX6_hat 59 = .ok (.aload_n 0, 1) := by decide +kernel
theorem dX6_hat_60 : decode cX6_hat 60 = .ok (.getfield 20, 3) := by decide +kernel
theorem dX6_hat_63 : decode cX6_hat 63 = .ok (.getfield 71, 3) := by decide +kernel
theorem dX6_hat_66 : decode cX6_hat 66 = .ok (.iconst 1, 1) := by decide +kernel
theorem dX6_hat_67 : decode cX6_hat 67 = .ok (.isub, 1) := by decide +kernel
theorem dX6_hat_68 : decode cX6_hat 68 = .ok (.ireturn, 1) := by decide +kernel
theorem dX6_put_0 : decode cX6_put 0 = .ok (.aload_n 0, 1) := by decide +kernel
theorem dX6_put_1 : decode cX6_put 1 = .ok (.iload_n 1, 1) := by decide +kernel
theorem dX6_put_2 : decode cX6_put 2 = .ok (.invokevirtual 94, 3) := by decide +kernel
theorem dX6_put_5 : decode cX6_put 5 = .ok (.ifCond .ne 6, 3) := by decide +kernel
theorem dX6_put_8 : decode cX6_put 8 = .ok (.bipush (-5), 2) := by decide +kernel
theorem dX6_put_10 : decode cX6_put 10 = .ok (.ireturn, 1) := by decide +kernel
theorem dX6_put_11 : decode cX6_put 11 = .ok (.aload_n 0, 1) := by decide +kernel
theorem dX6_put_12 : decode cX6_put 12 = .ok (.getfield 20, 3) := by decide +kernel
theorem dX6_put_15 : decode cX6_put 15 = .ok (.iload_n 2, 1) := by decide +kernel
theorem dX6_put_16 : decode cX6_put 16 = .ok (.invokevirtual 105, 3) := by decide +kernel
theorem dX6_put_19 : decode cX6_put 19 = .ok (.astore 4, 2) := by decide +kernel
theorem dX6_put_21 : decode cX6_put 21 = .ok (.aload 4, 2) := by decide +kernel
theorem dX6_put_23 : decode cX6_put 23 = .ok (.ifnull 22, 3) := by decide +kernel
theorem dX6_put_26 : decode cX6_put 26 = .ok (.iload_n 3, 1) := by decide +kernel
theorem dX6_put_27 : decode cX6_put 27 = .ok (.iconst 0, 1) := by decide +kernel
theorem dX6_put_28 : decode cX6_put 28 = .ok (.iload_n 2, 1) := by decide +kernel
theorem dX6_put_29 : decode cX6_put 29 = .ok (.ifCond .ne 8, 3) := by decide +kernel
theorem dX6_put_32 : decode cX6_put 32 = .ok (.bipush 63, 2) := by decide +kernel
theorem dX6_put_34 : decode cX6_put 34 = .ok (.goto 5, 3) := by decide +kernel
theorem dX6_put_37 : decode cX6_put 37 = .ok (.bipush 99, 2) := by decide +kernel
theorem dX6_put_39 : decode cX6_put 39 = .ok (.invokestatic 86, 3) := by decide +kernel
theorem dX6_put_42 : decode cX6_put 42 = .ok (.ifCond .ne 6, 3) := by decide +kernel
theorem dX6_put_45 : decode cX6_put 45 = .ok (.bipush (-7), 2) := by decide +kernel
theorem dX6_put_47 : decode cX6_put 47 = .ok (.ireturn, 1) := by decide +kernel
theorem dX6_put_48 : decode cX6_put 48 = .ok (.aload 4, 2) := by decide +kernel
theorem dX6_put_50 : decode cX6_put 50 = .ok (.iload_n 1, 1) := by decide +kernel
theorem dX6_put_51 : decode cX6_put 51 = .ok (.iaload, 1) := by decide +kernel
theorem dX6_put_52 : decode cX6_put 52 = .ok (.istore 5, 2) := by decide +kernel
theorem dX6_put_54 : decode cX6_put 54 = .ok (.aload 4, 2) := by decide +kernel
theorem dX6_put_56 : decode cX6_put 56 = .ok (.iload_n 1, 1) := by decide +kernel
theorem dX6_put_57 : decode cX6_put 57 = .ok (.iload_n 3, 1) := by decide +kernel
theorem dX6_put_58 : decode cX6_put 58 = .ok (.iastore, 1) := by decide +kernel
theorem dX6_put_59 : decode cX6_put 59 = .ok (.iload 5, 2) := by decide +kernel
theorem dX6_put_61 : decode cX6_put 61 = .ok (.ireturn, 1) := by decide +kernel
theorem dX6_told_0 : decode cX6_told 0 = .ok (.aload_n 0, 1) := by decide +kernel
theorem dX6_told_1 : decode cX6_told 1 = .ok (.iload_n 1, 1) := by decide +kernel
theorem dX6_told_2 : decode cX6_told 2 = .ok (.invokevirtual 94, 3) := by decide +kernel
theorem dX6_told_5 : decode cX6_told 5 = .ok (.ifCond .ne 6, 3) := by decide +kernel
theorem dX6_told_8 : decode cX6_told 8 = .ok (.bipush (-5), 2) := by decide +kernel
theorem dX6_told_10 : decode cX6_told 10 = .ok (.ireturn, 1) := by decide +kernel
theorem dX6_told_11 : decode cX6_told 11 = .ok (.aload_n 0, 1) := by decide +kernel
theorem dX6_told_12 : decode cX6_told 12 = .ok (.getfield 20, 3) := by decide +kernel
theorem dX6_told_15 : decode cX6_told 15 = .ok (.iload_n 2, 1) := by decide +kernel
theorem dX6_told_16 : decode cX6_told 16 = .ok (.invokevirtual 105, 3) := by decide +kernel
theorem dX6_told_19 : decode cX6_told 19 = .ok (.astore_n 3, 1) := by decide +kernel
theorem dX6_told_20 : decode cX6_told 20 = .ok (.aload_n 3, 1) := by decide +kernel
theorem dX6_told_21 : decode cX6_told 21 = .ok (.ifnull 7, 3) := by decide +kernel
theorem dX6_told_24 : decode cX6_told 24 = .ok (.aload_n 3, 1) := by decide +kernel
theorem dX6_told_25 : decode cX6_told 25 = .ok (.iload_n 1, 1) := by decide +kernel
theorem dX6_told_26 : decode cX6_told 26 = .ok (.iaload, 1) := by decide +kernel
theorem dX6_told_27 : decode cX6_told 27 = .ok (.ireturn, 1) := by decide +kernel
theorem dX6_told_28 : decode cX6_told 28 = .ok (.iload_n 2, 1) := by decide +kernel
theorem dX6_told_29 : decode cX6_told 29 = .ok (.tableswitch 94 4 8 #[35, 45, 55, 72, 81], 35) := by decide +kernel
theorem dX6_told_64 : decode cX6_told 64 = .ok (.aload_n 0, 1) := by decide +kernel
theorem dX6_told_65 : decode cX6_told 65 = .ok (.getfield 20, 3) := by decide +kernel
theorem dX6_told_68 : decode cX6_told 68 = .ok (.getfield 109, 3) := by decide +kernel
theorem dX6_told_71 : decode cX6_told 71 = .ok (.iload_n 1, 1) := by decide +kernel
theorem dX6_told_72 : decode cX6_told 72 = .ok (.iaload, 1) := by decide +kernel
theorem dX6_told_73 : decode cX6_told 73 = .ok (.ireturn, 1) := by decide +kernel
theorem dX6_told_74 : decode cX6_told 74 = .ok (.aload_n 0, 1) := by decide +kernel
theorem dX6_told_75 : decode cX6_told 75 = .ok (.getfield 20, 3) := by decide +kernel
theorem dX6_told_78 : decode cX6_told 78 = .ok (.getfield 112, 3) := by decide +kernel
theorem dX6_told_81 : decode cX6_told 81 = .ok (.iload_n 1, 1) := by decide +kernel
theorem dX6_told_82 : decode cX6_told 82 = .ok (.iaload, 1) := by decide +kernel
theorem dX6_told_83 : decode cX6_told 83 = .ok (.ireturn, 1) := by decide +kernel
theorem dX6_told_84 : decode cX6_told 84 = .ok (.aload_n 0, 1) := by decide +kernel
theorem dX6_told_85 : decode cX6_told 85 = .ok (.getfield 20, 3) := by decide +kernel
theorem dX6_told_88 : decode cX6_told 88 = .ok (.iload_n 1, 1) := by decide +kernel
theorem dX6_told_89 : decode cX6_told 89 = .ok (.invokevirtual 115, 3) := by decide +kernel
theorem dX6_told_92 : decode cX6_told 92 = .ok (.ifCond .eq 7, 3) := by decide +kernel
theorem dX6_told_95 : decode cX6_told 95 = .ok (.iconst 1, 1) := by decide +kernel
theorem dX6_told_96 : decode cX6_told 96 = .ok (.goto 4, 3) := by decide +kernel
theorem dX6_told_99 : decode cX6_told 99 = .ok (.iconst 0, 1) := by decide +kernel
theorem dX6_told_100 : decode cX6_told 100 = .ok (.ireturn, 1) := by decide +kernel
theorem dX6_told_101 : decode cX6_told 101 = .ok (.aload_n 0, 1) := by decide +kernel
theorem dX6_told_102 : decode cX6_told 102 = .ok (.getfield 20, 3) := by decide +kernel
theorem dX6_told_105 : decode cX6_told 105 = .ok (.iload_n 1, 1) := by decide +kernel
theorem dX6_told_106 : decode cX6_told 106 = .ok (.invokevirtual 118, 3) := by decide +kernel
theorem dX6_told_109 : decode cX6_told 109 = .ok (.ireturn, 1) := by decide +kernel
theorem dX6_told_110 : decode cX6_told 110 = .ok (.sipush 1000, 3) := by decide +kernel
theorem dX6_told_113 : decode cX6_told 113 = .ok (.aload_n 0, 1) := by decide +kernel
theorem dX6_told_114 : decode cX6_told 114 = .ok (.getfield 20, 3) := by decide +kernel
theorem dX6_told_117 : decode cX6_told 117 = .ok (.iload_n 1, 1) := by decide +kernel
theorem dX6_told_118 : decode cX6_told 118 = .ok (.invokevirtual 122, 3) := by decide +kernel
theorem dX6_told_121 : decode cX6_told 121 = .ok (.iadd, 1) := by decide +kernel
theorem dX6_told_122 : decode cX6_told 122 = .ok (.ireturn, 1) := by decide +kernel
theorem dX6_told_123 : decode cX6_told 123 = .ok (.bipush (-7), 2) := by decide +kernel
theorem dX6_told_125 : decode cX6_told 125 = .ok (.ireturn, 1) := by decide +kernel
theorem dX6_duel_0 : decode cX6_duel 0 = .ok (.aload_n 0, 1) := by decide +kernel
theorem dX6_duel_1 : decode cX6_duel 1 = .ok (.iload_n 1, 1) := by decide +kernel
theorem dX6_duel_2 : decode cX6_duel 2 = .ok (.invokevirtual 94, 3) := by decide +kernel
theorem dX6_duel_5 : decode cX6_duel 5 = .ok (.ifCond .eq 16, 3) := by decide +kernel
theorem dX6_duel_8 : decode cX6_duel 8 = .ok (.aload_n 0, 1) := by decide +kernel
theorem dX6_duel_9 : decode cX6_duel 9 = .ok (.iload_n 2, 1) := by decide +kernel
theorem dX6_duel_10 : decode cX6_duel 10 = .ok (.invokevirtual 94, 3) := by decide +kernel
theorem dX6_duel_13 : decode cX6_duel 13 = .ok (.ifCond .eq 8, 3) := by decide +kernel
theorem dX6_duel_16 : decode cX6_duel 16 = .ok (.iload_n 1, 1) := by decide +kernel
theorem dX6_duel_17 : decode cX6_duel 17 = .ok (.iload_n 2, 1) := by decide +kernel
theorem dX6_duel_18 : decode cX6_duel 18 = .ok (.if_icmp .ne 6, 3) := by decide +kernel
theorem dX6_duel_21 : decode cX6_duel 21 = .ok (.bipush (-5), 2) := by decide +kernel
theorem dX6_duel_23 : decode cX6_duel 23 = .ok (.ireturn, 1) := by decide +kernel
theorem dX6_duel_24 : decode cX6_duel 24 = .ok (.iload_n 3, 1) := by decide +kernel
theorem dX6_duel_25 : decode cX6_duel 25 = .ok (.tableswitch 87 0 3 #[31, 41, 62, 72], 31) := by decide +kernel
theorem dX6_duel_56 : decode cX6_duel 56 = .ok (.aload_n 0, 1) := by decide +kernel
theorem dX6_duel_57 : decode cX6_duel 57 = .ok (.getfield 20, 3) := by decide +kernel
theorem dX6_duel_60 : decode cX6_duel 60 = .ok (.iload_n 1, 1) := by decide +kernel
theorem dX6_duel_61 : decode cX6_duel 61 = .ok (.iload_n 2, 1) := by decide +kernel
theorem dX6_duel_62 : decode cX6_duel 62 = .ok (.invokevirtual 125, 3) := by decide +kernel
theorem dX6_duel_65 : decode cX6_duel 65 = .ok (.ireturn, 1) := by decide +kernel
theorem dX6_duel_66 : decode cX6_duel 66 = .ok (.aload_n 0, 1) := by decide +kernel
theorem dX6_duel_67 : decode cX6_duel 67 = .ok (.getfield 20, 3) := by decide +kernel
theorem dX6_duel_70 : decode cX6_duel 70 = .ok (.iload_n 1, 1) := by decide +kernel
theorem dX6_duel_71 : decode cX6_duel 71 = .ok (.iload_n 2, 1) := by decide +kernel
theorem dX6_duel_72 : decode cX6_duel 72 = .ok (.invokevirtual 125, 3) := by decide +kernel
theorem dX6_duel_75 : decode cX6_duel 75 = .ok (.aload_n 0, 1) := by decide +kernel
theorem dX6_duel_76 : decode cX6_duel 76 = .ok (.getfield 20, 3) := by decide +kernel
theorem dX6_duel_79 : decode cX6_duel 79 = .ok (.iload_n 2, 1) := by decide +kernel
theorem dX6_duel_80 : decode cX6_duel 80 = .ok (.invokevirtual 122, 3) := by decide +kernel
theorem dX6_duel_83 : decode cX6_duel 83 = .ok (.invokestatic 129, 3) := by decide +kernel
theorem dX6_duel_86 : decode cX6_duel 86 = .ok (.ireturn, 1) := by decide +kernel
theorem dX6_duel_87 : decode cX6_duel 87 = .ok (.aload_n 0, 1) := by decide +kernel
theorem dX6_duel_88 : decode cX6_duel 88 = .ok (.getfield 20, 3) := by decide +kernel
theorem dX6_duel_91 : decode cX6_duel 91 = .ok (.iload_n 1, 1) := by decide +kernel
theorem dX6_duel_92 : decode cX6_duel 92 = .ok (.iload_n 2, 1) := by decide +kernel
theorem dX6_duel_93 : decode cX6_duel 93 = .ok (.invokevirtual 132, 3) := by decide +kernel
theorem dX6_duel_96 : decode cX6_duel 96 = .ok (.ireturn, 1) := by decide +kernel
theorem dX6_duel_97 : decode cX6_duel 97 = .ok (.aload_n 0, 1) := by decide +kernel
theorem dX6_duel_98 : decode cX6_duel 98 = .ok (.getfield 20, 3) := by decide +kernel
theorem dX6_duel_101 : decode cX6_duel 101 = .ok (.getfield 135, 3) := by decide +kernel
theorem dX6_duel_104 : decode cX6_duel 104 = .ok (.iload_n 1, 1) := by decide +kernel
theorem dX6_duel_105 : decode cX6_duel 105 = .ok (.bipush 6, 2) := by decide +kernel
theorem dX6_duel_107 : decode cX6_duel 107 = .ok (.imul, 1) := by decide +kernel
theorem dX6_duel_108 : decode cX6_duel 108 = .ok (.iload_n 2, 1) := by decide +kernel
theorem dX6_duel_109 : decode cX6_duel 109 = .ok (.iadd, 1) := by decide +kernel
theorem dX6_duel_110 : decode cX6_duel 110 = .ok (.iaload, 1) := by decide +kernel
theorem dX6_duel_111 : decode cX6_duel 111 = .ok (.ireturn, 1) := by decide +kernel
theorem dX6_duel_112 : decode cX6_duel 112 = .ok (.bipush (-7), 2) := by decide +kernel
theorem dX6_duel_114 : decode cX6_duel 114 = .ok (.ireturn, 1) := by decide +kernel
theorem dX6_round_0 : decode cX6_round 0 = .ok (.aload_n 0, 1) := by decide +kernel
theorem dX6_round_1 : decode cX6_round 1 = .ok (.getfield 20, 3) := by decide +kernel
theorem dX6_round_4 : decode cX6_round 4 = .ok (.getfield 74, 3) := by decide +kernel
theorem dX6_round_7 : decode cX6_round 7 = .ok (.sipush 999, 3) := by decide +kernel
theorem dX6_round_10 : decode cX6_round 10 = .ok (.if_icmp .lt 8, 3) := by decide +kernel
theorem dX6_round_13 : decode cX6_round 13 = .ok (.bipush (-3), 2) := by decide +kernel
theorem dX6_round_15 : decode cX6_round 15 = .ok (.goto 10, 3) := by decide +kernel
theorem dX6_round_18 : decode cX6_round 18 = .ok (.aload_n 0, 1) := by decide +kernel
theorem dX6_round_19 : decode cX6_round 19 = .ok (.getfield 20, 3) := by decide +kernel
theorem dX6_round_22 : decode cX6_round 22 = .ok (.invokevirtual 138, 3) := by decide +kernel
theorem dX6_round_25 : decode cX6_round 25 = .ok (.ireturn, 1) := by decide +kernel
theorem dX6_bell_0 : decode cX6_bell 0 = .ok (.iload_n 1, 1) := by decide +kernel
theorem dX6_bell_1 : decode cX6_bell 1 = .ok (.iconst 0, 1) := by decide +kernel
theorem dX6_bell_2 : decode cX6_bell 2 = .ok (.sipush 999, 3) := by decide +kernel
theorem dX6_bell_5 : decode cX6_bell 5 = .ok (.invokestatic 86, 3) := by decide +kernel
theorem dX6_bell_8 : decode cX6_bell 8 = .ok (.ifCond .ne 6, 3) := by decide +kernel
theorem dX6_bell_11 : decode cX6_bell 11 = .ok (.bipush (-2), 2) := by decide +kernel
theorem dX6_bell_13 : decode cX6_bell 13 = .ok (.ireturn, 1) := by decide +kernel
theorem dX6_bell_14 : decode cX6_bell 14 = .ok (.aload_n 0, 1) := by decide +kernel
theorem dX6_bell_15 : decode cX6_bell 15 = .ok (.getfield 20, 3) := by decide +kernel
theorem dX6_bell_18 : decode cX6_bell 18 = .ok (.getfield 74, 3) := by decide +kernel
theorem dX6_bell_21 : decode cX6_bell 21 = .ok (.istore_n 2, 1) := by decide +kernel
theorem dX6_bell_22 : decode cX6_bell 22 = .ok (.aload_n 0, 1) := by decide +kernel
theorem dX6_bell_23 : decode cX6_bell 23 = .ok (.getfield 20, 3) := by decide +kernel
theorem dX6_bell_26 : decode cX6_bell 26 = .ok (.iload_n 1, 1) := by decide +kernel
theorem dX6_bell_27 : decode cX6_bell 27 = .ok (.putfield 74, 3) := by decide +kernel
theorem dX6_bell_30 : decode cX6_bell 30 = .ok (.iload_n 2, 1) := by decide +kernel
theorem dX6_bell_31 : decode cX6_bell 31 = .ok (.ireturn, 1) := by decide +kernel
theorem dX6_run_0 : decode cX6_run 0 = .ok (.iload_n 2, 1) := by decide +kernel
theorem dX6_run_1 : decode cX6_run 1 = .ok (.bipush 10, 2) := by decide +kernel
theorem dX6_run_3 : decode cX6_run 3 = .ok (.idiv, 1) := by decide +kernel
theorem dX6_run_4 : decode cX6_run 4 = .ok (.istore_n 3, 1) := by decide +kernel
theorem dX6_run_5 : decode cX6_run 5 = .ok (.iload_n 2, 1) := by decide +kernel
theorem dX6_run_6 : decode cX6_run 6 = .ok (.bipush 10, 2) := by decide +kernel
theorem dX6_run_8 : decode cX6_run 8 = .ok (.irem, 1) := by decide +kernel
theorem dX6_run_9 : decode cX6_run 9 = .ok (.istore 4, 2) := by decide +kernel
theorem dX6_run_11 : decode cX6_run 11 = .ok (.iload_n 2, 1) := by decide +kernel
theorem dX6_run_12 : decode cX6_run 12 = .ok (.ifCond .eq 8, 3) := by decide +kernel
theorem dX6_run_15 : decode cX6_run 15 = .ok (.iload_n 2, 1) := by decide +kernel
theorem dX6_run_16 : decode cX6_run 16 = .ok (.iconst 1, 1) := by decide +kernel
theorem dX6_run_17 : decode cX6_run 17 = .ok (.if_icmp .ne 7, 3) := by decide +kernel
theorem dX6_run_20 : decode cX6_run 20 = .ok (.iconst 1, 1) := by decide +kernel
theorem dX6_run_21 : decode cX6_run 21 = .ok (.goto 4, 3) := by decide +kernel
theorem dX6_run_24 : decode cX6_run 24 = .ok (.iconst 0, 1) := by decide +kernel
theorem dX6_run_25 : decode cX6_run 25 = .ok (.istore 5, 2) := by decide +kernel
theorem dX6_run_27 : decode cX6_run 27 = .ok (.iload_n 3, 1) := by decide +kernel
theorem dX6_run_28 : decode cX6_run 28 = .ok (.iconst 1, 1) := by decide +kernel
theorem dX6_run_29 : decode cX6_run 29 = .ok (.iconst 3, 1) := by decide +kernel
theorem dX6_run_30 : decode cX6_run 30 = .ok (.invokestatic 86, 3) := by decide +kernel
theorem dX6_run_33 : decode cX6_run 33 = .ok (.ifCond .eq 16, 3) := by decide +kernel
theorem dX6_run_36 : decode cX6_run 36 = .ok (.aload_n 0, 1) := by decide +kernel
theorem dX6_run_37 : decode cX6_run 37 = .ok (.iload 4, 2) := by decide +kernel
theorem dX6_run_39 : decode cX6_run 39 = .ok (.invokevirtual 94, 3) := by decide +kernel
theorem dX6_run_42 : decode cX6_run 42 = .ok (.ifCond .eq 7, 3) := by decide +kernel
theorem dX6_run_45 : decode cX6_run 45 = .ok (.iconst 1, 1) := by decide +kernel
theorem dX6_run_46 : decode cX6_run 46 = .ok (.goto 4, 3) := by decide +kernel
theorem dX6_run_49 : decode cX6_run 49 = .ok (.iconst 0, 1) := by decide +kernel
theorem dX6_run_50 : decode cX6_run 50 = .ok (.istore 6, 2) := by decide +kernel
theorem dX6_run_52 : decode cX6_run 52 = .ok (.iload_n 1, 1) := by decide +kernel
theorem dX6_run_53 : decode cX6_run 53 = .ok (.iconst 0, 1) := by decide +kernel
theorem dX6_run_54 : decode cX6_run 54 = .ok (.bipush 60, 2) := by decide +kernel
theorem dX6_run_56 : decode cX6_run 56 = .ok (.invokestatic 86, 3) := by decide +kernel
theorem dX6_run_59 : decode cX6_run 59 = .ok (.ifCond .eq 13, 3) := by decide +kernel
theorem dX6_run_62 : decode cX6_run 62 = .ok (.iload 5, 2) := by decide +kernel
theorem dX6_run_64 : decode cX6_run 64 = .ok (.ifCond .ne 11, 3) := by decide +kernel
theorem dX6_run_67 : decode cX6_run 67 = .ok (.iload 6, 2) := by decide +kernel
theorem dX6_run_69 : decode cX6_run 69 = .ok (.ifCond .ne 6, 3) := by decide +kernel
theorem dX6_run_72 : decode cX6_run 72 = .ok (.bipush (-2), 2) := by decide +kernel
theorem dX6_run_74 : decode cX6_run 74 = .ok (.ireturn, 1) := by decide +kernel
theorem dX6_run_75 : decode cX6_run 75 = .ok (.aload_n 0, 1) := by decide +kernel
theorem dX6_run_76 : decode cX6_run 76 = .ok (.invokevirtual 141, 3) := by decide +kernel
theorem dX6_run_79 : decode cX6_run 79 = .ok (.iconst 0, 1) := by decide +kernel
theorem dX6_run_80 : decode cX6_run 80 = .ok (.istore 7, 2) := by decide +kernel
theorem dX6_run_82 : decode cX6_run 82 = .ok (.iload 7, 2) := by decide +kernel
theorem dX6_run_84 : decode cX6_run 84 = .ok (.iload_n 1, 1) := by decide +kernel
theorem dX6_run_85 : decode cX6_run 85 = .ok (.if_icmp .ge 17, 3) := by decide +kernel
theorem dX6_run_88 : decode cX6_run 88 = .ok (.aload_n 0, 1) := by decide +kernel
theorem dX6_run_89 : decode cX6_run 89 = .ok (.getfield 24, 3) := by decide +kernel
theorem dX6_run_92 : decode cX6_run 92 = .ok (.invokevirtual 138, 3) := by decide +kernel
theorem dX6_run_95 : decode cX6_run 95 = .ok (.pop, 1) := by decide +kernel
theorem dX6_run_96 : decode cX6_run 96 = .ok (.iinc 7 1, 3) := by decide +kernel
theorem dX6_run_99 : decode cX6_run 99 = .ok (.goto (-17), 3) := by decide +kernel
theorem dX6_run_102 : decode cX6_run 102 = .ok (.iload_n 3, 1) := by decide +kernel
theorem dX6_run_103 : decode cX6_run 103 = .ok (.tableswitch 58 1 3 #[25, 36, 47], 25) := by decide +kernel
theorem dX6_run_128 : decode cX6_run 128 = .ok (.aload_n 0, 1) := by decide +kernel
theorem dX6_run_129 : decode cX6_run 129 = .ok (.getfield 24, 3) := by decide +kernel
theorem dX6_run_132 : decode cX6_run 132 = .ok (.getfield 144, 3) := by decide +kernel
theorem dX6_run_135 : decode cX6_run 135 = .ok (.iload 4, 2) := by decide +kernel
theorem dX6_run_137 : decode cX6_run 137 = .ok (.iaload, 1) := by decide +kernel
theorem dX6_run_138 : decode cX6_run 138 = .ok (.ireturn, 1) := by decide +kernel
theorem dX6_run_139 : decode cX6_run 139 = .ok (.aload_n 0, 1) := by decide +kernel
theorem dX6_run_140 : decode cX6_run 140 = .ok (.getfield 24, 3) := by decide +kernel
theorem dX6_run_143 : decode cX6_run 143 = .ok (.getfield 147, 3) := by decide +kernel
theorem dX6_run_146 : decode cX6_run 146 = .ok (.iload 4, 2) := by decide +kernel
theorem dX6_run_148 : decode cX6_run 148 = .ok (.iaload, 1) := by decide +kernel
theorem dX6_run_149 : decode cX6_run 149 = .ok (.ireturn, 1) := by decide +kernel
theorem dX6_run_150 : decode cX6_run 150 = .ok (.aload_n 0, 1) := by decide +kernel
theorem dX6_run_151 : decode cX6_run 151 = .ok (.getfield 24, 3) := by decide +kernel
theorem dX6_run_154 : decode cX6_run 154 = .ok (.getfield 150, 3) := by decide +kernel
theorem dX6_run_157 : decode cX6_run 157 = .ok (.iload 4, 2) := by decide +kernel
theorem dX6_run_159 : decode cX6_run 159 = .ok (.iaload, 1) := by decide +kernel
theorem dX6_run_160 : decode cX6_run 160 = .ok (.ireturn, 1) := by decide +kernel
theorem dX6_run_161 : decode cX6_run 161 = .ok (.iload_n 2, 1) := by decide +kernel
theorem dX6_run_162 : decode cX6_run 162 = .ok (.ifCond .ne 13, 3) := by decide +kernel
theorem dX6_run_165 : decode cX6_run 165 = .ok (.aload_n 0, 1) := by decide +kernel
theorem dX6_run_166 : decode cX6_run 166 = .ok (.getfield 24, 3) := by decide +kernel
theorem dX6_run_169 : decode cX6_run 169 = .ok (.invokevirtual 153, 3) := by decide +kernel
theorem dX6_run_172 : decode cX6_run 172 = .ok (.goto 10, 3) := by decide +kernel
theorem dX6_run_175 : decode cX6_run 175 = .ok (.aload_n 0, 1) := by decide +kernel
theorem dX6_run_176 : decode cX6_run 176 = .ok (.getfield 24, 3) := by decide +kernel
theorem dX6_run_179 : decode cX6_run 179 = .ok (.invokevirtual 156, 3) := by decide +kernel
theorem dX6_run_182 : decode cX6_run 182 = .ok (.ireturn, 1) := by decide +kernel
theorem dX6_when_0 : decode cX6_when 0 = .ok (.aload_n 0, 1) := by decide +kernel
theorem dX6_when_1 : decode cX6_when 1 = .ok (.iload_n 1, 1) := by decide +kernel
theorem dX6_when_2 : decode cX6_when 2 = .ok (.invokevirtual 94, 3) := by decide +kernel
theorem dX6_when_5 : decode cX6_when 5 = .ok (.ifCond .ne 12, 3) := by decide +kernel
theorem dX6_when_8 : decode cX6_when 8 = .ok (.iload_n 1, 1) := by decide +kernel
theorem dX6_when_9 : decode cX6_when 9 = .ok (.bipush 6, 2) := by decide +kernel
theorem dX6_when_11 : decode cX6_when 11 = .ok (.if_icmp .eq 6, 3) := by decide +kernel
theorem dX6_when_14 : decode cX6_when 14 = .ok (.bipush (-5), 2) := by decide +kernel
theorem dX6_when_16 : decode cX6_when 16 = .ok (.ireturn, 1) := by decide +kernel
theorem dX6_when_17 : decode cX6_when 17 = .ok (.aload_n 0, 1) := by decide +kernel
theorem dX6_when_18 : decode cX6_when 18 = .ok (.invokevirtual 141, 3) := by decide +kernel
theorem dX6_when_21 : decode cX6_when 21 = .ok (.iconst 0, 1) := by decide +kernel
theorem dX6_when_22 : decode cX6_when 22 = .ok (.istore_n 2, 1) := by decide +kernel
theorem dX6_when_23 : decode cX6_when 23 = .ok (.iload_n 2, 1) := by decide +kernel
theorem dX6_when_24 : decode cX6_when 24 = .ok (.bipush 60, 2) := by decide +kernel
theorem dX6_when_26 : decode cX6_when 26 = .ok (.if_icmp .gt 51, 3) := by decide +kernel
theorem dX6_when_29 : decode cX6_when 29 = .ok (.iload_n 1, 1) := by decide +kernel
theorem dX6_when_30 : decode cX6_when 30 = .ok (.bipush 6, 2) := by decide +kernel
theorem dX6_when_32 : decode cX6_when 32 = .ok (.if_icmp .ne 17, 3) := by decide +kernel
theorem dX6_when_35 : decode cX6_when 35 = .ok (.aload_n 0, 1) := by decide +kernel
theorem dX6_when_36 : decode cX6_when 36 = .ok (.getfield 24, 3) := by decide +kernel
theorem dX6_when_39 : decode cX6_when 39 = .ok (.invokevirtual 77, 3) := by decide +kernel
theorem dX6_when_42 : decode cX6_when 42 = .ok (.iconst 2, 1) := by decide +kernel
theorem dX6_when_43 : decode cX6_when 43 = .ok (.if_icmp .ge 20, 3) := by decide +kernel
theorem dX6_when_46 : decode cX6_when 46 = .ok (.goto 15, 3) := by decide +kernel
theorem dX6_when_49 : decode cX6_when 49 = .ok (.aload_n 0, 1) := by decide +kernel
theorem dX6_when_50 : decode cX6_when 50 = .ok (.getfield 24, 3) := by decide +kernel
theorem dX6_when_53 : decode cX6_when 53 = .ok (.getfield 147, 3) := by decide +kernel
theorem dX6_when_56 : decode cX6_when 56 = .ok (.iload_n 1, 1) := by decide +kernel
theorem dX6_when_57 : decode cX6_when 57 = .ok (.iaload, 1) := by decide +kernel
theorem dX6_when_58 : decode cX6_when 58 = .ok (.ifCond .ne 5, 3) := by decide +kernel
theorem dX6_when_61 : decode cX6_when 61 = .ok (.iload_n 2, 1) := by decide +kernel
theorem dX6_when_62 : decode cX6_when 62 = .ok (.ireturn, 1) := by decide +kernel
theorem dX6_when_63 : decode cX6_when 63 = .ok (.aload_n 0, 1) := by decide +kernel
theorem dX6_when_64 : decode cX6_when 64 = .ok (.getfield 24, 3) := by decide +kernel
theorem dX6_when_67 : decode cX6_when 67 = .ok (.invokevirtual 138, 3) := by decide +kernel
theorem dX6_when_70 : decode cX6_when 70 = .ok (.pop, 1) := by decide +kernel
theorem dX6_when_71 : decode cX6_when 71 = .ok (.iinc 2 1, 3) := by decide +kernel
theorem dX6_when_74 : decode cX6_when 74 = .ok (.goto (-51), 3) := by decide +kernel
theorem dX6_when_77 : decode cX6_when 77 = .ok (.iconst (-1), 1) := by decide +kernel
theorem dX6_when_78 : decode cX6_when 78 = .ok (.ireturn, 1) := by decide +kernel
theorem dX6_end_0 : decode cX6_end 0 = .ok (.iload_n 1, 1) := by decide +kernel
theorem dX6_end_1 : decode cX6_end 1 = .ok (.iconst 0, 1) := by decide +kernel
theorem dX6_end_2 : decode cX6_end 2 = .ok (.iconst 3, 1) := by decide +kernel
theorem dX6_end_3 : decode cX6_end 3 = .ok (.invokestatic 86, 3) := by decide +kernel
theorem dX6_end_6 : decode cX6_end 6 = .ok (.ifCond .ne 6, 3) := by decide +kernel
theorem dX6_end_9 : decode cX6_end 9 = .ok (.bipush (-2), 2) := by decide +kernel
theorem dX6_end_11 : decode cX6_end 11 = .ok (.ireturn, 1) := by decide +kernel
theorem dX6_end_12 : decode cX6_end 12 = .ok (.aload_n 0, 1) := by decide +kernel
theorem dX6_end_13 : decode cX6_end 13 = .ok (.invokevirtual 141, 3) := by decide +kernel
theorem dX6_end_16 : decode cX6_end 16 = .ok (.iconst 0, 1) := by decide +kernel
theorem dX6_end_17 : decode cX6_end 17 = .ok (.istore_n 2, 1) := by decide +kernel
theorem dX6_end_18 : decode cX6_end 18 = .ok (.iconst (-1), 1) := by decide +kernel
theorem dX6_end_19 : decode cX6_end 19 = .ok (.istore_n 3, 1) := by decide +kernel
theorem dX6_end_20 : decode cX6_end 20 = .ok (.iconst 0, 1) := by decide +kernel
theorem dX6_end_21 : decode cX6_end 21 = .ok (.istore 4, 2) := by decide +kernel
theorem dX6_end_23 : decode cX6_end 23 = .ok (.iload 4, 2) := by decide +kernel
theorem dX6_end_25 : decode cX6_end 25 = .ok (.bipush 60, 2) := by decide +kernel
theorem dX6_end_27 : decode cX6_end 27 = .ok (.if_icmp .ge 33, 3) := by decide +kernel
theorem dX6_end_30 : decode cX6_end 30 = .ok (.aload_n 0, 1) := by decide +kernel
theorem dX6_end_31 : decode cX6_end 31 = .ok (.getfield 24, 3) := by decide +kernel
theorem dX6_end_34 : decode cX6_end 34 = .ok (.invokevirtual 138, 3) := by decide +kernel
theorem dX6_end_37 : decode cX6_end 37 = .ok (.istore 5, 2) := by decide +kernel
theorem dX6_end_39 : decode cX6_end 39 = .ok (.iload_n 2, 1) := by decide +kernel
theorem dX6_end_40 : decode cX6_end 40 = .ok (.ifCond .ne 14, 3) := by decide +kernel
theorem dX6_end_43 : decode cX6_end 43 = .ok (.iload 5, 2) := by decide +kernel
theorem dX6_end_45 : decode cX6_end 45 = .ok (.ifCond .eq 9, 3) := by decide +kernel
theorem dX6_end_48 : decode cX6_end 48 = .ok (.iload 5, 2) := by decide +kernel
theorem dX6_end_50 : decode cX6_end 50 = .ok (.istore_n 2, 1) := by decide +kernel
theorem dX6_end_51 : decode cX6_end 51 = .ok (.iload 4, 2) := by decide +kernel
theorem dX6_end_53 : decode cX6_end 53 = .ok (.istore_n 3, 1) := by decide +kernel
theorem dX6_end_54 : decode cX6_end 54 = .ok (.iinc 4 1, 3) := by decide +kernel
theorem dX6_end_57 : decode cX6_end 57 = .ok (.goto (-34), 3) := by decide +kernel
theorem dX6_end_60 : decode cX6_end 60 = .ok (.aload_n 0, 1) := by decide +kernel
theorem dX6_end_61 : decode cX6_end 61 = .ok (.getfield 24, 3) := by decide +kernel
theorem dX6_end_64 : decode cX6_end 64 = .ok (.invokevirtual 159, 3) := by decide +kernel
theorem dX6_end_67 : decode cX6_end 67 = .ok (.istore 4, 2) := by decide +kernel
theorem dX6_end_69 : decode cX6_end 69 = .ok (.iload_n 1, 1) := by decide +kernel
theorem dX6_end_70 : decode cX6_end 70 = .ok (.tableswitch 55 0 2 #[26, 29, 50], 26) := by decide +kernel
theorem dX6_end_96 : decode cX6_end 96 = .ok (.iload 4, 2) := by decide +kernel
theorem dX6_end_98 : decode cX6_end 98 = .ok (.ireturn, 1) := by decide +kernel
theorem dX6_end_99 : decode cX6_end 99 = .ok (.iload 4, 2) := by decide +kernel
theorem dX6_end_101 : decode cX6_end 101 = .ok (.iconst (-1), 1) := by decide +kernel
theorem dX6_end_102 : decode cX6_end 102 = .ok (.if_icmp .ne 7, 3) := by decide +kernel
theorem dX6_end_105 : decode cX6_end 105 = .ok (.iconst 0, 1) := by decide +kernel
theorem dX6_end_106 : decode cX6_end 106 = .ok (.goto 13, 3) := by decide +kernel
theorem dX6_end_109 : decode cX6_end 109 = .ok (.aload_n 0, 1) := by decide +kernel
theorem dX6_end_110 : decode cX6_end 110 = .ok (.getfield 24, 3) := by decide +kernel
theorem dX6_end_113 : decode cX6_end 113 = .ok (.getfield 147, 3) := by decide +kernel
theorem dX6_end_116 : decode cX6_end 116 = .ok (.iload 4, 2) := by decide +kernel
theorem dX6_end_118 : decode cX6_end 118 = .ok (.iaload, 1) := by decide +kernel
theorem dX6_end_119 : decode cX6_end 119 = .ok (.ireturn, 1) := by decide +kernel
theorem dX6_end_120 : decode cX6_end 120 = .ok (.iload_n 2, 1) := by decide +kernel
theorem dX6_end_121 : decode cX6_end 121 = .ok (.invokestatic 162, 3) := by decide +kernel
theorem dX6_end_124 : decode cX6_end 124 = .ok (.ireturn, 1) := by decide +kernel
theorem dX6_end_125 : decode cX6_end 125 = .ok (.iload_n 3, 1) := by decide +kernel
theorem dX6_end_126 : decode cX6_end 126 = .ok (.ireturn, 1) := by decide +kernel
theorem dX6_beaten_0 : decode cX6_beaten 0 = .ok (.aload_n 0, 1) := by decide +kernel
theorem dX6_beaten_1 : decode cX6_beaten 1 = .ok (.iload_n 1, 1) := by decide +kernel
theorem dX6_beaten_2 : decode cX6_beaten 2 = .ok (.invokevirtual 94, 3) := by decide +kernel
theorem dX6_beaten_5 : decode cX6_beaten 5 = .ok (.ifCond .ne 6, 3) := by decide +kernel
theorem dX6_beaten_8 : decode cX6_beaten 8 = .ok (.bipush (-5), 2) := by decide +kernel
theorem dX6_beaten_10 : decode cX6_beaten 10 = .ok (.ireturn, 1) := by decide +kernel
theorem dX6_beaten_11 : decode cX6_beaten 11 = .ok (.iload_n 2, 1) := by decide +kernel
theorem dX6_beaten_12 : decode cX6_beaten 12 = .ok (.iconst 0, 1) := by decide +kernel
theorem dX6_beaten_13 : decode cX6_beaten 13 = .ok (.iconst 1, 1) := by decide +kernel
theorem dX6_beaten_14 : decode cX6_beaten 14 = .ok (.invokestatic 86, 3) := by decide +kernel
theorem dX6_beaten_17 : decode cX6_beaten 17 = .ok (.ifCond .ne 6, 3) := by decide +kernel
theorem dX6_beaten_20 : decode cX6_beaten 20 = .ok (.bipush (-7), 2) := by decide +kernel
theorem dX6_beaten_22 : decode cX6_beaten 22 = .ok (.ireturn, 1) := by decide +kernel
theorem dX6_beaten_23 : decode cX6_beaten 23 = .ok (.iconst 0, 1) := by decide +kernel
theorem dX6_beaten_24 : decode cX6_beaten 24 = .ok (.istore_n 3, 1) := by decide +kernel
theorem dX6_beaten_25 : decode cX6_beaten 25 = .ok (.iconst 0, 1) := by decide +kernel
theorem dX6_beaten_26 : decode cX6_beaten 26 = .ok (.istore 4, 2) := by decide +kernel
theorem dX6_beaten_28 : decode cX6_beaten 28 = .ok (.iload 4, 2) := by decide +kernel
theorem dX6_beaten_30 : decode cX6_beaten 30 = .ok (.aload_n 0, 1) := by decide +kernel
theorem dX6_beaten_31 : decode cX6_beaten 31 = .ok (.getfield 20, 3) := by decide +kernel
theorem dX6_beaten_34 : decode cX6_beaten 34 = .ok (.getfield 71, 3) := by decide +kernel
theorem dX6_beaten_37 : decode cX6_beaten 37 = .ok (.if_icmp .ge 59, 3) := by decide +kernel
theorem dX6_beaten_40 : decode cX6_beaten 40 = .ok (.aload_n 0, 1) := by decide +kernel
theorem dX6_beaten_41 : decode cX6_beaten 41 = .ok (.invokevirtual 141, 3) := by decide +kernel
theorem dX6_beaten_44 : decode cX6_beaten 44 = .ok (.aload_n 0, 1) := by decide +kernel
theorem dX6_beaten_45 : decode cX6_beaten 45 = .ok (.getfield 24, 3) := by decide +kernel
theorem dX6_beaten_48 : decode cX6_beaten 48 = .ok (.iload_n 1, 1) := by decide +kernel
theorem dX6_beaten_49 : decode cX6_beaten 49 = .ok (.iload 4, 2) := by decide +kernel
theorem dX6_beaten_51 : decode cX6_beaten 51 = .ok (.invokevirtual 165, 3) := by decide +kernel
theorem dX6_beaten_54 : decode cX6_beaten 54 = .ok (.iload 4, 2) := by decide +kernel
theorem dX6_beaten_56 : decode cX6_beaten 56 = .ok (.iload_n 1, 1) := by decide +kernel
theorem dX6_beaten_57 : decode cX6_beaten 57 = .ok (.if_icmp .eq 33, 3) := by decide +kernel
theorem dX6_beaten_60 : decode cX6_beaten 60 = .ok (.aload_n 0, 1) := by decide +kernel
theorem dX6_beaten_61 : decode cX6_beaten 61 = .ok (.iload_n 1, 1) := by decide +kernel
theorem dX6_beaten_62 : decode cX6_beaten 62 = .ok (.bipush 60, 2) := by decide +kernel
theorem dX6_beaten_64 : decode cX6_beaten 64 = .ok (.invokevirtual 169, 3) := by decide +kernel
theorem dX6_beaten_67 : decode cX6_beaten 67 = .ok (.ifCond .le 23, 3) := by decide +kernel
theorem dX6_beaten_70 : decode cX6_beaten 70 = .ok (.aload_n 0, 1) := by decide +kernel
theorem dX6_beaten_71 : decode cX6_beaten 71 = .ok (.getfield 24, 3) := by decide +kernel
theorem dX6_beaten_74 : decode cX6_beaten 74 = .ok (.getfield 147, 3) := by decide +kernel
theorem dX6_beaten_77 : decode cX6_beaten 77 = .ok (.iload 4, 2) := by decide +kernel
theorem dX6_beaten_79 : decode cX6_beaten 79 = .ok (.iaload, 1) := by decide +kernel
theorem dX6_beaten_80 : decode cX6_beaten 80 = .ok (.ifCond .ne 10, 3) := by decide +kernel
theorem dX6_beaten_83 : decode cX6_beaten 83 = .ok (.iload_n 3, 1) := by decide +kernel
theorem dX6_beaten_84 : decode cX6_beaten 84 = .ok (.iconst 1, 1) := by decide +kernel
theorem dX6_beaten_85 : decode cX6_beaten 85 = .ok (.iload 4, 2) := by decide +kernel
theorem dX6_beaten_87 : decode cX6_beaten 87 = .ok (.ishl, 1) := by decide +kernel
theorem dX6_beaten_88 : decode cX6_beaten 88 = .ok (.ior, 1) := by decide +kernel
theorem dX6_beaten_89 : decode cX6_beaten 89 = .ok (.istore_n 3, 1) := by decide +kernel
theorem dX6_beaten_90 : decode cX6_beaten 90 = .ok (.iinc 4 1, 3) := by decide +kernel
theorem dX6_beaten_93 : decode cX6_beaten 93 = .ok (.goto (-65), 3) := by decide +kernel
theorem dX6_beaten_96 : decode cX6_beaten 96 = .ok (.iload_n 2, 1) := by decide +kernel
theorem dX6_beaten_97 : decode cX6_beaten 97 = .ok (.ifCond .ne 7, 3) := by decide +kernel
theorem dX6_beaten_100 : decode cX6_beaten 100 = .ok (.iload_n 3, 1) := by decide +kernel
theorem dX6_beaten_101 : decode cX6_beaten 101 = .ok (.goto 7, 3) := by decide +kernel
theorem dX6_beaten_104 : decode cX6_beaten 104 = .ok (.iload_n 3, 1) := by decide +kernel
theorem dX6_beaten_105 : decode cX6_beaten 105 = .ok (.invokestatic 172, 3) := by decide +kernel
theorem dX6_beaten_108 : decode cX6_beaten 108 = .ok (.ireturn, 1) := by decide +kernel
theorem dX6_toss_0 : decode cX6_toss 0 = .ok (.aload_n 0, 1) := by decide +kernel
theorem dX6_toss_1 : decode cX6_toss 1 = .ok (.iload_n 1, 1) := by decide +kernel
theorem dX6_toss_2 : decode cX6_toss 2 = .ok (.invokevirtual 94, 3) := by decide +kernel
theorem dX6_toss_5 : decode cX6_toss 5 = .ok (.ifCond .ne 6, 3) := by decide +kernel
theorem dX6_toss_8 : decode cX6_toss 8 = .ok (.bipush (-5), 2) := by decide +kernel
theorem dX6_toss_10 : decode cX6_toss 10 = .ok (.ireturn, 1) := by decide +kernel
theorem dX6_toss_11 : decode cX6_toss 11 = .ok (.iload_n 2, 1) := by decide +kernel
theorem dX6_toss_12 : decode cX6_toss 12 = .ok (.iconst 0, 1) := by decide +kernel
theorem dX6_toss_13 : decode cX6_toss 13 = .ok (.bipush 40, 2) := by decide +kernel
theorem dX6_toss_15 : decode cX6_toss 15 = .ok (.invokestatic 86, 3) := by decide +kernel
theorem dX6_toss_18 : decode cX6_toss 18 = .ok (.ifCond .eq 12, 3) := by decide +kernel
theorem dX6_toss_21 : decode cX6_toss 21 = .ok (.iload_n 3, 1) := by decide +kernel
theorem dX6_toss_22 : decode cX6_toss 22 = .ok (.iconst 0, 1) := by decide +kernel
theorem dX6_toss_23 : decode cX6_toss 23 = .ok (.iconst 1, 1) := by decide +kernel
theorem dX6_toss_24 : decode cX6_toss 24 = .ok (.invokestatic 86, 3) := by decide +kernel
theorem dX6_toss_27 : decode cX6_toss 27 = .ok (.ifCond .ne 6, 3) := by decide +kernel
theorem dX6_toss_30 : decode cX6_toss 30 = .ok (.bipush (-7), 2) := by decide +kernel
theorem dX6_toss_32 : decode cX6_toss 32 = .ok (.ireturn, 1) := by decide +kernel
theorem dX6_toss_33 : decode cX6_toss 33 = .ok (.iconst 0, 1) := by decide +kernel
theorem dX6_toss_34 : decode cX6_toss 34 = .ok (.istore 4, 2) := by decide +kernel
theorem dX6_toss_36 : decode cX6_toss 36 = .ok (.iconst (-1), 1) := by decide +kernel
theorem dX6_toss_37 : decode cX6_toss 37 = .ok (.istore 5, 2) := by decide +kernel
theorem dX6_toss_39 : decode cX6_toss 39 = .ok (.iconst 0, 1) := by decide +kernel
theorem dX6_toss_40 : decode cX6_toss 40 = .ok (.istore 6, 2) := by decide +kernel
theorem dX6_toss_42 : decode cX6_toss 42 = .ok (.iload 6, 2) := by decide +kernel
theorem dX6_toss_44 : decode cX6_toss 44 = .ok (.bipush 64, 2) := by decide +kernel
theorem dX6_toss_46 : decode cX6_toss 46 = .ok (.if_icmp .ge 47, 3) := by decide +kernel
theorem dX6_toss_49 : decode cX6_toss 49 = .ok (.aload_n 0, 1) := by decide +kernel
theorem dX6_toss_50 : decode cX6_toss 50 = .ok (.invokevirtual 141, 3) := by decide +kernel
theorem dX6_toss_53 : decode cX6_toss 53 = .ok (.aload_n 0, 1) := by decide +kernel
theorem dX6_toss_54 : decode cX6_toss 54 = .ok (.getfield 24, 3) := by decide +kernel
theorem dX6_toss_57 : decode cX6_toss 57 = .ok (.getfield 144, 3) := by decide +kernel
theorem dX6_toss_60 : decode cX6_toss 60 = .ok (.iload_n 1, 1) := by decide +kernel
theorem dX6_toss_61 : decode cX6_toss 61 = .ok (.iload 6, 2) := by decide +kernel
theorem dX6_toss_63 : decode cX6_toss 63 = .ok (.iastore, 1) := by decide +kernel
theorem dX6_toss_64 : decode cX6_toss 64 = .ok (.aload_n 0, 1) := by decide +kernel
theorem dX6_toss_65 : decode cX6_toss 65 = .ok (.iload_n 1, 1) := by decide +kernel
theorem dX6_toss_66 : decode cX6_toss 66 = .ok (.iload_n 2, 1) := by decide +kernel
theorem dX6_toss_67 : decode cX6_toss 67 = .ok (.invokevirtual 169, 3) := by decide +kernel
theorem dX6_toss_70 : decode cX6_toss 70 = .ok (.istore 7, 2) := by decide +kernel
theorem dX6_toss_72 : decode cX6_toss 72 = .ok (.iload 7, 2) := by decide +kernel
theorem dX6_toss_74 : decode cX6_toss 74 = .ok (.iload 5, 2) := by decide +kernel
theorem dX6_toss_76 : decode cX6_toss 76 = .ok (.if_icmp .le 11, 3) := by decide +kernel
theorem dX6_toss_79 : decode cX6_toss 79 = .ok (.iload 7, 2) := by decide +kernel
theorem dX6_toss_81 : decode cX6_toss 81 = .ok (.istore 5, 2) := by decide +kernel
theorem dX6_toss_83 : decode cX6_toss 83 = .ok (.iload 6, 2) := by decide +kernel
theorem dX6_toss_85 : decode cX6_toss 85 = .ok (.istore 4, 2) := by decide +kernel
theorem dX6_toss_87 : decode cX6_toss 87 = .ok (.iinc 6 1, 3) := by decide +kernel
theorem dX6_toss_90 : decode cX6_toss 90 = .ok (.goto (-48), 3) := by decide +kernel
theorem dX6_toss_93 : decode cX6_toss 93 = .ok (.iload_n 3, 1) := by decide +kernel
theorem dX6_toss_94 : decode cX6_toss 94 = .ok (.ifCond .ne 8, 3) := by decide +kernel
theorem dX6_toss_97 : decode cX6_toss 97 = .ok (.iload 4, 2) := by decide +kernel
theorem dX6_toss_99 : decode cX6_toss 99 = .ok (.goto 5, 3) := by decide +kernel
theorem dX6_toss_102 : decode cX6_toss 102 = .ok (.iload 5, 2) := by decide +kernel
theorem dX6_toss_104 : decode cX6_toss 104 = .ok (.ireturn, 1) := by decide +kernel
theorem dX6_rid_0 : decode cX6_rid 0 = .ok (.aload_n 0, 1) := by decide +kernel
theorem dX6_rid_1 : decode cX6_rid 1 = .ok (.iload_n 1, 1) := by decide +kernel
theorem dX6_rid_2 : decode cX6_rid 2 = .ok (.invokevirtual 94, 3) := by decide +kernel
theorem dX6_rid_5 : decode cX6_rid 5 = .ok (.ifCond .ne 6, 3) := by decide +kernel
theorem dX6_rid_8 : decode cX6_rid 8 = .ok (.bipush (-5), 2) := by decide +kernel
theorem dX6_rid_10 : decode cX6_rid 10 = .ok (.ireturn, 1) := by decide +kernel
theorem dX6_rid_11 : decode cX6_rid 11 = .ok (.iload_n 2, 1) := by decide +kernel
theorem dX6_rid_12 : decode cX6_rid 12 = .ok (.iconst 0, 1) := by decide +kernel
theorem dX6_rid_13 : decode cX6_rid 13 = .ok (.bipush 40, 2) := by decide +kernel
theorem dX6_rid_15 : decode cX6_rid 15 = .ok (.invokestatic 86, 3) := by decide +kernel
theorem dX6_rid_18 : decode cX6_rid 18 = .ok (.ifCond .eq 12, 3) := by decide +kernel
theorem dX6_rid_21 : decode cX6_rid 21 = .ok (.iload_n 3, 1) := by decide +kernel
theorem dX6_rid_22 : decode cX6_rid 22 = .ok (.iconst 0, 1) := by decide +kernel
theorem dX6_rid_23 : decode cX6_rid 23 = .ok (.iconst 1, 1) := by decide +kernel
theorem dX6_rid_24 : decode cX6_rid 24 = .ok (.invokestatic 86, 3) := by decide +kernel
theorem dX6_rid_27 : decode cX6_rid 27 = .ok (.ifCond .ne 6, 3) := by decide +kernel
theorem dX6_rid_30 : decode cX6_rid 30 = .ok (.bipush (-7), 2) := by decide +kernel
theorem dX6_rid_32 : decode cX6_rid 32 = .ok (.ireturn, 1) := by decide +kernel
theorem dX6_rid_33 : decode cX6_rid 33 = .ok (.aload_n 0, 1) := by decide +kernel
theorem dX6_rid_34 : decode cX6_rid 34 = .ok (.invokevirtual 141, 3) := by decide +kernel
theorem dX6_rid_37 : decode cX6_rid 37 = .ok (.aload_n 0, 1) := by decide +kernel
theorem dX6_rid_38 : decode cX6_rid 38 = .ok (.iload_n 1, 1) := by decide +kernel
theorem dX6_rid_39 : decode cX6_rid 39 = .ok (.iload_n 2, 1) := by decide +kernel
theorem dX6_rid_40 : decode cX6_rid 40 = .ok (.invokevirtual 169, 3) := by decide +kernel
theorem dX6_rid_43 : decode cX6_rid 43 = .ok (.istore 4, 2) := by decide +kernel
theorem dX6_rid_45 : decode cX6_rid 45 = .ok (.iconst (-1), 1) := by decide +kernel
theorem dX6_rid_46 : decode cX6_rid 46 = .ok (.istore 5, 2) := by decide +kernel
theorem dX6_rid_48 : decode cX6_rid 48 = .ok (.iconst 0, 1) := by decide +kernel
theorem dX6_rid_49 : decode cX6_rid 49 = .ok (.istore 6, 2) := by decide +kernel
theorem dX6_rid_51 : decode cX6_rid 51 = .ok (.iload 6, 2) := by decide +kernel
theorem dX6_rid_53 : decode cX6_rid 53 = .ok (.aload_n 0, 1) := by decide +kernel
theorem dX6_rid_54 : decode cX6_rid 54 = .ok (.getfield 20, 3) := by decide +kernel
theorem dX6_rid_57 : decode cX6_rid 57 = .ok (.getfield 71, 3) := by decide +kernel
theorem dX6_rid_60 : decode cX6_rid 60 = .ok (.if_icmp .ge 66, 3) := by decide +kernel
theorem dX6_rid_63 : decode cX6_rid 63 = .ok (.iload 6, 2) := by decide +kernel
theorem dX6_rid_65 : decode cX6_rid 65 = .ok (.iload_n 1, 1) := by decide +kernel
theorem dX6_rid_66 : decode cX6_rid 66 = .ok (.if_icmp .eq 54, 3) := by decide +kernel
theorem dX6_rid_69 : decode cX6_rid 69 = .ok (.aload_n 0, 1) := by decide +kernel
theorem dX6_rid_70 : decode cX6_rid 70 = .ok (.getfield 20, 3) := by decide +kernel
theorem dX6_rid_73 : decode cX6_rid 73 = .ok (.getfield 147, 3) := by decide +kernel
theorem dX6_rid_76 : decode cX6_rid 76 = .ok (.iload 6, 2) := by decide +kernel
theorem dX6_rid_78 : decode cX6_rid 78 = .ok (.iaload, 1) := by decide +kernel
theorem dX6_rid_79 : decode cX6_rid 79 = .ok (.ifCond .le 41, 3) := by decide +kernel
theorem dX6_rid_82 : decode cX6_rid 82 = .ok (.aload_n 0, 1) := by decide +kernel
theorem dX6_rid_83 : decode cX6_rid 83 = .ok (.invokevirtual 141, 3) := by decide +kernel
theorem dX6_rid_86 : decode cX6_rid 86 = .ok (.aload_n 0, 1) := by decide +kernel
theorem dX6_rid_87 : decode cX6_rid 87 = .ok (.getfield 24, 3) := by decide +kernel
theorem dX6_rid_90 : decode cX6_rid 90 = .ok (.getfield 147, 3) := by decide +kernel
theorem dX6_rid_93 : decode cX6_rid 93 = .ok (.iload 6, 2) := by decide +kernel
theorem dX6_rid_95 : decode cX6_rid 95 = .ok (.iconst 0, 1) := by decide +kernel
theorem dX6_rid_96 : decode cX6_rid 96 = .ok (.iastore, 1) := by decide +kernel
theorem dX6_rid_97 : decode cX6_rid 97 = .ok (.aload_n 0, 1) := by decide +kernel
theorem dX6_rid_98 : decode cX6_rid 98 = .ok (.iload_n 1, 1) := by decide +kernel
theorem dX6_rid_99 : decode cX6_rid 99 = .ok (.iload_n 2, 1) := by decide +kernel
theorem dX6_rid_100 : decode cX6_rid 100 = .ok (.invokevirtual 169, 3) := by decide +kernel
theorem dX6_rid_103 : decode cX6_rid 103 = .ok (.istore 7, 2) := by decide +kernel
theorem dX6_rid_105 : decode cX6_rid 105 = .ok (.iload 7, 2) := by decide +kernel
theorem dX6_rid_107 : decode cX6_rid 107 = .ok (.iload 4, 2) := by decide +kernel
theorem dX6_rid_109 : decode cX6_rid 109 = .ok (.if_icmp .le 11, 3) := by decide +kernel
theorem dX6_rid_112 : decode cX6_rid 112 = .ok (.iload 7, 2) := by decide +kernel
theorem dX6_rid_114 : decode cX6_rid 114 = .ok (.istore 4, 2) := by decide +kernel
theorem dX6_rid_116 : decode cX6_rid 116 = .ok (.iload 6, 2) := by decide +kernel
theorem dX6_rid_118 : decode cX6_rid 118 = .ok (.istore 5, 2) := by decide +kernel
theorem dX6_rid_120 : decode cX6_rid 120 = .ok (.iinc 6 1, 3) := by decide +kernel
theorem dX6_rid_123 : decode cX6_rid 123 = .ok (.goto (-72), 3) := by decide +kernel
theorem dX6_rid_126 : decode cX6_rid 126 = .ok (.iload_n 3, 1) := by decide +kernel
theorem dX6_rid_127 : decode cX6_rid 127 = .ok (.ifCond .ne 8, 3) := by decide +kernel
theorem dX6_rid_130 : decode cX6_rid 130 = .ok (.iload 5, 2) := by decide +kernel
theorem dX6_rid_132 : decode cX6_rid 132 = .ok (.goto 5, 3) := by decide +kernel
theorem dX6_rid_135 : decode cX6_rid 135 = .ok (.iload 4, 2) := by decide +kernel
theorem dX6_rid_137 : decode cX6_rid 137 = .ok (.ireturn, 1) := by decide +kernel
theorem dX6_lasts_0 : decode cX6_lasts 0 = .ok (.aload_n 0, 1) := by decide +kernel
theorem dX6_lasts_1 : decode cX6_lasts 1 = .ok (.iload_n 1, 1) := by decide +kernel
theorem dX6_lasts_2 : decode cX6_lasts 2 = .ok (.invokevirtual 94, 3) := by decide +kernel
theorem dX6_lasts_5 : decode cX6_lasts 5 = .ok (.ifCond .ne 6, 3) := by decide +kernel
theorem dX6_lasts_8 : decode cX6_lasts 8 = .ok (.bipush (-5), 2) := by decide +kernel
theorem dX6_lasts_10 : decode cX6_lasts 10 = .ok (.ireturn, 1) := by decide +kernel
theorem dX6_lasts_11 : decode cX6_lasts 11 = .ok (.iload_n 2, 1) := by decide +kernel
theorem dX6_lasts_12 : decode cX6_lasts 12 = .ok (.iconst 0, 1) := by decide +kernel
theorem dX6_lasts_13 : decode cX6_lasts 13 = .ok (.bipush 40, 2) := by decide +kernel
theorem dX6_lasts_15 : decode cX6_lasts 15 = .ok (.invokestatic 86, 3) := by decide +kernel
theorem dX6_lasts_18 : decode cX6_lasts 18 = .ok (.ifCond .ne 6, 3) := by decide +kernel
theorem dX6_lasts_21 : decode cX6_lasts 21 = .ok (.bipush (-7), 2) := by decide +kernel
theorem dX6_lasts_23 : decode cX6_lasts 23 = .ok (.ireturn, 1) := by decide +kernel
theorem dX6_lasts_24 : decode cX6_lasts 24 = .ok (.iconst 0, 1) := by decide +kernel
theorem dX6_lasts_25 : decode cX6_lasts 25 = .ok (.istore_n 3, 1) := by decide +kernel
theorem dX6_lasts_26 : decode cX6_lasts 26 = .ok (.iload_n 3, 1) := by decide +kernel
theorem dX6_lasts_27 : decode cX6_lasts 27 = .ok (.bipush 99, 2) := by decide +kernel
theorem dX6_lasts_29 : decode cX6_lasts 29 = .ok (.if_icmp .gt 34, 3) := by decide +kernel
theorem dX6_lasts_32 : decode cX6_lasts 32 = .ok (.aload_n 0, 1) := by decide +kernel
theorem dX6_lasts_33 : decode cX6_lasts 33 = .ok (.invokevirtual 141, 3) := by decide +kernel
theorem dX6_lasts_36 : decode cX6_lasts 36 = .ok (.aload_n 0, 1) := by decide +kernel
theorem dX6_lasts_37 : decode cX6_lasts 37 = .ok (.getfield 24, 3) := by decide +kernel
theorem dX6_lasts_40 : decode cX6_lasts 40 = .ok (.getfield 147, 3) := by decide +kernel
theorem dX6_lasts_43 : decode cX6_lasts 43 = .ok (.iload_n 1, 1) := by decide +kernel
theorem dX6_lasts_44 : decode cX6_lasts 44 = .ok (.iload_n 3, 1) := by decide +kernel
theorem dX6_lasts_45 : decode cX6_lasts 45 = .ok (.iastore, 1) := by decide +kernel
theorem dX6_lasts_46 : decode cX6_lasts 46 = .ok (.aload_n 0, 1) := by decide +kernel
theorem dX6_lasts_47 : decode cX6_lasts 47 = .ok (.iload_n 1, 1) := by decide +kernel
theorem dX6_lasts_48 : decode cX6_lasts 48 = .ok (.iload_n 2, 1) := by decide +kernel
theorem dX6_lasts_49 : decode cX6_lasts 49 = .ok (.invokevirtual 169, 3) := by decide +kernel
theorem dX6_lasts_52 : decode cX6_lasts 52 = .ok (.ifCond .le 5, 3) := by decide +kernel
theorem dX6_lasts_55 : decode cX6_lasts 55 = .ok (.iload_n 3, 1) := by decide +kernel
theorem dX6_lasts_56 : decode cX6_lasts 56 = .ok (.ireturn, 1) := by decide +kernel
theorem dX6_lasts_57 : decode cX6_lasts 57 = .ok (.iinc 3 1, 3) := by decide +kernel
theorem dX6_lasts_60 : decode cX6_lasts 60 = .ok (.goto (-34), 3) := by decide +kernel
theorem dX6_lasts_63 : decode cX6_lasts 63 = .ok (.iconst (-1), 1) := by decide +kernel
theorem dX6_lasts_64 : decode cX6_lasts 64 = .ok (.ireturn, 1) := by decide +kernel
theorem dX6_betting_0 : decode cX6_betting 0 = .ok (.aload_n 0, 1) := by decide +kernel
theorem dX6_betting_1 : decode cX6_betting 1 = .ok (.iload_n 1, 1) := by decide +kernel
theorem dX6_betting_2 : decode cX6_betting 2 = .ok (.invokevirtual 94, 3) := by decide +kernel
theorem dX6_betting_5 : decode cX6_betting 5 = .ok (.ifCond .eq 26, 3) := by decide +kernel
theorem dX6_betting_8 : decode cX6_betting 8 = .ok (.aload_n 0, 1) := by decide +kernel
theorem dX6_betting_9 : decode cX6_betting 9 = .ok (.getfield 20, 3) := by decide +kernel
theorem dX6_betting_12 : decode cX6_betting 12 = .ok (.getfield 147, 3) := by decide +kernel
theorem dX6_betting_15 : decode cX6_betting 15 = .ok (.iload_n 1, 1) := by decide +kernel
theorem dX6_betting_16 : decode cX6_betting 16 = .ok (.iaload, 1) := by decide +kernel
theorem dX6_betting_17 : decode cX6_betting 17 = .ok (.aload_n 0, 1) := by decide +kernel
theorem dX6_betting_18 : decode cX6_betting 18 = .ok (.getfield 20, 3) := by decide +kernel
theorem dX6_betting_21 : decode cX6_betting 21 = .ok (.invokevirtual 177, 3) := by decide +kernel
theorem dX6_betting_24 : decode cX6_betting 24 = .ok (.iload_n 2, 1) := by decide +kernel
theorem dX6_betting_25 : decode cX6_betting 25 = .ok (.invokestatic 180, 3) := by decide +kernel
theorem dX6_betting_28 : decode cX6_betting 28 = .ok (.goto 6, 3) := by decide +kernel
theorem dX6_betting_31 : decode cX6_betting 31 = .ok (.ldc2_w 184, 3) := by decide +kernel
theorem dX6_betting_34 : decode cX6_betting 34 = .ok (.lreturn, 1) := by decide +kernel
theorem dX6_judge_0 : decode cX6_judge 0 = .ok (.aload_n 0, 1) := by decide +kernel
theorem dX6_judge_1 : decode cX6_judge 1 = .ok (.iload_n 1, 1) := by decide +kernel
theorem dX6_judge_2 : decode cX6_judge 2 = .ok (.iload_n 2, 1) := by decide +kernel
theorem dX6_judge_3 : decode cX6_judge 3 = .ok (.invokevirtual 186, 3) := by decide +kernel
theorem dX6_judge_6 : decode cX6_judge 6 = .ok (.istore_n 3, 1) := by decide +kernel
theorem dX6_judge_7 : decode cX6_judge 7 = .ok (.iload_n 3, 1) := by decide +kernel
theorem dX6_judge_8 : decode cX6_judge 8 = .ok (.ifCond .eq 5, 3) := by decide +kernel
theorem dX6_judge_11 : decode cX6_judge 11 = .ok (.iload_n 3, 1) := by decide +kernel
theorem dX6_judge_12 : decode cX6_judge 12 = .ok (.ireturn, 1) := by decide +kernel
theorem dX6_judge_13 : decode cX6_judge 13 = .ok (.aload_n 0, 1) := by decide +kernel
theorem dX6_judge_14 : decode cX6_judge 14 = .ok (.invokevirtual 141, 3) := by decide +kernel
theorem dX6_judge_17 : decode cX6_judge 17 = .ok (.aload_n 0, 1) := by decide +kernel
theorem dX6_judge_18 : decode cX6_judge 18 = .ok (.iload_n 1, 1) := by decide +kernel
theorem dX6_judge_19 : decode cX6_judge 19 = .ok (.iload_n 2, 1) := by decide +kernel
theorem dX6_judge_20 : decode cX6_judge 20 = .ok (.invokevirtual 189, 3) := by decide +kernel
theorem dX6_judge_23 : decode cX6_judge 23 = .ok (.ireturn, 1) := by decide +kernel
theorem dX6_kinds_0 : decode cX6_kinds 0 = .ok (.aload_n 0, 1) := by decide +kernel
theorem dX6_kinds_1 : decode cX6_kinds 1 = .ok (.iload_n 1, 1) := by decide +kernel
theorem dX6_kinds_2 : decode cX6_kinds 2 = .ok (.iload_n 2, 1) := by decide +kernel
theorem dX6_kinds_3 : decode cX6_kinds 3 = .ok (.invokevirtual 186, 3) := by decide +kernel
theorem dX6_kinds_6 : decode cX6_kinds 6 = .ok (.istore 5, 2) := by decide +kernel
theorem dX6_kinds_8 : decode cX6_kinds 8 = .ok (.iload 5, 2) := by decide +kernel
theorem dX6_kinds_10 : decode cX6_kinds 10 = .ok (.ifCond .eq 6, 3) := by decide +kernel
theorem dX6_kinds_13 : decode cX6_kinds 13 = .ok (.iload 5, 2) := by decide +kernel
theorem dX6_kinds_15 : decode cX6_kinds 15 = .ok (.ireturn, 1) := by decide +kernel
theorem dX6_kinds_16 : decode cX6_kinds 16 = .ok (.aload_n 0, 1) := by decide +kernel
theorem dX6_kinds_17 : decode cX6_kinds 17 = .ok (.iload_n 3, 1) := by decide +kernel
theorem dX6_kinds_18 : decode cX6_kinds 18 = .ok (.invokevirtual 94, 3) := by decide +kernel
theorem dX6_kinds_21 : decode cX6_kinds 21 = .ok (.ifCond .ne 6, 3) := by decide +kernel
theorem dX6_kinds_24 : decode cX6_kinds 24 = .ok (.bipush (-6), 2) := by decide +kernel
theorem dX6_kinds_26 : decode cX6_kinds 26 = .ok (.ireturn, 1) := by decide +kernel
theorem dX6_kinds_27 : decode cX6_kinds 27 = .ok (.iload 4, 2) := by decide +kernel
theorem dX6_kinds_29 : decode cX6_kinds 29 = .ok (.iconst 0, 1) := by decide +kernel
theorem dX6_kinds_30 : decode cX6_kinds 30 = .ok (.iconst 1, 1) := by decide +kernel
theorem dX6_kinds_31 : decode cX6_kinds 31 = .ok (.invokestatic 86, 3) := by decide +kernel
theorem dX6_kinds_34 : decode cX6_kinds 34 = .ok (.ifCond .ne 6, 3) := by decide +kernel
theorem dX6_kinds_37 : decode cX6_kinds 37 = .ok (.bipush (-7), 2) := by decide +kernel
theorem dX6_kinds_39 : decode cX6_kinds 39 = .ok (.ireturn, 1) := by decide +kernel
theorem dX6_kinds_40 : decode cX6_kinds 40 = .ok (.iload 4, 2) := by decide +kernel
theorem dX6_kinds_42 : decode cX6_kinds 42 = .ok (.ifCond .ne 13, 3) := by decide +kernel
theorem dX6_kinds_45 : decode cX6_kinds 45 = .ok (.aload_n 0, 1) := by decide +kernel
theorem dX6_kinds_46 : decode cX6_kinds 46 = .ok (.getfield 24, 3) := by decide +kernel
theorem dX6_kinds_49 : decode cX6_kinds 49 = .ok (.getfield 109, 3) := by decide +kernel
theorem dX6_kinds_52 : decode cX6_kinds 52 = .ok (.goto 10, 3) := by decide +kernel
theorem dX6_kinds_55 : decode cX6_kinds 55 = .ok (.aload_n 0, 1) := by decide +kernel
theorem dX6_kinds_56 : decode cX6_kinds 56 = .ok (.getfield 24, 3) := by decide +kernel
theorem dX6_kinds_59 : decode cX6_kinds 59 = .ok (.getfield 112, 3) := by decide +kernel
theorem dX6_kinds_62 : decode cX6_kinds 62 = .ok (.astore 6, 2) := by decide +kernel
theorem dX6_kinds_64 : decode cX6_kinds 64 = .ok (.iconst 0, 1) := by decide +kernel
theorem dX6_kinds_65 : decode cX6_kinds 65 = .ok (.istore 7, 2) := by decide +kernel
theorem dX6_kinds_67 : decode cX6_kinds 67 = .ok (.iconst 0, 1) := by decide +kernel
theorem dX6_kinds_68 : decode cX6_kinds 68 = .ok (.istore 8, 2) := by decide +kernel
theorem dX6_kinds_70 : decode cX6_kinds 70 = .ok (.iload 8, 2) := by decide +kernel
theorem dX6_kinds_72 : decode cX6_kinds 72 = .ok (.iload 4, 2) := by decide +kernel
theorem dX6_kinds_74 : decode cX6_kinds 74 = .ok (.ifCond .ne 8, 3) := by decide +kernel
theorem dX6_kinds_77 : decode cX6_kinds 77 = .ok (.bipush 6, 2) := by decide +kernel
theorem dX6_kinds_79 : decode cX6_kinds 79 = .ok (.goto 5, 3) := by decide +kernel
theorem dX6_kinds_82 : decode cX6_kinds 82 = .ok (.bipush 10, 2) := by decide +kernel
theorem dX6_kinds_84 : decode cX6_kinds 84 = .ok (.if_icmp .ge 38, 3) := by decide +kernel
theorem dX6_kinds_87 : decode cX6_kinds 87 = .ok (.aload_n 0, 1) := by decide +kernel
theorem dX6_kinds_88 : decode cX6_kinds 88 = .ok (.invokevirtual 141, 3) := by decide +kernel
theorem dX6_kinds_91 : decode cX6_kinds 91 = .ok (.aload 6, 2) := by decide +kernel
theorem dX6_kinds_93 : decode cX6_kinds 93 = .ok (.iload_n 3, 1) := by decide +kernel
theorem dX6_kinds_94 : decode cX6_kinds 94 = .ok (.iload 8, 2) := by decide +kernel
theorem dX6_kinds_96 : decode cX6_kinds 96 = .ok (.iastore, 1) := by decide +kernel
theorem dX6_kinds_97 : decode cX6_kinds 97 = .ok (.aload_n 0, 1) := by decide +kernel
theorem dX6_kinds_98 : decode cX6_kinds 98 = .ok (.iload_n 1, 1) := by decide +kernel
theorem dX6_kinds_99 : decode cX6_kinds 99 = .ok (.iload_n 2, 1) := by decide +kernel
theorem dX6_kinds_100 : decode cX6_kinds 100 = .ok (.invokevirtual 189, 3) := by decide +kernel
theorem dX6_kinds_103 : decode cX6_kinds 103 = .ok (.iconst (-1), 1) := by decide +kernel
theorem dX6_kinds_104 : decode cX6_kinds 104 = .ok (.if_icmp .ne 12, 3) := by decide +kernel
theorem dX6_kinds_107 : decode cX6_kinds 107 = .ok (.iload 7, 2) := by decide +kernel
theorem dX6_kinds_109 : decode cX6_kinds 109 = .ok (.iconst 1, 1) := by decide +kernel
theorem dX6_kinds_110 : decode cX6_kinds 110 = .ok (.iload 8, 2) := by decide +kernel
theorem dX6_kinds_112 : decode cX6_kinds 112 = .ok (.ishl, 1) := by decide +kernel
theorem dX6_kinds_113 : decode cX6_kinds 113 = .ok (.ior, 1) := by decide +kernel
theorem dX6_kinds_114 : decode cX6_kinds 114 = .ok (.istore 7, 2) := by decide +kernel
theorem dX6_kinds_116 : decode cX6_kinds 116 = .ok (.iinc 8 1, 3) := by decide +kernel
theorem dX6_kinds_119 : decode cX6_kinds 119 = .ok (.goto (-49), 3) := by decide +kernel
theorem dX6_kinds_122 : decode cX6_kinds 122 = .ok (.iload 7, 2) := by decide +kernel
theorem dX6_kinds_124 : decode cX6_kinds 124 = .ok (.ireturn, 1) := by decide +kernel
theorem dX6_states_0 : decode cX6_states 0 = .ok (.aload_n 0, 1) := by decide +kernel
theorem dX6_states_1 : decode cX6_states 1 = .ok (.iload_n 1, 1) := by decide +kernel
theorem dX6_states_2 : decode cX6_states 2 = .ok (.iload_n 2, 1) := by decide +kernel
theorem dX6_states_3 : decode cX6_states 3 = .ok (.invokevirtual 186, 3) := by decide +kernel
theorem dX6_states_6 : decode cX6_states 6 = .ok (.istore 5, 2) := by decide +kernel
theorem dX6_states_8 : decode cX6_states 8 = .ok (.iload 5, 2) := by decide +kernel
theorem dX6_states_10 : decode cX6_states 10 = .ok (.ifCond .eq 6, 3) := by decide +kernel
theorem dX6_states_13 : decode cX6_states 13 = .ok (.iload 5, 2) := by decide +kernel
theorem dX6_states_15 : decode cX6_states 15 = .ok (.ireturn, 1) := by decide +kernel
theorem dX6_states_16 : decode cX6_states 16 = .ok (.iload_n 3, 1) := by decide +kernel
theorem dX6_states_17 : decode cX6_states 17 = .ok (.iconst 1, 1) := by decide +kernel
theorem dX6_states_18 : decode cX6_states 18 = .ok (.iconst 2, 1) := by decide +kernel
theorem dX6_states_19 : decode cX6_states 19 = .ok (.invokestatic 86, 3) := by decide +kernel
theorem dX6_states_22 : decode cX6_states 22 = .ok (.ifCond .eq 13, 3) := by decide +kernel
theorem dX6_states_25 : decode cX6_states 25 = .ok (.iload 4, 2) := by decide +kernel
theorem dX6_states_27 : decode cX6_states 27 = .ok (.iconst 0, 1) := by decide +kernel
theorem dX6_states_28 : decode cX6_states 28 = .ok (.iconst 1, 1) := by decide +kernel
theorem dX6_states_29 : decode cX6_states 29 = .ok (.invokestatic 86, 3) := by decide +kernel
theorem dX6_states_32 : decode cX6_states 32 = .ok (.ifCond .ne 6, 3) := by decide +kernel
theorem dX6_states_35 : decode cX6_states 35 = .ok (.bipush (-7), 2) := by decide +kernel
theorem dX6_states_37 : decode cX6_states 37 = .ok (.ireturn, 1) := by decide +kernel
theorem dX6_states_38 : decode cX6_states 38 = .ok (.iload_n 3, 1) := by decide +kernel
theorem dX6_states_39 : decode cX6_states 39 = .ok (.iconst 1, 1) := by decide +kernel
theorem dX6_states_40 : decode cX6_states 40 = .ok (.if_icmp .ne 13, 3) := by decide +kernel
theorem dX6_states_43 : decode cX6_states 43 = .ok (.aload_n 0, 1) := by decide +kernel
theorem dX6_states_44 : decode cX6_states 44 = .ok (.getfield 24, 3) := by decide +kernel
theorem dX6_states_47 : decode cX6_states 47 = .ok (.getfield 147, 3) := by decide +kernel
theorem dX6_states_50 : decode cX6_states 50 = .ok (.goto 10, 3) := by decide +kernel
theorem dX6_states_53 : decode cX6_states 53 = .ok (.aload_n 0, 1) := by decide +kernel
theorem dX6_states_54 : decode cX6_states 54 = .ok (.getfield 24, 3) := by decide +kernel
theorem dX6_states_57 : decode cX6_states 57 = .ok (.getfield 192, 3) := by decide +kernel
theorem dX6_states_60 : decode cX6_states 60 = .ok (.astore 6, 2) := by decide +kernel
theorem dX6_states_62 : decode cX6_states 62 = .ok (.iconst 0, 1) := by decide +kernel
theorem dX6_states_63 : decode cX6_states 63 = .ok (.istore 7, 2) := by decide +kernel
theorem dX6_states_65 : decode cX6_states 65 = .ok (.iconst (-1), 1) := by decide +kernel
theorem dX6_states_66 : decode cX6_states 66 = .ok (.istore 8, 2) := by decide +kernel
theorem dX6_states_68 : decode cX6_states 68 = .ok (.iconst 0, 1) := by decide +kernel
theorem dX6_states_69 : decode cX6_states 69 = .ok (.istore 9, 2) := by decide +kernel
theorem dX6_states_71 : decode cX6_states 71 = .ok (.iload 9, 2) := by decide +kernel
theorem dX6_states_73 : decode cX6_states 73 = .ok (.bipush 99, 2) := by decide +kernel
theorem dX6_states_75 : decode cX6_states 75 = .ok (.if_icmp .gt 46, 3) := by decide +kernel
theorem dX6_states_78 : decode cX6_states 78 = .ok (.aload_n 0, 1) := by decide +kernel
theorem dX6_states_79 : decode cX6_states 79 = .ok (.invokevirtual 141, 3) := by decide +kernel
theorem dX6_states_82 : decode cX6_states 82 = .ok (.aload 6, 2) := by decide +kernel
theorem dX6_states_84 : decode cX6_states 84 = .ok (.iload_n 2, 1) := by decide +kernel
theorem dX6_states_85 : decode cX6_states 85 = .ok (.iload 9, 2) := by decide +kernel
theorem dX6_states_87 : decode cX6_states 87 = .ok (.iastore, 1) := by decide +kernel
theorem dX6_states_88 : decode cX6_states 88 = .ok (.aload_n 0, 1) := by decide +kernel
theorem dX6_states_89 : decode cX6_states 89 = .ok (.iload_n 1, 1) := by decide +kernel
theorem dX6_states_90 : decode cX6_states 90 = .ok (.iload_n 2, 1) := by decide +kernel
theorem dX6_states_91 : decode cX6_states 91 = .ok (.invokevirtual 189, 3) := by decide +kernel
theorem dX6_states_94 : decode cX6_states 94 = .ok (.iconst (-1), 1) := by decide +kernel
theorem dX6_states_95 : decode cX6_states 95 = .ok (.if_icmp .ne 20, 3) := by decide +kernel
theorem dX6_states_98 : decode cX6_states 98 = .ok (.iload 7, 2) := by decide +kernel
theorem dX6_states_100 : decode cX6_states 100 = .ok (.ifCond .ne 8, 3) := by decide +kernel
theorem dX6_states_103 : decode cX6_states 103 = .ok (.iload 9, 2) := by decide +kernel
theorem dX6_states_105 : decode cX6_states 105 = .ok (.goto 5, 3) := by decide +kernel
theorem dX6_states_108 : decode cX6_states 108 = .ok (.iload 8, 2) := by decide +kernel
theorem dX6_states_110 : decode cX6_states 110 = .ok (.istore 8, 2) := by decide +kernel
theorem dX6_states_112 : decode cX6_states 112 = .ok (.iinc 7 1, 3) := by decide +kernel
theorem dX6_states_115 : decode cX6_states 115 = .ok (.iinc 9 1, 3) := by decide +kernel
theorem dX6_states_118 : decode cX6_states 118 = .ok (.goto (-47), 3) := by decide +kernel
theorem dX6_states_121 : decode cX6_states 121 = .ok (.iload 4, 2) := by decide +kernel
theorem dX6_states_123 : decode cX6_states 123 = .ok (.ifCond .ne 8, 3) := by decide +kernel
theorem dX6_states_126 : decode cX6_states 126 = .ok (.iload 7, 2) := by decide +kernel
theorem dX6_states_128 : decode cX6_states 128 = .ok (.goto 5, 3) := by decide +kernel
theorem dX6_states_131 : decode cX6_states 131 = .ok (.iload 8, 2) := by decide +kernel
theorem dX6_states_133 : decode cX6_states 133 = .ok (.ireturn, 1) := by decide +kernel
theorem dX6_places_0 : decode cX6_places 0 = .ok (.aload_n 0, 1) := by decide +kernel
theorem dX6_places_1 : decode cX6_places 1 = .ok (.iload_n 1, 1) := by decide +kernel
theorem dX6_places_2 : decode cX6_places 2 = .ok (.iload_n 2, 1) := by decide +kernel
theorem dX6_places_3 : decode cX6_places 3 = .ok (.invokevirtual 186, 3) := by decide +kernel
theorem dX6_places_6 : decode cX6_places 6 = .ok (.ifCond .eq 7, 3) := by decide +kernel
theorem dX6_places_9 : decode cX6_places 9 = .ok (.ldc2_w 184, 3) := by decide +kernel
theorem dX6_places_12 : decode cX6_places 12 = .ok (.lreturn, 1) := by decide +kernel
theorem dX6_places_13 : decode cX6_places 13 = .ok (.lconst 0, 1) := by decide +kernel
theorem dX6_places_14 : decode cX6_places 14 = .ok (.lstore_n 3, 1) := by decide +kernel
theorem dX6_places_15 : decode cX6_places 15 = .ok (.iconst 0, 1) := by decide +kernel
theorem dX6_places_16 : decode cX6_places 16 = .ok (.istore 5, 2) := by decide +kernel
theorem dX6_places_18 : decode cX6_places 18 = .ok (.iload 5, 2) := by decide +kernel
theorem dX6_places_20 : decode cX6_places 20 = .ok (.bipush 64, 2) := by decide +kernel
theorem dX6_places_22 : decode cX6_places 22 = .ok (.if_icmp .ge 41, 3) := by decide +kernel
theorem dX6_places_25 : decode cX6_places 25 = .ok (.aload_n 0, 1) := by decide +kernel
theorem dX6_places_26 : decode cX6_places 26 = .ok (.invokevirtual 141, 3) := by decide +kernel
theorem dX6_places_29 : decode cX6_places 29 = .ok (.aload_n 0, 1) := by decide +kernel
theorem dX6_places_30 : decode cX6_places 30 = .ok (.getfield 24, 3) := by decide +kernel
theorem dX6_places_33 : decode cX6_places 33 = .ok (.getfield 144, 3) := by decide +kernel
theorem dX6_places_36 : decode cX6_places 36 = .ok (.iload_n 2, 1) := by decide +kernel
theorem dX6_places_37 : decode cX6_places 37 = .ok (.iload 5, 2) := by decide +kernel
theorem dX6_places_39 : decode cX6_places 39 = .ok (.iastore, 1) := by decide +kernel
theorem dX6_places_40 : decode cX6_places 40 = .ok (.aload_n 0, 1) := by decide +kernel
theorem dX6_places_41 : decode cX6_places 41 = .ok (.iload_n 1, 1) := by decide +kernel
theorem dX6_places_42 : decode cX6_places 42 = .ok (.iload_n 2, 1) := by decide +kernel
theorem dX6_places_43 : decode cX6_places 43 = .ok (.invokevirtual 189, 3) := by decide +kernel
theorem dX6_places_46 : decode cX6_places 46 = .ok (.iconst (-1), 1) := by decide +kernel
theorem dX6_places_47 : decode cX6_places 47 = .ok (.if_icmp .ne 10, 3) := by decide +kernel
theorem dX6_places_50 : decode cX6_places 50 = .ok (.lload_n 3, 1) := by decide +kernel
theorem dX6_places_51 : decode cX6_places 51 = .ok (.lconst 1, 1) := by decide +kernel
theorem dX6_places_52 : decode cX6_places 52 = .ok (.iload 5, 2) := by decide +kernel
theorem dX6_places_54 : decode cX6_places 54 = .ok (.lshl, 1) := by decide +kernel
theorem dX6_places_55 : decode cX6_places 55 = .ok (.lor, 1) := by decide +kernel
theorem dX6_places_56 : decode cX6_places 56 = .ok (.lstore_n 3, 1) := by decide +kernel
theorem dX6_places_57 : decode cX6_places 57 = .ok (.iinc 5 1, 3) := by decide +kernel
theorem dX6_places_60 : decode cX6_places 60 = .ok (.goto (-42), 3) := by decide +kernel
theorem dX6_places_63 : decode cX6_places 63 = .ok (.lload_n 3, 1) := by decide +kernel
theorem dX6_places_64 : decode cX6_places 64 = .ok (.lreturn, 1) := by decide +kernel
theorem dX6_whose_0 : decode cX6_whose 0 = .ok (.aload_n 0, 1) := by decide +kernel
theorem dX6_whose_1 : decode cX6_whose 1 = .ok (.iload_n 1, 1) := by decide +kernel
theorem dX6_whose_2 : decode cX6_whose 2 = .ok (.invokevirtual 195, 3) := by decide +kernel
theorem dX6_whose_5 : decode cX6_whose 5 = .ok (.istore_n 2, 1) := by decide +kernel
theorem dX6_whose_6 : decode cX6_whose 6 = .ok (.iload_n 2, 1) := by decide +kernel
theorem dX6_whose_7 : decode cX6_whose 7 = .ok (.ifCond .eq 5, 3) := by decide +kernel
theorem dX6_whose_10 : decode cX6_whose 10 = .ok (.iload_n 2, 1) := by decide +kernel
theorem dX6_whose_11 : decode cX6_whose 11 = .ok (.ireturn, 1) := by decide +kernel
theorem dX6_whose_12 : decode cX6_whose 12 = .ok (.iconst 0, 1) := by decide +kernel
theorem dX6_whose_13 : decode cX6_whose 13 = .ok (.istore_n 3, 1) := by decide +kernel
theorem dX6_whose_14 : decode cX6_whose 14 = .ok (.iconst 0, 1) := by decide +kernel
theorem dX6_whose_15 : decode cX6_whose 15 = .ok (.istore 4, 2) := by decide +kernel
theorem dX6_whose_17 : decode cX6_whose 17 = .ok (.iload 4, 2) := by decide +kernel
theorem dX6_whose_19 : decode cX6_whose 19 = .ok (.aload_n 0, 1) := by decide +kernel
theorem dX6_whose_20 : decode cX6_whose 20 = .ok (.getfield 20, 3) := by decide +kernel
theorem dX6_whose_23 : decode cX6_whose 23 = .ok (.getfield 71, 3) := by decide +kernel
theorem dX6_whose_26 : decode cX6_whose 26 = .ok (.if_icmp .ge 31, 3) := by decide +kernel
theorem dX6_whose_29 : decode cX6_whose 29 = .ok (.aload_n 0, 1) := by decide +kernel
theorem dX6_whose_30 : decode cX6_whose 30 = .ok (.invokevirtual 141, 3) := by decide +kernel
theorem dX6_whose_33 : decode cX6_whose 33 = .ok (.aload_n 0, 1) := by decide +kernel
theorem dX6_whose_34 : decode cX6_whose 34 = .ok (.iload_n 1, 1) := by decide +kernel
theorem dX6_whose_35 : decode cX6_whose 35 = .ok (.iload 4, 2) := by decide +kernel
theorem dX6_whose_37 : decode cX6_whose 37 = .ok (.invokevirtual 189, 3) := by decide +kernel
theorem dX6_whose_40 : decode cX6_whose 40 = .ok (.iconst (-1), 1) := by decide +kernel
theorem dX6_whose_41 : decode cX6_whose 41 = .ok (.if_icmp .ne 10, 3) := by decide +kernel
theorem dX6_whose_44 : decode cX6_whose 44 = .ok (.iload_n 3, 1) := by decide +kernel
theorem dX6_whose_45 : decode cX6_whose 45 = .ok (.iconst 1, 1) := by decide +kernel
theorem dX6_whose_46 : decode cX6_whose 46 = .ok (.iload 4, 2) := by decide +kernel
theorem dX6_whose_48 : decode cX6_whose 48 = .ok (.ishl, 1) := by decide +kernel
theorem dX6_whose_49 : decode cX6_whose 49 = .ok (.ior, 1) := by decide +kernel
theorem dX6_whose_50 : decode cX6_whose 50 = .ok (.istore_n 3, 1) := by decide +kernel
theorem dX6_whose_51 : decode cX6_whose 51 = .ok (.iinc 4 1, 3) := by decide +kernel
theorem dX6_whose_54 : decode cX6_whose 54 = .ok (.goto (-37), 3) := by decide +kernel
theorem dX6_whose_57 : decode cX6_whose 57 = .ok (.iload_n 3, 1) := by decide +kernel
theorem dX6_whose_58 : decode cX6_whose 58 = .ok (.ireturn, 1) := by decide +kernel
theorem dX6_laws_0 : decode cX6_laws 0 = .ok (.aload_n 0, 1) := by decide +kernel
theorem dX6_laws_1 : decode cX6_laws 1 = .ok (.iload_n 1, 1) := by decide +kernel
theorem dX6_laws_2 : decode cX6_laws 2 = .ok (.iload_n 2, 1) := by decide +kernel
theorem dX6_laws_3 : decode cX6_laws 3 = .ok (.invokevirtual 186, 3) := by decide +kernel
theorem dX6_laws_6 : decode cX6_laws 6 = .ok (.istore_n 3, 1) := by decide +kernel
theorem dX6_laws_7 : decode cX6_laws 7 = .ok (.iload_n 3, 1) := by decide +kernel
theorem dX6_laws_8 : decode cX6_laws 8 = .ok (.ifCond .eq 5, 3) := by decide +kernel
theorem dX6_laws_11 : decode cX6_laws 11 = .ok (.iload_n 3, 1) := by decide +kernel
theorem dX6_laws_12 : decode cX6_laws 12 = .ok (.ireturn, 1) := by decide +kernel
theorem dX6_laws_13 : decode cX6_laws 13 = .ok (.iconst 0, 1) := by decide +kernel
theorem dX6_laws_14 : decode cX6_laws 14 = .ok (.istore 4, 2) := by decide +kernel
theorem dX6_laws_16 : decode cX6_laws 16 = .ok (.iconst 0, 1) := by decide +kernel
theorem dX6_laws_17 : decode cX6_laws 17 = .ok (.istore 5, 2) := by decide +kernel
theorem dX6_laws_19 : decode cX6_laws 19 = .ok (.iload 5, 2) := by decide +kernel
theorem dX6_laws_21 : decode cX6_laws 21 = .ok (.aload_n 0, 1) := by decide +kernel
theorem dX6_laws_22 : decode cX6_laws 22 = .ok (.getfield 67, 3) := by decide +kernel
theorem dX6_laws_25 : decode cX6_laws 25 = .ok (.if_icmp .ge 41, 3) := by decide +kernel
theorem dX6_laws_28 : decode cX6_laws 28 = .ok (.aload_n 0, 1) := by decide +kernel
theorem dX6_laws_29 : decode cX6_laws 29 = .ok (.invokevirtual 141, 3) := by decide +kernel
theorem dX6_laws_32 : decode cX6_laws 32 = .ok (.aload_n 0, 1) := by decide +kernel
theorem dX6_laws_33 : decode cX6_laws 33 = .ok (.getfield 24, 3) := by decide +kernel
theorem dX6_laws_36 : decode cX6_laws 36 = .ok (.iload 5, 2) := by decide +kernel
theorem dX6_laws_38 : decode cX6_laws 38 = .ok (.putfield 80, 3) := by decide +kernel
theorem dX6_laws_41 : decode cX6_laws 41 = .ok (.aload_n 0, 1) := by decide +kernel
theorem dX6_laws_42 : decode cX6_laws 42 = .ok (.iload_n 1, 1) := by decide +kernel
theorem dX6_laws_43 : decode cX6_laws 43 = .ok (.iload_n 2, 1) := by decide +kernel
theorem dX6_laws_44 : decode cX6_laws 44 = .ok (.invokevirtual 189, 3) := by decide +kernel
theorem dX6_laws_47 : decode cX6_laws 47 = .ok (.iconst (-1), 1) := by decide +kernel
theorem dX6_laws_48 : decode cX6_laws 48 = .ok (.if_icmp .ne 12, 3) := by decide +kernel
theorem dX6_laws_51 : decode cX6_laws 51 = .ok (.iload 4, 2) := by decide +kernel
theorem dX6_laws_53 : decode cX6_laws 53 = .ok (.iconst 1, 1) := by decide +kernel
theorem dX6_laws_54 : decode cX6_laws 54 = .ok (.iload 5, 2) := by decide +kernel
theorem dX6_laws_56 : decode cX6_laws 56 = .ok (.ishl, 1) := by decide +kernel
theorem dX6_laws_57 : decode cX6_laws 57 = .ok (.ior, 1) := by decide +kernel
theorem dX6_laws_58 : decode cX6_laws 58 = .ok (.istore 4, 2) := by decide +kernel
theorem dX6_laws_60 : decode cX6_laws 60 = .ok (.iinc 5 1, 3) := by decide +kernel
theorem dX6_laws_63 : decode cX6_laws 63 = .ok (.goto (-44), 3) := by decide +kernel
theorem dX6_laws_66 : decode cX6_laws 66 = .ok (.iload 4, 2) := by decide +kernel
theorem dX6_laws_68 : decode cX6_laws 68 = .ok (.ireturn, 1) := by decide +kernel
theorem dX6_film_0 : decode cX6_film 0 = .ok (.iload_n 1, 1) := by decide +kernel
theorem dX6_film_1 : decode cX6_film 1 = .ok (.invokestatic 197, 3) := by decide +kernel
theorem dX6_film_4 : decode cX6_film 4 = .ok (.ifCond .ne 6, 3) := by decide +kernel
theorem dX6_film_7 : decode cX6_film 7 = .ok (.bipush (-2), 2) := by decide +kernel
theorem dX6_film_9 : decode cX6_film 9 = .ok (.ireturn, 1) := by decide +kernel
theorem dX6_film_10 : decode cX6_film 10 = .ok (.aload_n 0, 1) := by decide +kernel
theorem dX6_film_11 : decode cX6_film 11 = .ok (.iload_n 2, 1) := by decide +kernel
theorem dX6_film_12 : decode cX6_film 12 = .ok (.invokevirtual 94, 3) := by decide +kernel
theorem dX6_film_15 : decode cX6_film 15 = .ok (.ifCond .ne 6, 3) := by decide +kernel
theorem dX6_film_18 : decode cX6_film 18 = .ok (.bipush (-5), 2) := by decide +kernel
theorem dX6_film_20 : decode cX6_film 20 = .ok (.ireturn, 1) := by decide +kernel
theorem dX6_film_21 : decode cX6_film 21 = .ok (.iload_n 3, 1) := by decide +kernel
theorem dX6_film_22 : decode cX6_film 22 = .ok (.iconst 0, 1) := by decide +kernel
theorem dX6_film_23 : decode cX6_film 23 = .ok (.bipush 20, 2) := by decide +kernel
theorem dX6_film_25 : decode cX6_film 25 = .ok (.invokestatic 86, 3) := by decide +kernel
theorem dX6_film_28 : decode cX6_film 28 = .ok (.ifCond .ne 6, 3) := by decide +kernel
theorem dX6_film_31 : decode cX6_film 31 = .ok (.bipush (-7), 2) := by decide +kernel
theorem dX6_film_33 : decode cX6_film 33 = .ok (.ireturn, 1) := by decide +kernel
theorem dX6_film_34 : decode cX6_film 34 = .ok (.aload_n 0, 1) := by decide +kernel
theorem dX6_film_35 : decode cX6_film 35 = .ok (.getfield 43, 3) := by decide +kernel
theorem dX6_film_38 : decode cX6_film 38 = .ok (.iload_n 1, 1) := by decide +kernel
theorem dX6_film_39 : decode cX6_film 39 = .ok (.aaload, 1) := by decide +kernel
theorem dX6_film_40 : decode cX6_film 40 = .ok (.iconst 0, 1) := by decide +kernel
theorem dX6_film_41 : decode cX6_film 41 = .ok (.iload_n 3, 1) := by decide +kernel
theorem dX6_film_42 : decode cX6_film 42 = .ok (.invokevirtual 200, 3) := by decide +kernel
theorem dX6_film_45 : decode cX6_film 45 = .ok (.aload_n 0, 1) := by decide +kernel
theorem dX6_film_46 : decode cX6_film 46 = .ok (.invokevirtual 141, 3) := by decide +kernel
theorem dX6_film_49 : decode cX6_film 49 = .ok (.iconst 0, 1) := by decide +kernel
theorem dX6_film_50 : decode cX6_film 50 = .ok (.istore 4, 2) := by decide +kernel
theorem dX6_film_52 : decode cX6_film 52 = .ok (.iload 4, 2) := by decide +kernel
theorem dX6_film_54 : decode cX6_film 54 = .ok (.iload_n 3, 1) := by decide +kernel
theorem dX6_film_55 : decode cX6_film 55 = .ok (.if_icmp .ge 38, 3) := by decide +kernel
theorem dX6_film_58 : decode cX6_film 58 = .ok (.aload_n 0, 1) := by decide +kernel
theorem dX6_film_59 : decode cX6_film 59 = .ok (.getfield 24, 3) := by decide +kernel
theorem dX6_film_62 : decode cX6_film 62 = .ok (.invokevirtual 138, 3) := by decide +kernel
theorem dX6_film_65 : decode cX6_film 65 = .ok (.pop, 1) := by decide +kernel
theorem dX6_film_66 : decode cX6_film 66 = .ok (.aload_n 0, 1) := by decide +kernel
theorem dX6_film_67 : decode cX6_film 67 = .ok (.getfield 43, 3) := by decide +kernel
theorem dX6_film_70 : decode cX6_film 70 = .ok (.iload_n 1, 1) := by decide +kernel
theorem dX6_film_71 : decode cX6_film 71 = .ok (.aaload, 1) := by decide +kernel
theorem dX6_film_72 : decode cX6_film 72 = .ok (.getfield 203, 3) := by decide +kernel
theorem dX6_film_75 : decode cX6_film 75 = .ok (.iload 4, 2) := by decide +kernel
theorem dX6_film_77 : decode cX6_film 77 = .ok (.aload_n 0, 1) := by decide +kernel
theorem dX6_film_78 : decode cX6_film 78 = .ok (.getfield 24, 3) := by decide +kernel
theorem dX6_film_81 : decode cX6_film 81 = .ok (.getfield 147, 3) := by decide +kernel
theorem dX6_film_84 : decode cX6_film 84 = .ok (.iload_n 2, 1) := by decide +kernel
theorem dX6_film_85 : decode cX6_film 85 = .ok (.iaload, 1) := by decide +kernel
theorem dX6_film_86 : decode cX6_film 86 = .ok (.iastore, 1) := by decide +kernel
theorem dX6_film_87 : decode cX6_film 87 = .ok (.iinc 4 1, 3) := by decide +kernel
theorem dX6_film_90 : decode cX6_film 90 = .ok (.goto (-38), 3) := by decide +kernel
theorem dX6_film_93 : decode cX6_film 93 = .ok (.iload_n 3, 1) := by decide +kernel
theorem dX6_film_94 : decode cX6_film 94 = .ok (.ireturn, 1) := by decide +kernel
theorem dX6_drawn_0 : decode cX6_drawn 0 = .ok (.iload_n 1, 1) := by decide +kernel
theorem dX6_drawn_1 : decode cX6_drawn 1 = .ok (.iconst 0, 1) := by decide +kernel
theorem dX6_drawn_2 : decode cX6_drawn 2 = .ok (.ldc 206, 2) := by decide +kernel
theorem dX6_drawn_4 : decode cX6_drawn 4 = .ok (.invokestatic 86, 3) := by decide +kernel
theorem dX6_drawn_7 : decode cX6_drawn 7 = .ok (.ifCond .eq 12, 3) := by decide +kernel
theorem dX6_drawn_10 : decode cX6_drawn 10 = .ok (.iload_n 2, 1) := by decide +kernel
theorem dX6_drawn_11 : decode cX6_drawn 11 = .ok (.iconst 0, 1) := by decide +kernel
theorem dX6_drawn_12 : decode cX6_drawn 12 = .ok (.iconst 1, 1) := by decide +kernel
theorem dX6_drawn_13 : decode cX6_drawn 13 = .ok (.invokestatic 86, 3) := by decide +kernel
theorem dX6_drawn_16 : decode cX6_drawn 16 = .ok (.ifCond .ne 6, 3) := by decide +kernel
theorem dX6_drawn_19 : decode cX6_drawn 19 = .ok (.bipush (-2), 2) := by decide +kernel
theorem dX6_drawn_21 : decode cX6_drawn 21 = .ok (.ireturn, 1) := by decide +kernel
theorem dX6_drawn_22 : decode cX6_drawn 22 = .ok (.aload_n 0, 1) := by decide +kernel
theorem dX6_drawn_23 : decode cX6_drawn 23 = .ok (.iload_n 1, 1) := by decide +kernel
theorem dX6_drawn_24 : decode cX6_drawn 24 = .ok (.invokevirtual 207, 3) := by decide +kernel
theorem dX6_drawn_27 : decode cX6_drawn 27 = .ok (.iload_n 2, 1) := by decide +kernel
theorem dX6_drawn_28 : decode cX6_drawn 28 = .ok (.ifCond .ne 13, 3) := by decide +kernel
theorem dX6_drawn_31 : decode cX6_drawn 31 = .ok (.aload_n 0, 1) := by decide +kernel
theorem dX6_drawn_32 : decode cX6_drawn 32 = .ok (.getfield 24, 3) := by decide +kernel
theorem dX6_drawn_35 : decode cX6_drawn 35 = .ok (.invokevirtual 153, 3) := by decide +kernel
theorem dX6_drawn_38 : decode cX6_drawn 38 = .ok (.goto 10, 3) := by decide +kernel
theorem dX6_drawn_41 : decode cX6_drawn 41 = .ok (.aload_n 0, 1) := by decide +kernel
theorem dX6_drawn_42 : decode cX6_drawn 42 = .ok (.getfield 24, 3) := by decide +kernel
theorem dX6_drawn_45 : decode cX6_drawn 45 = .ok (.invokevirtual 156, 3) := by decide +kernel
theorem dX6_drawn_48 : decode cX6_drawn 48 = .ok (.ireturn, 1) := by decide +kernel
theorem dX6_odds_0 : decode cX6_odds 0 = .ok (.iload_n 1, 1) := by decide +kernel
theorem dX6_odds_1 : decode cX6_odds 1 = .ok (.iconst 0, 1) := by decide +kernel
theorem dX6_odds_2 : decode cX6_odds 2 = .ok (.ldc 206, 2) := by decide +kernel
theorem dX6_odds_4 : decode cX6_odds 4 = .ok (.invokestatic 86, 3) := by decide +kernel
theorem dX6_odds_7 : decode cX6_odds 7 = .ok (.ifCond .eq 21, 3) := by decide +kernel
theorem dX6_odds_10 : decode cX6_odds 10 = .ok (.iload_n 2, 1) := by decide +kernel
theorem dX6_odds_11 : decode cX6_odds 11 = .ok (.iconst 1, 1) := by decide +kernel
theorem dX6_odds_12 : decode cX6_odds 12 = .ok (.bipush 40, 2) := by decide +kernel
theorem dX6_odds_14 : decode cX6_odds 14 = .ok (.invokestatic 86, 3) := by decide +kernel
theorem dX6_odds_17 : decode cX6_odds 17 = .ok (.ifCond .eq 11, 3) := by decide +kernel
theorem dX6_odds_20 : decode cX6_odds 20 = .ok (.aload_n 0, 1) := by decide +kernel
theorem dX6_odds_21 : decode cX6_odds 21 = .ok (.iload_n 3, 1) := by decide +kernel
theorem dX6_odds_22 : decode cX6_odds 22 = .ok (.invokevirtual 94, 3) := by decide +kernel
theorem dX6_odds_25 : decode cX6_odds 25 = .ok (.ifCond .ne 7, 3) := by decide +kernel
theorem dX6_odds_28 : decode cX6_odds 28 = .ok (.ldc2_w 184, 3) := by decide +kernel
theorem dX6_odds_31 : decode cX6_odds 31 = .ok (.lreturn, 1) := by decide +kernel
theorem dX6_odds_32 : decode cX6_odds 32 = .ok (.iconst 0, 1) := by decide +kernel
theorem dX6_odds_33 : decode cX6_odds 33 = .ok (.istore 5, 2) := by decide +kernel
theorem dX6_odds_35 : decode cX6_odds 35 = .ok (.iconst 0, 1) := by decide +kernel
theorem dX6_odds_36 : decode cX6_odds 36 = .ok (.istore 6, 2) := by decide +kernel
theorem dX6_odds_38 : decode cX6_odds 38 = .ok (.iload 6, 2) := by decide +kernel
theorem dX6_odds_40 : decode cX6_odds 40 = .ok (.iload_n 2, 1) := by decide +kernel
theorem dX6_odds_41 : decode cX6_odds 41 = .ok (.if_icmp .ge 32, 3) := by decide +kernel
theorem dX6_odds_44 : decode cX6_odds 44 = .ok (.aload_n 0, 1) := by decide +kernel
theorem dX6_odds_45 : decode cX6_odds 45 = .ok (.iload_n 1, 1) := by decide +kernel
theorem dX6_odds_46 : decode cX6_odds 46 = .ok (.iload 6, 2) := by decide +kernel
theorem dX6_odds_48 : decode cX6_odds 48 = .ok (.iadd, 1) := by decide +kernel
theorem dX6_odds_49 : decode cX6_odds 49 = .ok (.invokevirtual 207, 3) := by decide +kernel
theorem dX6_odds_52 : decode cX6_odds 52 = .ok (.aload_n 0, 1) := by decide +kernel
theorem dX6_odds_53 : decode cX6_odds 53 = .ok (.getfield 24, 3) := by decide +kernel
theorem dX6_odds_56 : decode cX6_odds 56 = .ok (.getfield 147, 3) := by decide +kernel
theorem dX6_odds_59 : decode cX6_odds 59 = .ok (.iload_n 3, 1) := by decide +kernel
theorem dX6_odds_60 : decode cX6_odds 60 = .ok (.iaload, 1) := by decide +kernel
theorem dX6_odds_61 : decode cX6_odds 61 = .ok (.ifCond .le 6, 3) := by decide +kernel
theorem dX6_odds_64 : decode cX6_odds 64 = .ok (.iinc 5 1, 3) := by decide +kernel
theorem dX6_odds_67 : decode cX6_odds 67 = .ok (.iinc 6 1, 3) := by decide +kernel
theorem dX6_odds_70 : decode cX6_odds 70 = .ok (.goto (-32), 3) := by decide +kernel
theorem dX6_odds_73 : decode cX6_odds 73 = .ok (.iload 5, 2) := by decide +kernel
theorem dX6_odds_75 : decode cX6_odds 75 = .ok (.iload_n 2, 1) := by decide +kernel
theorem dX6_odds_76 : decode cX6_odds 76 = .ok (.iload 4, 2) := by decide +kernel
theorem dX6_odds_78 : decode cX6_odds 78 = .ok (.invokestatic 180, 3) := by decide +kernel
theorem dX6_odds_81 : decode cX6_odds 81 = .ok (.lreturn, 1) := by decide +kernel
theorem dX6_image_0 : decode cX6_image 0 = .ok (.aload_n 0, 1) := by decide +kernel
theorem dX6_image_1 : decode cX6_image 1 = .ok (.getfield 27, 3) := by decide +kernel
theorem dX6_image_4 : decode cX6_image 4 = .ok (.aload_n 0, 1) := by decide +kernel
theorem dX6_image_5 : decode cX6_image 5 = .ok (.getfield 20, 3) := by decide +kernel
theorem dX6_image_8 : decode cX6_image 8 = .ok (.invokevirtual 211, 3) := by decide +kernel
theorem dX6_image_11 : decode cX6_image 11 = .ok (.aload_n 0, 1) := by decide +kernel
theorem dX6_image_12 : decode cX6_image 12 = .ok (.iconst 1, 1) := by decide +kernel
theorem dX6_image_13 : decode cX6_image 13 = .ok (.putfield 214, 3) := by decide +kernel
theorem dX6_image_16 : decode cX6_image 16 = .ok (.aload_n 0, 1) := by decide +kernel
theorem dX6_image_17 : decode cX6_image 17 = .ok (.getfield 20, 3) := by decide +kernel
theorem dX6_image_20 : decode cX6_image 20 = .ok (.getfield 71, 3) := by decide +kernel
theorem dX6_image_23 : decode cX6_image 23 = .ok (.ireturn, 1) := by decide +kernel
theorem dX6_back_0 : decode cX6_back 0 = .ok (.aload_n 0, 1) := by decide +kernel
theorem dX6_back_1 : decode cX6_back 1 = .ok (.getfield 214, 3) := by decide +kernel
theorem dX6_back_4 : decode cX6_back 4 = .ok (.ifCond .ne 6, 3) := by decide +kernel
theorem dX6_back_7 : decode cX6_back 7 = .ok (.bipush (-3), 2) := by decide +kernel
theorem dX6_back_9 : decode cX6_back 9 = .ok (.ireturn, 1) := by decide +kernel
theorem dX6_back_10 : decode cX6_back 10 = .ok (.aload_n 0, 1) := by decide +kernel
theorem dX6_back_11 : decode cX6_back 11 = .ok (.getfield 20, 3) := by decide +kernel
theorem dX6_back_14 : decode cX6_back 14 = .ok (.aload_n 0, 1) := by decide +kernel
theorem dX6_back_15 : decode cX6_back 15 = .ok (.getfield 27, 3) := by decide +kernel
theorem dX6_back_18 : decode cX6_back 18 = .ok (.invokevirtual 211, 3) := by decide +kernel
theorem dX6_back_21 : decode cX6_back 21 = .ok (.aload_n 0, 1) := by decide +kernel
theorem dX6_back_22 : decode cX6_back 22 = .ok (.getfield 20, 3) := by decide +kernel
theorem dX6_back_25 : decode cX6_back 25 = .ok (.getfield 71, 3) := by decide +kernel
theorem dX6_back_28 : decode cX6_back 28 = .ok (.ireturn, 1) := by decide +kernel
theorem dX6_sheet_0 : decode cX6_sheet 0 = .ok (.iload_n 2, 1) := by decide +kernel
theorem dX6_sheet_1 : decode cX6_sheet 1 = .ok (.iconst (-1), 1) := by decide +kernel
theorem dX6_sheet_2 : decode cX6_sheet 2 = .ok (.if_icmp .ne 7, 3) := by decide +kernel
theorem dX6_sheet_5 : decode cX6_sheet 5 = .ok (.iconst 1, 1) := by decide +kernel
theorem dX6_sheet_6 : decode cX6_sheet 6 = .ok (.goto 4, 3) := by decide +kernel
theorem dX6_sheet_9 : decode cX6_sheet 9 = .ok (.iconst 0, 1) := by decide +kernel
theorem dX6_sheet_10 : decode cX6_sheet 10 = .ok (.istore 4, 2) := by decide +kernel
theorem dX6_sheet_12 : decode cX6_sheet 12 = .ok (.iload_n 1, 1) := by decide +kernel
theorem dX6_sheet_13 : decode cX6_sheet 13 = .ok (.invokestatic 197, 3) := by decide +kernel
theorem dX6_sheet_16 : decode cX6_sheet 16 = .ok (.ifCond .eq 26, 3) := by decide +kernel
theorem dX6_sheet_19 : decode cX6_sheet 19 = .ok (.iload 4, 2) := by decide +kernel
theorem dX6_sheet_21 : decode cX6_sheet 21 = .ok (.ifCond .ne 10, 3) := by decide +kernel
theorem dX6_sheet_24 : decode cX6_sheet 24 = .ok (.iload_n 2, 1) := by decide +kernel
theorem dX6_sheet_25 : decode cX6_sheet 25 = .ok (.invokestatic 218, 3) := by decide +kernel
theorem dX6_sheet_28 : decode cX6_sheet 28 = .ok (.ifCond .eq 14, 3) := by decide +kernel
theorem dX6_sheet_31 : decode cX6_sheet 31 = .ok (.iload 4, 2) := by decide +kernel
theorem dX6_sheet_33 : decode cX6_sheet 33 = .ok (.ifCond .ne 12, 3) := by decide +kernel
theorem dX6_sheet_36 : decode cX6_sheet 36 = .ok (.iload_n 3, 1) := by decide +kernel
theorem dX6_sheet_37 : decode cX6_sheet 37 = .ok (.bipush 40, 2) := by decide +kernel
theorem dX6_sheet_39 : decode cX6_sheet 39 = .ok (.if_icmp .le 6, 3) := by decide +kernel
theorem dX6_sheet_42 : decode cX6_sheet 42 = .ok (.bipush (-2), 2) := by decide +kernel
theorem dX6_sheet_44 : decode cX6_sheet 44 = .ok (.ireturn, 1) := by decide +kernel
theorem dX6_sheet_45 : decode cX6_sheet 45 = .ok (.iload 4, 2) := by decide +kernel
theorem dX6_sheet_47 : decode cX6_sheet 47 = .ok (.ifCond .ne 10, 3) := by decide +kernel
theorem dX6_sheet_50 : decode cX6_sheet 50 = .ok (.iload_n 3, 1) := by decide +kernel
theorem dX6_sheet_51 : decode cX6_sheet 51 = .ok (.ifCond .ge 6, 3) := by decide +kernel
theorem dX6_sheet_54 : decode cX6_sheet 54 = .ok (.bipush (-14), 2) := by decide +kernel
theorem dX6_sheet_56 : decode cX6_sheet 56 = .ok (.ireturn, 1) := by decide +kernel
theorem dX6_sheet_57 : decode cX6_sheet 57 = .ok (.aload_n 0, 1) := by decide +kernel
theorem dX6_sheet_58 : decode cX6_sheet 58 = .ok (.getfield 43, 3) := by decide +kernel
theorem dX6_sheet_61 : decode cX6_sheet 61 = .ok (.iload_n 1, 1) := by decide +kernel
theorem dX6_sheet_62 : decode cX6_sheet 62 = .ok (.aaload, 1) := by decide +kernel
theorem dX6_sheet_63 : decode cX6_sheet 63 = .ok (.iload_n 2, 1) := by decide +kernel
theorem dX6_sheet_64 : decode cX6_sheet 64 = .ok (.iload 4, 2) := by decide +kernel
theorem dX6_sheet_66 : decode cX6_sheet 66 = .ok (.ifCond .eq 7, 3) := by decide +kernel
theorem dX6_sheet_69 : decode cX6_sheet 69 = .ok (.iconst 0, 1) := by decide +kernel
theorem dX6_sheet_70 : decode cX6_sheet 70 = .ok (.goto 4, 3) := by decide +kernel
theorem dX6_sheet_73 : decode cX6_sheet 73 = .ok (.iload_n 3, 1) := by decide +kernel
theorem dX6_sheet_74 : decode cX6_sheet 74 = .ok (.invokevirtual 200, 3) := by decide +kernel
theorem dX6_sheet_77 : decode cX6_sheet 77 = .ok (.iconst 1, 1) := by decide +kernel
theorem dX6_sheet_78 : decode cX6_sheet 78 = .ok (.ireturn, 1) := by decide +kernel
theorem dX6_cell_0 : decode cX6_cell 0 = .ok (.iload_n 1, 1) := by decide +kernel
theorem dX6_cell_1 : decode cX6_cell 1 = .ok (.invokestatic 197, 3) := by decide +kernel
theorem dX6_cell_4 : decode cX6_cell 4 = .ok (.ifCond .ne 6, 3) := by decide +kernel
theorem dX6_cell_7 : decode cX6_cell 7 = .ok (.bipush (-2), 2) := by decide +kernel
theorem dX6_cell_9 : decode cX6_cell 9 = .ok (.ireturn, 1) := by decide +kernel
theorem dX6_cell_10 : decode cX6_cell 10 = .ok (.aload_n 0, 1) := by decide +kernel
theorem dX6_cell_11 : decode cX6_cell 11 = .ok (.getfield 43, 3) := by decide +kernel
theorem dX6_cell_14 : decode cX6_cell 14 = .ok (.iload_n 1, 1) := by decide +kernel
theorem dX6_cell_15 : decode cX6_cell 15 = .ok (.aaload, 1) := by decide +kernel
theorem dX6_cell_16 : decode cX6_cell 16 = .ok (.invokevirtual 221, 3) := by decide +kernel
theorem dX6_cell_19 : decode cX6_cell 19 = .ok (.ifCond .eq 6, 3) := by decide +kernel
theorem dX6_cell_22 : decode cX6_cell 22 = .ok (.bipush (-11), 2) := by decide +kernel
theorem dX6_cell_24 : decode cX6_cell 24 = .ok (.ireturn, 1) := by decide +kernel
theorem dX6_cell_25 : decode cX6_cell 25 = .ok (.iload_n 2, 1) := by decide +kernel
theorem dX6_cell_26 : decode cX6_cell 26 = .ok (.iconst 0, 1) := by decide +kernel
theorem dX6_cell_27 : decode cX6_cell 27 = .ok (.aload_n 0, 1) := by decide +kernel
theorem dX6_cell_28 : decode cX6_cell 28 = .ok (.getfield 43, 3) := by decide +kernel
theorem dX6_cell_31 : decode cX6_cell 31 = .ok (.iload_n 1, 1) := by decide +kernel
theorem dX6_cell_32 : decode cX6_cell 32 = .ok (.aaload, 1) := by decide +kernel
theorem dX6_cell_33 : decode cX6_cell 33 = .ok (.getfield 225, 3) := by decide +kernel
theorem dX6_cell_36 : decode cX6_cell 36 = .ok (.iconst 1, 1) := by decide +kernel
theorem dX6_cell_37 : decode cX6_cell 37 = .ok (.isub, 1) := by decide +kernel
theorem dX6_cell_38 : decode cX6_cell 38 = .ok (.invokestatic 86, 3) := by decide +kernel
theorem dX6_cell_41 : decode cX6_cell 41 = .ok (.ifCond .ne 6, 3) := by decide +kernel
theorem dX6_cell_44 : decode cX6_cell 44 = .ok (.bipush (-12), 2) := by decide +kernel
theorem dX6_cell_46 : decode cX6_cell 46 = .ok (.ireturn, 1) := by decide +kernel
theorem dX6_cell_47 : decode cX6_cell 47 = .ok (.aload_n 0, 1) := by decide +kernel
theorem dX6_cell_48 : decode cX6_cell 48 = .ok (.getfield 43, 3) := by decide +kernel
theorem dX6_cell_51 : decode cX6_cell 51 = .ok (.iload_n 1, 1) := by decide +kernel
theorem dX6_cell_52 : decode cX6_cell 52 = .ok (.aaload, 1) := by decide +kernel
theorem dX6_cell_53 : decode cX6_cell 53 = .ok (.iload_n 2, 1) := by decide +kernel
theorem dX6_cell_54 : decode cX6_cell 54 = .ok (.iload_n 3, 1) := by decide +kernel
theorem dX6_cell_55 : decode cX6_cell 55 = .ok (.invokevirtual 226, 3) := by decide +kernel
theorem dX6_cell_58 : decode cX6_cell 58 = .ok (.iconst 1, 1) := by decide +kernel
theorem dX6_cell_59 : decode cX6_cell 59 = .ok (.ireturn, 1) := by decide +kernel
theorem dX6_copy_0 : decode cX6_copy 0 = .ok (.iload_n 1, 1) := by decide +kernel
theorem dX6_copy_1 : decode cX6_copy 1 = .ok (.invokestatic 197, 3) := by decide +kernel
theorem dX6_copy_4 : decode cX6_copy 4 = .ok (.ifCond .eq 10, 3) := by decide +kernel
theorem dX6_copy_7 : decode cX6_copy 7 = .ok (.iload_n 3, 1) := by decide +kernel
theorem dX6_copy_8 : decode cX6_copy 8 = .ok (.invokestatic 197, 3) := by decide +kernel
theorem dX6_copy_11 : decode cX6_copy 11 = .ok (.ifCond .ne 6, 3) := by decide +kernel
theorem dX6_copy_14 : decode cX6_copy 14 = .ok (.bipush (-2), 2) := by decide +kernel
theorem dX6_copy_16 : decode cX6_copy 16 = .ok (.ireturn, 1) := by decide +kernel
theorem dX6_copy_17 : decode cX6_copy 17 = .ok (.aload_n 0, 1) := by decide +kernel
theorem dX6_copy_18 : decode cX6_copy 18 = .ok (.getfield 43, 3) := by decide +kernel
theorem dX6_copy_21 : decode cX6_copy 21 = .ok (.iload_n 1, 1) := by decide +kernel
theorem dX6_copy_22 : decode cX6_copy 22 = .ok (.aaload, 1) := by decide +kernel
theorem dX6_copy_23 : decode cX6_copy 23 = .ok (.astore 6, 2) := by decide +kernel
theorem dX6_copy_25 : decode cX6_copy 25 = .ok (.aload_n 0, 1) := by decide +kernel
theorem dX6_copy_26 : decode cX6_copy 26 = .ok (.getfield 43, 3) := by decide +kernel
theorem dX6_copy_29 : decode cX6_copy 29 = .ok (.iload_n 3, 1) := by decide +kernel
theorem dX6_copy_30 : decode cX6_copy 30 = .ok (.aaload, 1) := by decide +kernel
theorem dX6_copy_31 : decode cX6_copy 31 = .ok (.astore 7, 2) := by decide +kernel
theorem dX6_copy_33 : decode cX6_copy 33 = .ok (.aload 6, 2) := by decide +kernel
theorem dX6_copy_35 : decode cX6_copy 35 = .ok (.invokevirtual 221, 3) := by decide +kernel
theorem dX6_copy_38 : decode cX6_copy 38 = .ok (.ifCond .ne 11, 3) := by decide +kernel
theorem dX6_copy_41 : decode cX6_copy 41 = .ok (.aload 7, 2) := by decide +kernel
theorem dX6_copy_43 : decode cX6_copy 43 = .ok (.invokevirtual 221, 3) := by decide +kernel
theorem dX6_copy_46 : decode cX6_copy 46 = .ok (.ifCond .eq 6, 3) := by decide +kernel
theorem dX6_copy_49 : decode cX6_copy 49 = .ok (.bipush (-11), 2) := by decide +kernel
theorem dX6_copy_51 : decode cX6_copy 51 = .ok (.ireturn, 1) := by decide +kernel
theorem dX6_copy_52 : decode cX6_copy 52 = .ok (.aload 6, 2) := by decide +kernel
theorem dX6_copy_54 : decode cX6_copy 54 = .ok (.getfield 229, 3) := by decide +kernel
theorem dX6_copy_57 : decode cX6_copy 57 = .ok (.aload 7, 2) := by decide +kernel
theorem dX6_copy_59 : decode cX6_copy 59 = .ok (.getfield 229, 3) := by decide +kernel
theorem dX6_copy_62 : decode cX6_copy 62 = .ok (.if_icmp .eq 6, 3) := by decide +kernel
theorem dX6_copy_65 : decode cX6_copy 65 = .ok (.bipush (-13), 2) := by decide +kernel
theorem dX6_copy_67 : decode cX6_copy 67 = .ok (.ireturn, 1) := by decide +kernel
theorem dX6_copy_68 : decode cX6_copy 68 = .ok (.iload 5, 2) := by decide +kernel
theorem dX6_copy_70 : decode cX6_copy 70 = .ok (.ifCond .lt 36, 3) := by decide +kernel
theorem dX6_copy_73 : decode cX6_copy 73 = .ok (.iload_n 2, 1) := by decide +kernel
theorem dX6_copy_74 : decode cX6_copy 74 = .ok (.iconst 0, 1) := by decide +kernel
theorem dX6_copy_75 : decode cX6_copy 75 = .ok (.aload 6, 2) := by decide +kernel
theorem dX6_copy_77 : decode cX6_copy 77 = .ok (.getfield 225, 3) := by decide +kernel
theorem dX6_copy_80 : decode cX6_copy 80 = .ok (.iload 5, 2) := by decide +kernel
theorem dX6_copy_82 : decode cX6_copy 82 = .ok (.isub, 1) := by decide +kernel
theorem dX6_copy_83 : decode cX6_copy 83 = .ok (.invokestatic 86, 3) := by decide +kernel
theorem dX6_copy_86 : decode cX6_copy 86 = .ok (.ifCond .eq 20, 3) := by decide +kernel
theorem dX6_copy_89 : decode cX6_copy 89 = .ok (.iload 4, 2) := by decide +kernel
theorem dX6_copy_91 : decode cX6_copy 91 = .ok (.iconst 0, 1) := by decide +kernel
theorem dX6_copy_92 : decode cX6_copy 92 = .ok (.aload 7, 2) := by decide +kernel
theorem dX6_copy_94 : decode cX6_copy 94 = .ok (.getfield 225, 3) := by decide +kernel
theorem dX6_copy_97 : decode cX6_copy 97 = .ok (.iload 5, 2) := by decide +kernel
theorem dX6_copy_99 : decode cX6_copy 99 = .ok (.isub, 1) := by decide +kernel
theorem dX6_copy_100 : decode cX6_copy 100 = .ok (.invokestatic 86, 3) := by decide +kernel
theorem dX6_copy_103 : decode cX6_copy 103 = .ok (.ifCond .ne 6, 3) := by decide +kernel
theorem dX6_copy_106 : decode cX6_copy 106 = .ok (.bipush (-12), 2) := by decide +kernel
theorem dX6_copy_108 : decode cX6_copy 108 = .ok (.ireturn, 1) := by decide +kernel
theorem dX6_copy_109 : decode cX6_copy 109 = .ok (.aload 6, 2) := by decide +kernel
theorem dX6_copy_111 : decode cX6_copy 111 = .ok (.getfield 203, 3) := by decide +kernel
theorem dX6_copy_114 : decode cX6_copy 114 = .ok (.iload_n 2, 1) := by decide +kernel
theorem dX6_copy_115 : decode cX6_copy 115 = .ok (.aload 7, 2) := by decide +kernel
theorem dX6_copy_117 : decode cX6_copy 117 = .ok (.getfield 203, 3) := by decide +kernel
theorem dX6_copy_120 : decode cX6_copy 120 = .ok (.iload 4, 2) := by decide +kernel
theorem dX6_copy_122 : decode cX6_copy 122 = .ok (.iload 5, 2) := by decide +kernel
theorem dX6_copy_124 : decode cX6_copy 124 = .ok (.invokestatic 232, 3) := by decide +kernel
theorem dX6_copy_127 : decode cX6_copy 127 = .ok (.iload 5, 2) := by decide +kernel
theorem dX6_copy_129 : decode cX6_copy 129 = .ok (.ireturn, 1) := by decide +kernel
theorem dX6_hatsBy_0 : decode cX6_hatsBy 0 = .ok (.iload_n 1, 1) := by decide +kernel
theorem dX6_hatsBy_1 : decode cX6_hatsBy 1 = .ok (.invokestatic 197, 3) := by decide +kernel
theorem dX6_hatsBy_4 : decode cX6_hatsBy 4 = .ok (.ifCond .eq 21, 3) := by decide +kernel
theorem dX6_hatsBy_7 : decode cX6_hatsBy 7 = .ok (.iload_n 2, 1) := by decide +kernel
theorem dX6_hatsBy_8 : decode cX6_hatsBy 8 = .ok (.invokestatic 218, 3) := by decide +kernel
theorem dX6_hatsBy_11 : decode cX6_hatsBy 11 = .ok (.ifCond .eq 14, 3) := by decide +kernel
theorem dX6_hatsBy_14 : decode cX6_hatsBy 14 = .ok (.iload 4, 2) := by decide +kernel
theorem dX6_hatsBy_16 : decode cX6_hatsBy 16 = .ok (.iconst 0, 1) := by decide +kernel
theorem dX6_hatsBy_17 : decode cX6_hatsBy 17 = .ok (.bipush 6, 2) := by decide +kernel
theorem dX6_hatsBy_19 : decode cX6_hatsBy 19 = .ok (.invokestatic 86, 3) := by decide +kernel
theorem dX6_hatsBy_22 : decode cX6_hatsBy 22 = .ok (.ifCond .ne 6, 3) := by decide +kernel
theorem dX6_hatsBy_25 : decode cX6_hatsBy 25 = .ok (.bipush (-2), 2) := by decide +kernel
theorem dX6_hatsBy_27 : decode cX6_hatsBy 27 = .ok (.ireturn, 1) := by decide +kernel
theorem dX6_hatsBy_28 : decode cX6_hatsBy 28 = .ok (.aload_n 0, 1) := by decide +kernel
theorem dX6_hatsBy_29 : decode cX6_hatsBy 29 = .ok (.getfield 43, 3) := by decide +kernel
theorem dX6_hatsBy_32 : decode cX6_hatsBy 32 = .ok (.iload_n 1, 1) := by decide +kernel
theorem dX6_hatsBy_33 : decode cX6_hatsBy 33 = .ok (.aaload, 1) := by decide +kernel
theorem dX6_hatsBy_34 : decode cX6_hatsBy 34 = .ok (.astore 5, 2) := by decide +kernel
theorem dX6_hatsBy_36 : decode cX6_hatsBy 36 = .ok (.aload 5, 2) := by decide +kernel
theorem dX6_hatsBy_38 : decode cX6_hatsBy 38 = .ok (.invokevirtual 221, 3) := by decide +kernel
theorem dX6_hatsBy_41 : decode cX6_hatsBy 41 = .ok (.ifCond .eq 6, 3) := by decide +kernel
theorem dX6_hatsBy_44 : decode cX6_hatsBy 44 = .ok (.bipush (-11), 2) := by decide +kernel
theorem dX6_hatsBy_46 : decode cX6_hatsBy 46 = .ok (.ireturn, 1) := by decide +kernel
theorem dX6_hatsBy_47 : decode cX6_hatsBy 47 = .ok (.aload 5, 2) := by decide +kernel
theorem dX6_hatsBy_49 : decode cX6_hatsBy 49 = .ok (.getfield 229, 3) := by decide +kernel
theorem dX6_hatsBy_52 : decode cX6_hatsBy 52 = .ok (.iload_n 2, 1) := by decide +kernel
theorem dX6_hatsBy_53 : decode cX6_hatsBy 53 = .ok (.if_icmp .eq 6, 3) := by decide +kernel
theorem dX6_hatsBy_56 : decode cX6_hatsBy 56 = .ok (.bipush (-13), 2) := by decide +kernel
theorem dX6_hatsBy_58 : decode cX6_hatsBy 58 = .ok (.ireturn, 1) := by decide +kernel
theorem dX6_hatsBy_59 : decode cX6_hatsBy 59 = .ok (.iconst 0, 1) := by decide +kernel
theorem dX6_hatsBy_60 : decode cX6_hatsBy 60 = .ok (.istore 6, 2) := by decide +kernel
theorem dX6_hatsBy_62 : decode cX6_hatsBy 62 = .ok (.iconst 0, 1) := by decide +kernel
theorem dX6_hatsBy_63 : decode cX6_hatsBy 63 = .ok (.istore 7, 2) := by decide +kernel
theorem dX6_hatsBy_65 : decode cX6_hatsBy 65 = .ok (.iload 7, 2) := by decide +kernel
theorem dX6_hatsBy_67 : decode cX6_hatsBy 67 = .ok (.iload 4, 2) := by decide +kernel
theorem dX6_hatsBy_69 : decode cX6_hatsBy 69 = .ok (.if_icmp .ge 91, 3) := by decide +kernel
theorem dX6_hatsBy_72 : decode cX6_hatsBy 72 = .ok (.iload_n 3, 1) := by decide +kernel
theorem dX6_hatsBy_73 : decode cX6_hatsBy 73 = .ok (.iconst 0, 1) := by decide +kernel
theorem dX6_hatsBy_74 : decode cX6_hatsBy 74 = .ok (.aload 5, 2) := by decide +kernel
theorem dX6_hatsBy_76 : decode cX6_hatsBy 76 = .ok (.getfield 225, 3) := by decide +kernel
theorem dX6_hatsBy_79 : decode cX6_hatsBy 79 = .ok (.invokestatic 86, 3) := by decide +kernel
theorem dX6_hatsBy_82 : decode cX6_hatsBy 82 = .ok (.ifCond .eq 12, 3) := by decide +kernel
theorem dX6_hatsBy_85 : decode cX6_hatsBy 85 = .ok (.iload_n 3, 1) := by decide +kernel
theorem dX6_hatsBy_86 : decode cX6_hatsBy 86 = .ok (.iconst 3, 1) := by decide +kernel
theorem dX6_hatsBy_87 : decode cX6_hatsBy 87 = .ok (.iload 7, 2) := by decide +kernel
theorem dX6_hatsBy_89 : decode cX6_hatsBy 89 = .ok (.imul, 1) := by decide +kernel
theorem dX6_hatsBy_90 : decode cX6_hatsBy 90 = .ok (.iadd, 1) := by decide +kernel
theorem dX6_hatsBy_91 : decode cX6_hatsBy 91 = .ok (.goto 4, 3) := by decide +kernel
theorem dX6_hatsBy_94 : decode cX6_hatsBy 94 = .ok (.iconst (-1), 1) := by decide +kernel
theorem dX6_hatsBy_95 : decode cX6_hatsBy 95 = .ok (.istore 8, 2) := by decide +kernel
theorem dX6_hatsBy_97 : decode cX6_hatsBy 97 = .ok (.iload 8, 2) := by decide +kernel
theorem dX6_hatsBy_99 : decode cX6_hatsBy 99 = .ok (.iconst 0, 1) := by decide +kernel
theorem dX6_hatsBy_100 : decode cX6_hatsBy 100 = .ok (.aload 5, 2) := by decide +kernel
theorem dX6_hatsBy_102 : decode cX6_hatsBy 102 = .ok (.getfield 225, 3) := by decide +kernel
theorem dX6_hatsBy_105 : decode cX6_hatsBy 105 = .ok (.iconst 3, 1) := by decide +kernel
theorem dX6_hatsBy_106 : decode cX6_hatsBy 106 = .ok (.isub, 1) := by decide +kernel
theorem dX6_hatsBy_107 : decode cX6_hatsBy 107 = .ok (.invokestatic 86, 3) := by decide +kernel
theorem dX6_hatsBy_110 : decode cX6_hatsBy 110 = .ok (.ifCond .ne 6, 3) := by decide +kernel
theorem dX6_hatsBy_113 : decode cX6_hatsBy 113 = .ok (.bipush (-12), 2) := by decide +kernel
theorem dX6_hatsBy_115 : decode cX6_hatsBy 115 = .ok (.ireturn, 1) := by decide +kernel
theorem dX6_hatsBy_116 : decode cX6_hatsBy 116 = .ok (.aload_n 0, 1) := by decide +kernel
theorem dX6_hatsBy_117 : decode cX6_hatsBy 117 = .ok (.aload 5, 2) := by decide +kernel
theorem dX6_hatsBy_119 : decode cX6_hatsBy 119 = .ok (.getfield 203, 3) := by decide +kernel
theorem dX6_hatsBy_122 : decode cX6_hatsBy 122 = .ok (.iload 8, 2) := by decide +kernel
theorem dX6_hatsBy_124 : decode cX6_hatsBy 124 = .ok (.iaload, 1) := by decide +kernel
theorem dX6_hatsBy_125 : decode cX6_hatsBy 125 = .ok (.aload 5, 2) := by decide +kernel
theorem dX6_hatsBy_127 : decode cX6_hatsBy 127 = .ok (.getfield 203, 3) := by decide +kernel
theorem dX6_hatsBy_130 : decode cX6_hatsBy 130 = .ok (.iload 8, 2) := by decide +kernel
theorem dX6_hatsBy_132 : decode cX6_hatsBy 132 = .ok (.iconst 1, 1) := by decide +kernel
theorem dX6_hatsBy_133 : decode cX6_hatsBy 133 = .ok (.iadd, 1) := by decide +kernel
theorem dX6_hatsBy_134 : decode cX6_hatsBy 134 = .ok (.iaload, 1) := by decide +kernel
theorem dX6_hatsBy_135 : decode cX6_hatsBy 135 = .ok (.aload 5, 2) := by decide +kernel
theorem dX6_hatsBy_137 : decode cX6_hatsBy 137 = .ok (.getfield 203, 3) := by decide +kernel
theorem dX6_hatsBy_140 : decode cX6_hatsBy 140 = .ok (.iload 8, 2) := by decide +kernel
theorem dX6_hatsBy_142 : decode cX6_hatsBy 142 = .ok (.iconst 2, 1) := by decide +kernel
theorem dX6_hatsBy_143 : decode cX6_hatsBy 143 = .ok (.iadd, 1) := by decide +kernel
theorem dX6_hatsBy_144 : decode cX6_hatsBy 144 = .ok (.iaload, 1) := by decide +kernel
theorem dX6_hatsBy_145 : decode cX6_hatsBy 145 = .ok (.invokevirtual 238, 3) := by decide +kernel
theorem dX6_hatsBy_148 : decode cX6_hatsBy 148 = .ok (.ifCond .lt 6, 3) := by decide +kernel
theorem dX6_hatsBy_151 : decode cX6_hatsBy 151 = .ok (.iinc 6 1, 3) := by decide +kernel
theorem dX6_hatsBy_154 : decode cX6_hatsBy 154 = .ok (.iinc 7 1, 3) := by decide +kernel
theorem dX6_hatsBy_157 : decode cX6_hatsBy 157 = .ok (.goto (-92), 3) := by decide +kernel
theorem dX6_hatsBy_160 : decode cX6_hatsBy 160 = .ok (.iload 6, 2) := by decide +kernel
theorem dX6_hatsBy_162 : decode cX6_hatsBy 162 = .ok (.ireturn, 1) := by decide +kernel
theorem dX6_taken_0 : decode cX6_taken 0 = .ok (.iload_n 2, 1) := by decide +kernel
theorem dX6_taken_1 : decode cX6_taken 1 = .ok (.iconst 0, 1) := by decide +kernel
theorem dX6_taken_2 : decode cX6_taken 2 = .ok (.bipush 6, 2) := by decide +kernel
theorem dX6_taken_4 : decode cX6_taken 4 = .ok (.invokestatic 86, 3) := by decide +kernel
theorem dX6_taken_7 : decode cX6_taken 7 = .ok (.ifCond .ne 6, 3) := by decide +kernel
theorem dX6_taken_10 : decode cX6_taken 10 = .ok (.bipush (-2), 2) := by decide +kernel
theorem dX6_taken_12 : decode cX6_taken 12 = .ok (.ireturn, 1) := by decide +kernel
theorem dX6_taken_13 : decode cX6_taken 13 = .ok (.iload_n 1, 1) := by decide +kernel
theorem dX6_taken_14 : decode cX6_taken 14 = .ok (.iconst 0, 1) := by decide +kernel
theorem dX6_taken_15 : decode cX6_taken 15 = .ok (.bipush 11, 2) := by decide +kernel
theorem dX6_taken_17 : decode cX6_taken 17 = .ok (.invokestatic 86, 3) := by decide +kernel
theorem dX6_taken_20 : decode cX6_taken 20 = .ok (.ifCond .ne 6, 3) := by decide +kernel
theorem dX6_taken_23 : decode cX6_taken 23 = .ok (.bipush (-12), 2) := by decide +kernel
theorem dX6_taken_25 : decode cX6_taken 25 = .ok (.ireturn, 1) := by decide +kernel
theorem dX6_taken_26 : decode cX6_taken 26 = .ok (.iload_n 1, 1) := by decide +kernel
theorem dX6_taken_27 : decode cX6_taken 27 = .ok (.bipush 6, 2) := by decide +kernel
theorem dX6_taken_29 : decode cX6_taken 29 = .ok (.irem, 1) := by decide +kernel
theorem dX6_taken_30 : decode cX6_taken 30 = .ok (.istore_n 3, 1) := by decide +kernel
theorem dX6_taken_31 : decode cX6_taken 31 = .ok (.aload_n 0, 1) := by decide +kernel
theorem dX6_taken_32 : decode cX6_taken 32 = .ok (.iload_n 3, 1) := by decide +kernel
theorem dX6_taken_33 : decode cX6_taken 33 = .ok (.invokevirtual 94, 3) := by decide +kernel
theorem dX6_taken_36 : decode cX6_taken 36 = .ok (.ifCond .ne 6, 3) := by decide +kernel
theorem dX6_taken_39 : decode cX6_taken 39 = .ok (.bipush (-11), 2) := by decide +kernel
theorem dX6_taken_41 : decode cX6_taken 41 = .ok (.ireturn, 1) := by decide +kernel
theorem dX6_taken_42 : decode cX6_taken 42 = .ok (.iload_n 2, 1) := by decide +kernel
theorem dX6_taken_43 : decode cX6_taken 43 = .ok (.bipush 6, 2) := by decide +kernel
theorem dX6_taken_45 : decode cX6_taken 45 = .ok (.if_icmp .ne 7, 3) := by decide +kernel
theorem dX6_taken_48 : decode cX6_taken 48 = .ok (.iconst 1, 1) := by decide +kernel
theorem dX6_taken_49 : decode cX6_taken 49 = .ok (.goto 4, 3) := by decide +kernel
theorem dX6_taken_52 : decode cX6_taken 52 = .ok (.iconst 0, 1) := by decide +kernel
theorem dX6_taken_53 : decode cX6_taken 53 = .ok (.istore 4, 2) := by decide +kernel
theorem dX6_taken_55 : decode cX6_taken 55 = .ok (.iload_n 1, 1) := by decide +kernel
theorem dX6_taken_56 : decode cX6_taken 56 = .ok (.bipush 6, 2) := by decide +kernel
theorem dX6_taken_58 : decode cX6_taken 58 = .ok (.if_icmp .lt 23, 3) := by decide +kernel
theorem dX6_taken_61 : decode cX6_taken 61 = .ok (.iload 4, 2) := by decide +kernel
theorem dX6_taken_63 : decode cX6_taken 63 = .ok (.ifCond .eq 15, 3) := by decide +kernel
theorem dX6_taken_66 : decode cX6_taken 66 = .ok (.aload_n 0, 1) := by decide +kernel
theorem dX6_taken_67 : decode cX6_taken 67 = .ok (.getfield 20, 3) := by decide +kernel
theorem dX6_taken_70 : decode cX6_taken 70 = .ok (.getfield 147, 3) := by decide +kernel
theorem dX6_taken_73 : decode cX6_taken 73 = .ok (.iload_n 3, 1) := by decide +kernel
theorem dX6_taken_74 : decode cX6_taken 74 = .ok (.iaload, 1) := by decide +kernel
theorem dX6_taken_75 : decode cX6_taken 75 = .ok (.goto 5, 3) := by decide +kernel
theorem dX6_taken_78 : decode cX6_taken 78 = .ok (.bipush (-13), 2) := by decide +kernel
theorem dX6_taken_80 : decode cX6_taken 80 = .ok (.ireturn, 1) := by decide +kernel
theorem dX6_taken_81 : decode cX6_taken 81 = .ok (.iload 4, 2) := by decide +kernel
theorem dX6_taken_83 : decode cX6_taken 83 = .ok (.ifCond .ne 23, 3) := by decide +kernel
theorem dX6_taken_86 : decode cX6_taken 86 = .ok (.aload_n 0, 1) := by decide +kernel
theorem dX6_taken_87 : decode cX6_taken 87 = .ok (.getfield 20, 3) := by decide +kernel
theorem dX6_taken_90 : decode cX6_taken 90 = .ok (.getfield 109, 3) := by decide +kernel
theorem dX6_taken_93 : decode cX6_taken 93 = .ok (.iload_n 3, 1) := by decide +kernel
theorem dX6_taken_94 : decode cX6_taken 94 = .ok (.iaload, 1) := by decide +kernel
theorem dX6_taken_95 : decode cX6_taken 95 = .ok (.iload_n 2, 1) := by decide +kernel
theorem dX6_taken_96 : decode cX6_taken 96 = .ok (.invokestatic 242, 3) := by decide +kernel
theorem dX6_taken_99 : decode cX6_taken 99 = .ok (.ifCond .eq 7, 3) := by decide +kernel
theorem dX6_taken_102 : decode cX6_taken 102 = .ok (.iload_n 3, 1) := by decide +kernel
theorem dX6_taken_103 : decode cX6_taken 103 = .ok (.goto 5, 3) := by decide +kernel
theorem dX6_taken_106 : decode cX6_taken 106 = .ok (.bipush (-13), 2) := by decide +kernel
theorem dX6_taken_108 : decode cX6_taken 108 = .ok (.ireturn, 1) := by decide +kernel
theorem dX6_within_0 : decode cX6_within 0 = .ok (.iload_n 0, 1) := by decide +kernel
theorem dX6_within_1 : decode cX6_within 1 = .ok (.iload_n 1, 1) := by decide +kernel
theorem dX6_within_2 : decode cX6_within 2 = .ok (.if_icmp .lt 12, 3) := by decide +kernel
theorem dX6_within_5 : decode cX6_within 5 = .ok (.iload_n 0, 1) := by decide +kernel
theorem dX6_within_6 : decode cX6_within 6 = .ok (.iload_n 2, 1) := by decide +kernel
theorem dX6_within_7 : decode cX6_within 7 = .ok (.if_icmp .gt 7, 3) := by decide +kernel
theorem dX6_within_10 : decode cX6_within 10 = .ok (.iconst 1, 1) := by decide +kernel
theorem dX6_within_11 : decode cX6_within 11 = .ok (.goto 4, 3) := by decide +kernel
theorem dX6_within_14 : decode cX6_within 14 = .ok (.iconst 0, 1) := by decide +kernel
theorem dX6_within_15 : decode cX6_within 15 = .ok (.ireturn, 1) := by decide +kernel
theorem dX6_isByte_0 : decode cX6_isByte 0 = .ok (.iload_n 0, 1) := by decide +kernel
theorem dX6_isByte_1 : decode cX6_isByte 1 = .ok (.iconst 0, 1) := by decide +kernel
theorem dX6_isByte_2 : decode cX6_isByte 2 = .ok (.sipush 255, 3) := by decide +kernel
theorem dX6_isByte_5 : decode cX6_isByte 5 = .ok (.invokestatic 86, 3) := by decide +kernel
theorem dX6_isByte_8 : decode cX6_isByte 8 = .ok (.ireturn, 1) := by decide +kernel
theorem dX6_isSheet_0 : decode cX6_isSheet 0 = .ok (.iload_n 0, 1) := by decide +kernel
theorem dX6_isSheet_1 : decode cX6_isSheet 1 = .ok (.iconst 0, 1) := by decide +kernel
theorem dX6_isSheet_2 : decode cX6_isSheet 2 = .ok (.iconst 3, 1) := by decide +kernel
theorem dX6_isSheet_3 : decode cX6_isSheet 3 = .ok (.invokestatic 86, 3) := by decide +kernel
theorem dX6_isSheet_6 : decode cX6_isSheet 6 = .ok (.ireturn, 1) := by decide +kernel
theorem dX6_isSort_0 : decode cX6_isSort 0 = .ok (.iload_n 0, 1) := by decide +kernel
theorem dX6_isSort_1 : decode cX6_isSort 1 = .ok (.iconst 0, 1) := by decide +kernel
theorem dX6_isSort_2 : decode cX6_isSort 2 = .ok (.iconst 2, 1) := by decide +kernel
theorem dX6_isSort_3 : decode cX6_isSort 3 = .ok (.invokestatic 86, 3) := by decide +kernel
theorem dX6_isSort_6 : decode cX6_isSort 6 = .ok (.ireturn, 1) := by decide +kernel
theorem dX6_isHat_0 : decode cX6_isHat 0 = .ok (.iload_n 1, 1) := by decide +kernel
theorem dX6_isHat_1 : decode cX6_isHat 1 = .ok (.iconst 0, 1) := by decide +kernel
theorem dX6_isHat_2 : decode cX6_isHat 2 = .ok (.aload_n 0, 1) := by decide +kernel
theorem dX6_isHat_3 : decode cX6_isHat 3 = .ok (.getfield 20, 3) := by decide +kernel
theorem dX6_isHat_6 : decode cX6_isHat 6 = .ok (.getfield 71, 3) := by decide +kernel
theorem dX6_isHat_9 : decode cX6_isHat 9 = .ok (.iconst 1, 1) := by decide +kernel
theorem dX6_isHat_10 : decode cX6_isHat 10 = .ok (.isub, 1) := by decide +kernel
theorem dX6_isHat_11 : decode cX6_isHat 11 = .ok (.invokestatic 86, 3) := by decide +kernel
theorem dX6_isHat_14 : decode cX6_isHat 14 = .ok (.ireturn, 1) := by decide +kernel
theorem dX6_lowestBit_0 : decode cX6_lowestBit 0 = .ok (.iconst 0, 1) := by decide +kernel
theorem dX6_lowestBit_1 : decode cX6_lowestBit 1 = .ok (.istore_n 1, 1) := by decide +kernel
theorem dX6_lowestBit_2 : decode cX6_lowestBit 2 = .ok (.iload_n 1, 1) := by decide +kernel
theorem dX6_lowestBit_3 : decode cX6_lowestBit 3 = .ok (.bipush 6, 2) := by decide +kernel
theorem dX6_lowestBit_5 : decode cX6_lowestBit 5 = .ok (.if_icmp .ge 19, 3) := by decide +kernel
theorem dX6_lowestBit_8 : decode cX6_lowestBit 8 = .ok (.iload_n 0, 1) := by decide +kernel
theorem dX6_lowestBit_9 : decode cX6_lowestBit 9 = .ok (.iload_n 1, 1) := by decide +kernel
theorem dX6_lowestBit_10 : decode cX6_lowestBit 10 = .ok (.ishr, 1) := by decide +kernel
theorem dX6_lowestBit_11 : decode cX6_lowestBit 11 = .ok (.iconst 1, 1) := by decide +kernel
theorem dX6_lowestBit_12 : decode cX6_lowestBit 12 = .ok (.iand, 1) := by decide +kernel
theorem dX6_lowestBit_13 : decode cX6_lowestBit 13 = .ok (.ifCond .eq 5, 3) := by decide +kernel
theorem dX6_lowestBit_16 : decode cX6_lowestBit 16 = .ok (.iload_n 1, 1) := by decide +kernel
theorem dX6_lowestBit_17 : decode cX6_lowestBit 17 = .ok (.ireturn, 1) := by decide +kernel
theorem dX6_lowestBit_18 : decode cX6_lowestBit 18 = .ok (.iinc 1 1, 3) := by decide +kernel
theorem dX6_lowestBit_21 : decode cX6_lowestBit 21 = .ok (.goto (-19), 3) := by decide +kernel
theorem dX6_lowestBit_24 : decode cX6_lowestBit 24 = .ok (.iconst (-1), 1) := by decide +kernel
theorem dX6_lowestBit_25 : decode cX6_lowestBit 25 = .ok (.ireturn, 1) := by decide +kernel
theorem dX6_lowestTerms_0 : decode cX6_lowestTerms 0 = .ok (.iload_n 2, 1) := by decide +kernel
theorem dX6_lowestTerms_1 : decode cX6_lowestTerms 1 = .ok (.iconst 0, 1) := by decide +kernel
theorem dX6_lowestTerms_2 : decode cX6_lowestTerms 2 = .ok (.iconst 1, 1) := by decide +kernel
theorem dX6_lowestTerms_3 : decode cX6_lowestTerms 3 = .ok (.invokestatic 86, 3) := by decide +kernel
theorem dX6_lowestTerms_6 : decode cX6_lowestTerms 6 = .ok (.ifCond .eq 7, 3) := by decide +kernel
theorem dX6_lowestTerms_9 : decode cX6_lowestTerms 9 = .ok (.iload_n 1, 1) := by decide +kernel
theorem dX6_lowestTerms_10 : decode cX6_lowestTerms 10 = .ok (.ifCond .gt 7, 3) := by decide +kernel
theorem dX6_lowestTerms_13 : decode cX6_lowestTerms 13 = .ok (.ldc2_w 184, 3) := by decide +kernel
theorem dX6_lowestTerms_16 : decode cX6_lowestTerms 16 = .ok (.lreturn, 1) := by decide +kernel
theorem dX6_lowestTerms_17 : decode cX6_lowestTerms 17 = .ok (.iload_n 1, 1) := by decide +kernel
theorem dX6_lowestTerms_18 : decode cX6_lowestTerms 18 = .ok (.istore_n 3, 1) := by decide +kernel
theorem dX6_lowestTerms_19 : decode cX6_lowestTerms 19 = .ok (.iload_n 3, 1) := by decide +kernel
theorem dX6_lowestTerms_20 : decode cX6_lowestTerms 20 = .ok (.iconst 1, 1) := by decide +kernel
theorem dX6_lowestTerms_21 : decode cX6_lowestTerms 21 = .ok (.if_icmp .le 21, 3) := by decide +kernel
theorem dX6_lowestTerms_24 : decode cX6_lowestTerms 24 = .ok (.iload_n 0, 1) := by decide +kernel
theorem dX6_lowestTerms_25 : decode cX6_lowestTerms 25 = .ok (.iload_n 3, 1) := by decide +kernel
theorem dX6_lowestTerms_26 : decode cX6_lowestTerms 26 = .ok (.irem, 1) := by decide +kernel
theorem dX6_lowestTerms_27 : decode cX6_lowestTerms 27 = .ok (.ifCond .ne 9, 3) := by decide +kernel
theorem dX6_lowestTerms_30 : decode cX6_lowestTerms 30 = .ok (.iload_n 1, 1) := by decide +kernel
theorem dX6_lowestTerms_31 : decode cX6_lowestTerms 31 = .ok (.iload_n 3, 1) := by decide +kernel
theorem dX6_lowestTerms_32 : decode cX6_lowestTerms 32 = .ok (.irem, 1) := by decide +kernel
theorem dX6_lowestTerms_33 : decode cX6_lowestTerms 33 = .ok (.ifCond .eq 9, 3) := by decide +kernel
theorem dX6_lowestTerms_36 : decode cX6_lowestTerms 36 = .ok (.iinc 3 (-1), 3) := by decide +kernel
theorem dX6_lowestTerms_39 : decode cX6_lowestTerms 39 = .ok (.goto (-20), 3) := by decide +kernel
theorem dX6_lowestTerms_42 : decode cX6_lowestTerms 42 = .ok (.iload_n 2, 1) := by decide +kernel
theorem dX6_lowestTerms_43 : decode cX6_lowestTerms 43 = .ok (.ifCond .ne 7, 3) := by decide +kernel
theorem dX6_lowestTerms_46 : decode cX6_lowestTerms 46 = .ok (.iload_n 0, 1) := by decide +kernel
theorem dX6_lowestTerms_47 : decode cX6_lowestTerms 47 = .ok (.goto 4, 3) := by decide +kernel
theorem dX6_lowestTerms_50 : decode cX6_lowestTerms 50 = .ok (.iload_n 1, 1) := by decide +kernel
theorem dX6_lowestTerms_51 : decode cX6_lowestTerms 51 = .ok (.iload_n 3, 1) := by decide +kernel
theorem dX6_lowestTerms_52 : decode cX6_lowestTerms 52 = .ok (.idiv, 1) := by decide +kernel
theorem dX6_lowestTerms_53 : decode cX6_lowestTerms 53 = .ok (.i2l, 1) := by decide +kernel
theorem dX6_lowestTerms_54 : decode cX6_lowestTerms 54 = .ok (.lreturn, 1) := by decide +kernel
theorem dX6_imagine_0 : decode cX6_imagine 0 = .ok (.aload_n 0, 1) := by decide +kernel
theorem dX6_imagine_1 : decode cX6_imagine 1 = .ok (.getfield 24, 3) := by decide +kernel
theorem dX6_imagine_4 : decode cX6_imagine 4 = .ok (.aload_n 0, 1) := by decide +kernel
theorem dX6_imagine_5 : decode cX6_imagine 5 = .ok (.getfield 20, 3) := by decide +kernel
theorem dX6_imagine_8 : decode cX6_imagine 8 = .ok (.invokevirtual 211, 3) := by decide +kernel
theorem dX6_imagine_11 : decode cX6_imagine 11 = .ok (.return_, 1) := by decide +kernel
theorem dX6_imagineDrawn_0 : decode cX6_imagineDrawn 0 = .ok (.aload_n 0, 1) := by decide +kernel
theorem dX6_imagineDrawn_1 : decode cX6_imagineDrawn 1 = .ok (.invokevirtual 141, 3) := by decide +kernel
theorem dX6_imagineDrawn_4 : decode cX6_imagineDrawn 4 = .ok (.iload_n 1, 1) := by decide +kernel
theorem dX6_imagineDrawn_5 : decode cX6_imagineDrawn 5 = .ok (.i2l, 1) := by decide +kernel
theorem dX6_imagineDrawn_6 : decode cX6_imagineDrawn 6 = .ok (.lconst 1, 1) := by decide +kernel
theorem dX6_imagineDrawn_7 : decode cX6_imagineDrawn 7 = .ok (.ladd, 1) := by decide +kernel
theorem dX6_imagineDrawn_8 : decode cX6_imagineDrawn 8 = .ok (.ldc2_w 248, 3) := by decide +kernel
theorem dX6_imagineDrawn_11 : decode cX6_imagineDrawn 11 = .ok (.lmul, 1) := by decide +kernel
theorem dX6_imagineDrawn_12 : decode cX6_imagineDrawn 12 = .ok (.ldc2_w 250, 3) := by decide +kernel
theorem dX6_imagineDrawn_15 : decode cX6_imagineDrawn 15 = .ok (.lrem, 1) := by decide +kernel
theorem dX6_imagineDrawn_16 : decode cX6_imagineDrawn 16 = .ok (.lstore_n 2, 1) := by decide +kernel
theorem dX6_imagineDrawn_17 : decode cX6_imagineDrawn 17 = .ok (.iconst 0, 1) := by decide +kernel
theorem dX6_imagineDrawn_18 : decode cX6_imagineDrawn 18 = .ok (.istore 4, 2) := by decide +kernel
theorem dX6_imagineDrawn_20 : decode cX6_imagineDrawn 20 = .ok (.iload 4, 2) := by decide +kernel
theorem dX6_imagineDrawn_22 : decode cX6_imagineDrawn 22 = .ok (.aload_n 0, 1) := by decide +kernel
theorem dX6_imagineDrawn_23 : decode cX6_imagineDrawn 23 = .ok (.getfield 24, 3) := by decide +kernel
theorem dX6_imagineDrawn_26 : decode cX6_imagineDrawn 26 = .ok (.getfield 71, 3) := by decide +kernel
theorem dX6_imagineDrawn_29 : decode cX6_imagineDrawn 29 = .ok (.if_icmp .ge 35, 3) := by decide +kernel
theorem dX6_imagineDrawn_32 : decode cX6_imagineDrawn 32 = .ok (.aload_n 0, 1) := by decide +kernel
theorem dX6_imagineDrawn_33 : decode cX6_imagineDrawn 33 = .ok (.getfield 24, 3) := by decide +kernel
theorem dX6_imagineDrawn_36 : decode cX6_imagineDrawn 36 = .ok (.getfield 144, 3) := by decide +kernel
theorem dX6_imagineDrawn_39 : decode cX6_imagineDrawn 39 = .ok (.iload 4, 2) := by decide +kernel
theorem dX6_imagineDrawn_41 : decode cX6_imagineDrawn 41 = .ok (.lload_n 2, 1) := by decide +kernel
theorem dX6_imagineDrawn_42 : decode cX6_imagineDrawn 42 = .ok (.ldc2_w 252, 3) := by decide +kernel
theorem dX6_imagineDrawn_45 : decode cX6_imagineDrawn 45 = .ok (.lrem, 1) := by decide +kernel
theorem dX6_imagineDrawn_46 : decode cX6_imagineDrawn 46 = .ok (.l2i, 1) := by decide +kernel
theorem dX6_imagineDrawn_47 : decode cX6_imagineDrawn 47 = .ok (.iastore, 1) := by decide +kernel
theorem dX6_imagineDrawn_48 : decode cX6_imagineDrawn 48 = .ok (.lload_n 2, 1) := by decide +kernel
theorem dX6_imagineDrawn_49 : decode cX6_imagineDrawn 49 = .ok (.ldc2_w 248, 3) := by decide +kernel
theorem dX6_imagineDrawn_52 : decode cX6_imagineDrawn 52 = .ok (.lmul, 1) := by decide +kernel
theorem dX6_imagineDrawn_53 : decode cX6_imagineDrawn 53 = .ok (.ldc2_w 250, 3) := by decide +kernel
theorem dX6_imagineDrawn_56 : decode cX6_imagineDrawn 56 = .ok (.lrem, 1) := by decide +kernel
theorem dX6_imagineDrawn_57 : decode cX6_imagineDrawn 57 = .ok (.lstore_n 2, 1) := by decide +kernel
theorem dX6_imagineDrawn_58 : decode cX6_imagineDrawn 58 = .ok (.iinc 4 1, 3) := by decide +kernel
theorem dX6_imagineDrawn_61 : decode cX6_imagineDrawn 61 = .ok (.goto (-41), 3) := by decide +kernel
theorem dX6_imagineDrawn_64 : decode cX6_imagineDrawn 64 = .ok (.iconst 0, 1) := by decide +kernel
theorem dX6_imagineDrawn_65 : decode cX6_imagineDrawn 65 = .ok (.istore 4, 2) := by decide +kernel
theorem dX6_imagineDrawn_67 : decode cX6_imagineDrawn 67 = .ok (.iload 4, 2) := by decide +kernel
theorem dX6_imagineDrawn_69 : decode cX6_imagineDrawn 69 = .ok (.bipush 20, 2) := by decide +kernel
theorem dX6_imagineDrawn_71 : decode cX6_imagineDrawn 71 = .ok (.if_icmp .ge 17, 3) := by decide +kernel
theorem dX6_imagineDrawn_74 : decode cX6_imagineDrawn 74 = .ok (.aload_n 0, 1) := by decide +kernel
theorem dX6_imagineDrawn_75 : decode cX6_imagineDrawn 75 = .ok (.getfield 24, 3) := by decide +kernel
theorem dX6_imagineDrawn_78 : decode cX6_imagineDrawn 78 = .ok (.invokevirtual 138, 3) := by decide +kernel
theorem dX6_imagineDrawn_81 : decode cX6_imagineDrawn 81 = .ok (.pop, 1) := by decide +kernel
theorem dX6_imagineDrawn_82 : decode cX6_imagineDrawn 82 = .ok (.iinc 4 1, 3) := by decide +kernel
theorem dX6_imagineDrawn_85 : decode cX6_imagineDrawn 85 = .ok (.goto (-18), 3) := by decide +kernel
theorem dX6_imagineDrawn_88 : decode cX6_imagineDrawn 88 = .ok (.return_, 1) := by decide +kernel
theorem dX6_feltBehind_0 : decode cX6_feltBehind 0 = .ok (.iconst 0, 1) := by decide +kernel
theorem dX6_feltBehind_1 : decode cX6_feltBehind 1 = .ok (.istore_n 3, 1) := by decide +kernel
theorem dX6_feltBehind_2 : decode cX6_feltBehind 2 = .ok (.iload_n 3, 1) := by decide +kernel
theorem dX6_feltBehind_3 : decode cX6_feltBehind 3 = .ok (.iload_n 2, 1) := by decide +kernel
theorem dX6_feltBehind_4 : decode cX6_feltBehind 4 = .ok (.if_icmp .ge 29, 3) := by decide +kernel
theorem dX6_feltBehind_7 : decode cX6_feltBehind 7 = .ok (.aload_n 0, 1) := by decide +kernel
theorem dX6_feltBehind_8 : decode cX6_feltBehind 8 = .ok (.getfield 24, 3) := by decide +kernel
theorem dX6_feltBehind_11 : decode cX6_feltBehind 11 = .ok (.getfield 147, 3) := by decide +kernel
theorem dX6_feltBehind_14 : decode cX6_feltBehind 14 = .ok (.iload_n 1, 1) := by decide +kernel
theorem dX6_feltBehind_15 : decode cX6_feltBehind 15 = .ok (.iaload, 1) := by decide +kernel
theorem dX6_feltBehind_16 : decode cX6_feltBehind 16 = .ok (.ifCond .le 17, 3) := by decide +kernel
theorem dX6_feltBehind_19 : decode cX6_feltBehind 19 = .ok (.aload_n 0, 1) := by decide +kernel
theorem dX6_feltBehind_20 : decode cX6_feltBehind 20 = .ok (.getfield 24, 3) := by decide +kernel
theorem dX6_feltBehind_23 : decode cX6_feltBehind 23 = .ok (.invokevirtual 138, 3) := by decide +kernel
theorem dX6_feltBehind_26 : decode cX6_feltBehind 26 = .ok (.pop, 1) := by decide +kernel
theorem dX6_feltBehind_27 : decode cX6_feltBehind 27 = .ok (.iinc 3 1, 3) := by decide +kernel
theorem dX6_feltBehind_30 : decode cX6_feltBehind 30 = .ok (.goto (-28), 3) := by decide +kernel
theorem dX6_feltBehind_33 : decode cX6_feltBehind 33 = .ok (.aload_n 0, 1) := by decide +kernel
theorem dX6_feltBehind_34 : decode cX6_feltBehind 34 = .ok (.getfield 24, 3) := by decide +kernel
theorem dX6_feltBehind_37 : decode cX6_feltBehind 37 = .ok (.getfield 147, 3) := by decide +kernel
theorem dX6_feltBehind_40 : decode cX6_feltBehind 40 = .ok (.iload_n 1, 1) := by decide +kernel
theorem dX6_feltBehind_41 : decode cX6_feltBehind 41 = .ok (.iaload, 1) := by decide +kernel
theorem dX6_feltBehind_42 : decode cX6_feltBehind 42 = .ok (.ireturn, 1) := by decide +kernel
theorem dX6_refusalOf_0 : decode cX6_refusalOf 0 = .ok (.iload_n 1, 1) := by decide +kernel
theorem dX6_refusalOf_1 : decode cX6_refusalOf 1 = .ok (.invokestatic 197, 3) := by decide +kernel
theorem dX6_refusalOf_4 : decode cX6_refusalOf 4 = .ok (.ifCond .ne 6, 3) := by decide +kernel
theorem dX6_refusalOf_7 : decode cX6_refusalOf 7 = .ok (.bipush (-2), 2) := by decide +kernel
theorem dX6_refusalOf_9 : decode cX6_refusalOf 9 = .ok (.ireturn, 1) := by decide +kernel
theorem dX6_refusalOf_10 : decode cX6_refusalOf 10 = .ok (.aload_n 0, 1) := by decide +kernel
theorem dX6_refusalOf_11 : decode cX6_refusalOf 11 = .ok (.getfield 43, 3) := by decide +kernel
theorem dX6_refusalOf_14 : decode cX6_refusalOf 14 = .ok (.iload_n 1, 1) := by decide +kernel
theorem dX6_refusalOf_15 : decode cX6_refusalOf 15 = .ok (.aaload, 1) := by decide +kernel
theorem dX6_refusalOf_16 : decode cX6_refusalOf 16 = .ok (.invokevirtual 221, 3) := by decide +kernel
theorem dX6_refusalOf_19 : decode cX6_refusalOf 19 = .ok (.ifCond .eq 6, 3) := by decide +kernel
theorem dX6_refusalOf_22 : decode cX6_refusalOf 22 = .ok (.bipush (-11), 2) := by decide +kernel
theorem dX6_refusalOf_24 : decode cX6_refusalOf 24 = .ok (.ireturn, 1) := by decide +kernel
theorem dX6_refusalOf_25 : decode cX6_refusalOf 25 = .ok (.aload_n 0, 1) := by decide +kernel
theorem dX6_refusalOf_26 : decode cX6_refusalOf 26 = .ok (.getfield 43, 3) := by decide +kernel
theorem dX6_refusalOf_29 : decode cX6_refusalOf 29 = .ok (.iload_n 1, 1) := by decide +kernel
theorem dX6_refusalOf_30 : decode cX6_refusalOf 30 = .ok (.aaload, 1) := by decide +kernel
theorem dX6_refusalOf_31 : decode cX6_refusalOf 31 = .ok (.getfield 225, 3) := by decide +kernel
theorem dX6_refusalOf_34 : decode cX6_refusalOf 34 = .ok (.bipush 20, 2) := by decide +kernel
theorem dX6_refusalOf_36 : decode cX6_refusalOf 36 = .ok (.if_icmp .le 8, 3) := by decide +kernel
theorem dX6_refusalOf_39 : decode cX6_refusalOf 39 = .ok (.bipush (-2), 2) := by decide +kernel
theorem dX6_refusalOf_41 : decode cX6_refusalOf 41 = .ok (.goto 4, 3) := by decide +kernel
theorem dX6_refusalOf_44 : decode cX6_refusalOf 44 = .ok (.iconst 0, 1) := by decide +kernel
theorem dX6_refusalOf_45 : decode cX6_refusalOf 45 = .ok (.ireturn, 1) := by decide +kernel
theorem dX6_refusalOf__0 : decode cX6_refusalOf_ 0 = .ok (.aload_n 0, 1) := by decide +kernel
theorem dX6_refusalOf__1 : decode cX6_refusalOf_ 1 = .ok (.iload_n 1, 1) := by decide +kernel
theorem dX6_refusalOf__2 : decode cX6_refusalOf_ 2 = .ok (.invokevirtual 195, 3) := by decide +kernel
theorem dX6_refusalOf__5 : decode cX6_refusalOf_ 5 = .ok (.istore_n 3, 1) := by decide +kernel
theorem dX6_refusalOf__6 : decode cX6_refusalOf_ 6 = .ok (.iload_n 3, 1) := by decide +kernel
theorem dX6_refusalOf__7 : decode cX6_refusalOf_ 7 = .ok (.ifCond .ne 16, 3) := by decide +kernel
theorem dX6_refusalOf__10 : decode cX6_refusalOf_ 10 = .ok (.aload_n 0, 1) := by decide +kernel
theorem dX6_refusalOf__11 : decode cX6_refusalOf_ 11 = .ok (.iload_n 2, 1) := by decide +kernel
theorem dX6_refusalOf__12 : decode cX6_refusalOf_ 12 = .ok (.invokevirtual 94, 3) := by decide +kernel
theorem dX6_refusalOf__15 : decode cX6_refusalOf_ 15 = .ok (.ifCond .ne 8, 3) := by decide +kernel
theorem dX6_refusalOf__18 : decode cX6_refusalOf_ 18 = .ok (.bipush (-5), 2) := by decide +kernel
theorem dX6_refusalOf__20 : decode cX6_refusalOf_ 20 = .ok (.goto 4, 3) := by decide +kernel
theorem dX6_refusalOf__23 : decode cX6_refusalOf_ 23 = .ok (.iload_n 3, 1) := by decide +kernel
theorem dX6_refusalOf__24 : decode cX6_refusalOf_ 24 = .ok (.ireturn, 1) := by decide +kernel
theorem dX6_firstOtherwise_0 : decode cX6_firstOtherwise 0 = .ok (.aload_n 0, 1) := by decide +kernel
theorem dX6_firstOtherwise_1 : decode cX6_firstOtherwise 1 = .ok (.getfield 43, 3) := by decide +kernel
theorem dX6_firstOtherwise_4 : decode cX6_firstOtherwise 4 = .ok (.iload_n 1, 1) := by decide +kernel
theorem dX6_firstOtherwise_5 : decode cX6_firstOtherwise 5 = .ok (.aaload, 1) := by decide +kernel
theorem dX6_firstOtherwise_6 : decode cX6_firstOtherwise 6 = .ok (.astore_n 3, 1) := by decide +kernel
theorem dX6_firstOtherwise_7 : decode cX6_firstOtherwise 7 = .ok (.iconst 0, 1) := by decide +kernel
theorem dX6_firstOtherwise_8 : decode cX6_firstOtherwise 8 = .ok (.istore 4, 2) := by decide +kernel
theorem dX6_firstOtherwise_10 : decode cX6_firstOtherwise 10 = .ok (.iload 4, 2) := by decide +kernel
theorem dX6_firstOtherwise_12 : decode cX6_firstOtherwise 12 = .ok (.aload_n 3, 1) := by decide +kernel
theorem dX6_firstOtherwise_13 : decode cX6_firstOtherwise 13 = .ok (.getfield 225, 3) := by decide +kernel
theorem dX6_firstOtherwise_16 : decode cX6_firstOtherwise 16 = .ok (.if_icmp .ge 39, 3) := by decide +kernel
theorem dX6_firstOtherwise_19 : decode cX6_firstOtherwise 19 = .ok (.aload_n 0, 1) := by decide +kernel
theorem dX6_firstOtherwise_20 : decode cX6_firstOtherwise 20 = .ok (.getfield 24, 3) := by decide +kernel
theorem dX6_firstOtherwise_23 : decode cX6_firstOtherwise 23 = .ok (.invokevirtual 138, 3) := by decide +kernel
theorem dX6_firstOtherwise_26 : decode cX6_firstOtherwise 26 = .ok (.pop, 1) := by decide +kernel
theorem dX6_firstOtherwise_27 : decode cX6_firstOtherwise 27 = .ok (.aload_n 0, 1) := by decide +kernel
theorem dX6_firstOtherwise_28 : decode cX6_firstOtherwise 28 = .ok (.getfield 24, 3) := by decide +kernel
theorem dX6_firstOtherwise_31 : decode cX6_firstOtherwise 31 = .ok (.getfield 147, 3) := by decide +kernel
theorem dX6_firstOtherwise_34 : decode cX6_firstOtherwise 34 = .ok (.iload_n 2, 1) := by decide +kernel
theorem dX6_firstOtherwise_35 : decode cX6_firstOtherwise 35 = .ok (.iaload, 1) := by decide +kernel
theorem dX6_firstOtherwise_36 : decode cX6_firstOtherwise 36 = .ok (.aload_n 3, 1) := by decide +kernel
theorem dX6_firstOtherwise_37 : decode cX6_firstOtherwise 37 = .ok (.getfield 203, 3) := by decide +kernel
theorem dX6_firstOtherwise_40 : decode cX6_firstOtherwise 40 = .ok (.iload 4, 2) := by decide +kernel
theorem dX6_firstOtherwise_42 : decode cX6_firstOtherwise 42 = .ok (.iaload, 1) := by decide +kernel
theorem dX6_firstOtherwise_43 : decode cX6_firstOtherwise 43 = .ok (.if_icmp .eq 6, 3) := by decide +kernel
theorem dX6_firstOtherwise_46 : decode cX6_firstOtherwise 46 = .ok (.iload 4, 2) := by decide +kernel
theorem dX6_firstOtherwise_48 : decode cX6_firstOtherwise 48 = .ok (.ireturn, 1) := by decide +kernel
theorem dX6_firstOtherwise_49 : decode cX6_firstOtherwise 49 = .ok (.iinc 4 1, 3) := by decide +kernel
theorem dX6_firstOtherwise_52 : decode cX6_firstOtherwise 52 = .ok (.goto (-42), 3) := by decide +kernel
theorem dX6_firstOtherwise_55 : decode cX6_firstOtherwise 55 = .ok (.iconst (-1), 1) := by decide +kernel
theorem dX6_firstOtherwise_56 : decode cX6_firstOtherwise 56 = .ok (.ireturn, 1) := by decide +kernel
