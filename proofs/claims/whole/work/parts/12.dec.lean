theorem dX5_pull_172 : decode cX5_pull 172 = .ok (.aload_n 0, 1) := by decide +kernel
theorem dX5_pull_173 : decode cX5_pull 173 = .ok (.getfield 19, 3) := by decide +kernel
theorem dX5_pull_176 : decode cX5_pull 176 = .ok (.iload_n 1, 1) := by decide +kernel
theorem dX5_pull_177 : decode cX5_pull 177 = .ok (.iaload, 1) := by decide +kernel
theorem dX5_pull_178 : decode cX5_pull 178 = .ok (.iadd, 1) := by decide +kernel
theorem dX5_pull_179 : decode cX5_pull 179 = .ok (.ireturn, 1) := by decide +kernel
theorem dX5_pull_180 : decode cX5_pull 180 = .ok (.iconst 2, 1) := by decide +kernel
theorem dX5_pull_181 : decode cX5_pull 181 = .ok (.iload 6, 2) := by decide +kernel
theorem dX5_pull_183 : decode cX5_pull 183 = .ok (.aload_n 0, 1) := by decide +kernel
theorem dX5_pull_184 : decode cX5_pull 184 = .ok (.getfield 19, 3) := by decide +kernel
theorem dX5_pull_187 : decode cX5_pull 187 = .ok (.iload_n 1, 1) := by decide +kernel
theorem dX5_pull_188 : decode cX5_pull 188 = .ok (.iaload, 1) := by decide +kernel
theorem dX5_pull_189 : decode cX5_pull 189 = .ok (.iadd, 1) := by decide +kernel
theorem dX5_pull_190 : decode cX5_pull 190 = .ok (.imul, 1) := by decide +kernel
theorem dX5_pull_191 : decode cX5_pull 191 = .ok (.ireturn, 1) := by decide +kernel
theorem dX5_pull_192 : decode cX5_pull 192 = .ok (.iload 6, 2) := by decide +kernel
theorem dX5_pull_194 : decode cX5_pull 194 = .ok (.ireturn, 1) := by decide +kernel
theorem dX5_welcome_0 : decode cX5_welcome 0 = .ok (.aload_n 0, 1) := by decide +kernel
theorem dX5_welcome_1 : decode cX5_welcome 1 = .ok (.getfield 9, 3) := by decide +kernel
theorem dX5_welcome_4 : decode cX5_welcome 4 = .ok (.istore_n 3, 1) := by decide +kernel
theorem dX5_welcome_5 : decode cX5_welcome 5 = .ok (.aload_n 0, 1) := by decide +kernel
theorem dX5_welcome_6 : decode cX5_welcome 6 = .ok (.getfield 15, 3) := by decide +kernel
theorem dX5_welcome_9 : decode cX5_welcome 9 = .ok (.iload_n 3, 1) := by decide +kernel
theorem dX5_welcome_10 : decode cX5_welcome 10 = .ok (.iload_n 1, 1) := by decide +kernel
theorem dX5_welcome_11 : decode cX5_welcome 11 = .ok (.iastore, 1) := by decide +kernel
theorem dX5_welcome_12 : decode cX5_welcome 12 = .ok (.aload_n 0, 1) := by decide +kernel
theorem dX5_welcome_13 : decode cX5_welcome 13 = .ok (.getfield 19, 3) := by decide +kernel
theorem dX5_welcome_16 : decode cX5_welcome 16 = .ok (.iload_n 3, 1) := by decide +kernel
theorem dX5_welcome_17 : decode cX5_welcome 17 = .ok (.iload_n 2, 1) := by decide +kernel
theorem dX5_welcome_18 : decode cX5_welcome 18 = .ok (.iastore, 1) := by decide +kernel
theorem dX5_welcome_19 : decode cX5_welcome 19 = .ok (.aload_n 0, 1) := by decide +kernel
theorem dX5_welcome_20 : decode cX5_welcome 20 = .ok (.getfield 22, 3) := by decide +kernel
theorem dX5_welcome_23 : decode cX5_welcome 23 = .ok (.iload_n 3, 1) := by decide +kernel
theorem dX5_welcome_24 : decode cX5_welcome 24 = .ok (.iconst 0, 1) := by decide +kernel
theorem dX5_welcome_25 : decode cX5_welcome 25 = .ok (.iastore, 1) := by decide +kernel
theorem dX5_welcome_26 : decode cX5_welcome 26 = .ok (.aload_n 0, 1) := by decide +kernel
theorem dX5_welcome_27 : decode cX5_welcome 27 = .ok (.getfield 27, 3) := by decide +kernel
theorem dX5_welcome_30 : decode cX5_welcome 30 = .ok (.iload_n 3, 1) := by decide +kernel
theorem dX5_welcome_31 : decode cX5_welcome 31 = .ok (.aaload, 1) := by decide +kernel
theorem dX5_welcome_32 : decode cX5_welcome 32 = .ok (.iconst 5, 1) := by decide +kernel
theorem dX5_welcome_33 : decode cX5_welcome 33 = .ok (.invokestatic 70, 3) := by decide +kernel
theorem dX5_welcome_36 : decode cX5_welcome 36 = .ok (.aload_n 0, 1) := by decide +kernel
theorem dX5_welcome_37 : decode cX5_welcome 37 = .ok (.getfield 30, 3) := by decide +kernel
theorem dX5_welcome_40 : decode cX5_welcome 40 = .ok (.iload_n 3, 1) := by decide +kernel
theorem dX5_welcome_41 : decode cX5_welcome 41 = .ok (.iload_n 3, 1) := by decide +kernel
theorem dX5_welcome_42 : decode cX5_welcome 42 = .ok (.iastore, 1) := by decide +kernel
theorem dX5_welcome_43 : decode cX5_welcome 43 = .ok (.aload_n 0, 1) := by decide +kernel
theorem dX5_welcome_44 : decode cX5_welcome 44 = .ok (.dup, 1) := by decide +kernel
theorem dX5_welcome_45 : decode cX5_welcome 45 = .ok (.getfield 9, 3) := by decide +kernel
theorem dX5_welcome_48 : decode cX5_welcome 48 = .ok (.iconst 1, 1) := by decide +kernel
theorem dX5_welcome_49 : decode cX5_welcome 49 = .ok (.iadd, 1) := by decide +kernel
theorem dX5_welcome_50 : decode cX5_welcome 50 = .ok (.putfield 9, 3) := by decide +kernel
theorem dX5_welcome_53 : decode cX5_welcome 53 = .ok (.aload_n 0, 1) := by decide +kernel
theorem dX5_welcome_54 : decode cX5_welcome 54 = .ok (.invokevirtual 76, 3) := by decide +kernel
theorem dX5_welcome_57 : decode cX5_welcome 57 = .ok (.iload_n 3, 1) := by decide +kernel
theorem dX5_welcome_58 : decode cX5_welcome 58 = .ok (.ireturn, 1) := by decide +kernel
theorem dX5_wholeLongs_0 : decode cX5_wholeLongs 0 = .ok (.iconst 0, 1) := by decide +kernel
theorem dX5_wholeLongs_1 : decode cX5_wholeLongs 1 = .ok (.aload_n 0, 1) := by decide +kernel
theorem dX5_wholeLongs_2 : decode cX5_wholeLongs 2 = .ok (.getfield 9, 3) := by decide +kernel
theorem dX5_wholeLongs_5 : decode cX5_wholeLongs 5 = .ok (.aload_n 0, 1) := by decide +kernel
theorem dX5_wholeLongs_6 : decode cX5_wholeLongs 6 = .ok (.getfield 63, 3) := by decide +kernel
theorem dX5_wholeLongs_9 : decode cX5_wholeLongs 9 = .ok (.getfield 86, 3) := by decide +kernel
theorem dX5_wholeLongs_12 : decode cX5_wholeLongs 12 = .ok (.iadd, 1) := by decide +kernel
theorem dX5_wholeLongs_13 : decode cX5_wholeLongs 13 = .ok (.aload_n 0, 1) := by decide +kernel
theorem dX5_wholeLongs_14 : decode cX5_wholeLongs 14 = .ok (.getfield 63, 3) := by decide +kernel
theorem dX5_wholeLongs_17 : decode cX5_wholeLongs 17 = .ok (.getfield 85, 3) := by decide +kernel
theorem dX5_wholeLongs_20 : decode cX5_wholeLongs 20 = .ok (.isub, 1) := by decide +kernel
theorem dX5_wholeLongs_21 : decode cX5_wholeLongs 21 = .ok (.invokestatic 89, 3) := by decide +kernel
theorem dX5_wholeLongs_24 : decode cX5_wholeLongs 24 = .ok (.ireturn, 1) := by decide +kernel
theorem dX5_wholeShorts_0 : decode cX5_wholeShorts 0 = .ok (.aload_n 0, 1) := by decide +kernel
theorem dX5_wholeShorts_1 : decode cX5_wholeShorts 1 = .ok (.getfield 63, 3) := by decide +kernel
theorem dX5_wholeShorts_4 : decode cX5_wholeShorts 4 = .ok (.getfield 85, 3) := by decide +kernel
theorem dX5_wholeShorts_7 : decode cX5_wholeShorts 7 = .ok (.ireturn, 1) := by decide +kernel
theorem dX6_act_0 : decode cX6_act 0 = .ok (.aload_n 0, 1) := by decide +kernel
theorem dX6_act_1 : decode cX6_act 1 = .ok (.getfield 55, 3) := by decide +kernel
theorem dX6_act_4 : decode cX6_act 4 = .ok (.iconst 0, 1) := by decide +kernel
theorem dX6_act_5 : decode cX6_act 5 = .ok (.putfield 263, 3) := by decide +kernel
theorem dX6_act_8 : decode cX6_act 8 = .ok (.aload_n 0, 1) := by decide +kernel
theorem dX6_act_9 : decode cX6_act 9 = .ok (.getfield 12, 3) := by decide +kernel
theorem dX6_act_12 : decode cX6_act 12 = .ok (.iload_n 1, 1) := by decide +kernel
theorem dX6_act_13 : decode cX6_act 13 = .ok (.invokevirtual 73, 3) := by decide +kernel
theorem dX6_act_16 : decode cX6_act 16 = .ok (.ifCond .eq 12, 3) := by decide +kernel
theorem dX6_act_19 : decode cX6_act 19 = .ok (.iload_n 2, 1) := by decide +kernel
theorem dX6_act_20 : decode cX6_act 20 = .ok (.ifCond .lt 8, 3) := by decide +kernel
theorem dX6_act_23 : decode cX6_act 23 = .ok (.iload_n 2, 1) := by decide +kernel
theorem dX6_act_24 : decode cX6_act 24 = .ok (.iconst 3, 1) := by decide +kernel
theorem dX6_act_25 : decode cX6_act 25 = .ok (.if_icmp .lt 5, 3) := by decide +kernel
theorem dX6_act_28 : decode cX6_act 28 = .ok (.iconst 0, 1) := by decide +kernel
theorem dX6_act_29 : decode cX6_act 29 = .ok (.ireturn, 1) := by decide +kernel
theorem dX6_act_30 : decode cX6_act 30 = .ok (.aload_n 0, 1) := by decide +kernel
theorem dX6_act_31 : decode cX6_act 31 = .ok (.getfield 55, 3) := by decide +kernel
theorem dX6_act_34 : decode cX6_act 34 = .ok (.iload_n 1, 1) := by decide +kernel
theorem dX6_act_35 : decode cX6_act 35 = .ok (.aload_n 0, 1) := by decide +kernel
theorem dX6_act_36 : decode cX6_act 36 = .ok (.getfield 12, 3) := by decide +kernel
theorem dX6_act_39 : decode cX6_act 39 = .ok (.getfield 81, 3) := by decide +kernel
theorem dX6_act_42 : decode cX6_act 42 = .ok (.iload_n 1, 1) := by decide +kernel
theorem dX6_act_43 : decode cX6_act 43 = .ok (.iaload, 1) := by decide +kernel
theorem dX6_act_44 : decode cX6_act 44 = .ok (.aload_n 0, 1) := by decide +kernel
theorem dX6_act_45 : decode cX6_act 45 = .ok (.getfield 12, 3) := by decide +kernel
theorem dX6_act_48 : decode cX6_act 48 = .ok (.getfield 84, 3) := by decide +kernel
theorem dX6_act_51 : decode cX6_act 51 = .ok (.iload_n 1, 1) := by decide +kernel
theorem dX6_act_52 : decode cX6_act 52 = .ok (.iaload, 1) := by decide +kernel
theorem dX6_act_53 : decode cX6_act 53 = .ok (.iload_n 2, 1) := by decide +kernel
theorem dX6_act_54 : decode cX6_act 54 = .ok (.iload_n 3, 1) := by decide +kernel
theorem dX6_act_55 : decode cX6_act 55 = .ok (.invokevirtual 266, 3) := by decide +kernel
theorem dX6_act_58 : decode cX6_act 58 = .ok (.ireturn, 1) := by decide +kernel
theorem dX6_best_0 : decode cX6_best 0 = .ok (.iload_n 1, 1) := by decide +kernel
theorem dX6_best_1 : decode cX6_best 1 = .ok (.iconst (-1), 1) := by decide +kernel
theorem dX6_best_2 : decode cX6_best 2 = .ok (.if_icmp .lt 8, 3) := by decide +kernel
theorem dX6_best_5 : decode cX6_best 5 = .ok (.iload_n 1, 1) := by decide +kernel
theorem dX6_best_6 : decode cX6_best 6 = .ok (.iconst 5, 1) := by decide +kernel
theorem dX6_best_7 : decode cX6_best 7 = .ok (.if_icmp .lt 5, 3) := by decide +kernel
theorem dX6_best_10 : decode cX6_best 10 = .ok (.iconst (-1), 1) := by decide +kernel
theorem dX6_best_11 : decode cX6_best 11 = .ok (.ireturn, 1) := by decide +kernel
theorem dX6_best_12 : decode cX6_best 12 = .ok (.aload_n 0, 1) := by decide +kernel
theorem dX6_best_13 : decode cX6_best 13 = .ok (.getfield 12, 3) := by decide +kernel
theorem dX6_best_16 : decode cX6_best 16 = .ok (.getfield 66, 3) := by decide +kernel
theorem dX6_best_19 : decode cX6_best 19 = .ok (.ifCond .ne 6, 3) := by decide +kernel
theorem dX6_best_22 : decode cX6_best 22 = .ok (.bipush (-5), 2) := by decide +kernel
theorem dX6_best_24 : decode cX6_best 24 = .ok (.ireturn, 1) := by decide +kernel
theorem dX6_best_25 : decode cX6_best 25 = .ok (.aload_n 0, 1) := by decide +kernel
theorem dX6_best_26 : decode cX6_best 26 = .ok (.getfield 12, 3) := by decide +kernel
theorem dX6_best_29 : decode cX6_best 29 = .ok (.getfield 66, 3) := by decide +kernel
theorem dX6_best_32 : decode cX6_best 32 = .ok (.iconst 5, 1) := by decide +kernel
theorem dX6_best_33 : decode cX6_best 33 = .ok (.if_icmp .le 6, 3) := by decide +kernel
theorem dX6_best_36 : decode cX6_best 36 = .ok (.bipush (-9), 2) := by decide +kernel
theorem dX6_best_38 : decode cX6_best 38 = .ok (.ireturn, 1) := by decide +kernel
theorem dX6_best_39 : decode cX6_best 39 = .ok (.iload_n 1, 1) := by decide +kernel
theorem dX6_best_40 : decode cX6_best 40 = .ok (.aload_n 0, 1) := by decide +kernel
theorem dX6_best_41 : decode cX6_best 41 = .ok (.getfield 12, 3) := by decide +kernel
theorem dX6_best_44 : decode cX6_best 44 = .ok (.getfield 66, 3) := by decide +kernel
theorem dX6_best_47 : decode cX6_best 47 = .ok (.if_icmp .lt 6, 3) := by decide +kernel
theorem dX6_best_50 : decode cX6_best 50 = .ok (.bipush (-5), 2) := by decide +kernel
theorem dX6_best_52 : decode cX6_best 52 = .ok (.ireturn, 1) := by decide +kernel
theorem dX6_best_53 : decode cX6_best 53 = .ok (.aload_n 0, 1) := by decide +kernel
theorem dX6_best_54 : decode cX6_best 54 = .ok (.getfield 34, 3) := by decide +kernel
theorem dX6_best_57 : decode cX6_best 57 = .ok (.aload_n 0, 1) := by decide +kernel
theorem dX6_best_58 : decode cX6_best 58 = .ok (.getfield 12, 3) := by decide +kernel
theorem dX6_best_61 : decode cX6_best 61 = .ok (.getfield 66, 3) := by decide +kernel
theorem dX6_best_64 : decode cX6_best 64 = .ok (.invokestatic 172, 3) := by decide +kernel
theorem dX6_best_67 : decode cX6_best 67 = .ok (.aload_n 0, 1) := by decide +kernel
theorem dX6_best_68 : decode cX6_best 68 = .ok (.getfield 30, 3) := by decide +kernel
theorem dX6_best_71 : decode cX6_best 71 = .ok (.iconst 0, 1) := by decide +kernel
theorem dX6_best_72 : decode cX6_best 72 = .ok (.invokevirtual 160, 3) := by decide +kernel
theorem dX6_best_75 : decode cX6_best 75 = .ok (.ldc 176, 2) := by decide +kernel
theorem dX6_best_77 : decode cX6_best 77 = .ok (.istore_n 2, 1) := by decide +kernel
theorem dX6_best_78 : decode cX6_best 78 = .ok (.iconst 1, 1) := by decide +kernel
theorem dX6_best_79 : decode cX6_best 79 = .ok (.istore_n 3, 1) := by decide +kernel
theorem dX6_best_80 : decode cX6_best 80 = .ok (.iconst 0, 1) := by decide +kernel
theorem dX6_best_81 : decode cX6_best 81 = .ok (.istore 4, 2) := by decide +kernel
theorem dX6_best_83 : decode cX6_best 83 = .ok (.iload 4, 2) := by decide +kernel
theorem dX6_best_85 : decode cX6_best 85 = .ok (.bipush 120, 2) := by decide +kernel
theorem dX6_best_87 : decode cX6_best 87 = .ok (.if_icmp .ge 70, 3) := by decide +kernel
theorem dX6_best_90 : decode cX6_best 90 = .ok (.iload_n 3, 1) := by decide +kernel
theorem dX6_best_91 : decode cX6_best 91 = .ok (.ifCond .eq 66, 3) := by decide +kernel
theorem dX6_best_94 : decode cX6_best 94 = .ok (.aload_n 0, 1) := by decide +kernel
theorem dX6_best_95 : decode cX6_best 95 = .ok (.getfield 30, 3) := by decide +kernel
theorem dX6_best_98 : decode cX6_best 98 = .ok (.aload_n 0, 1) := by decide +kernel
theorem dX6_best_99 : decode cX6_best 99 = .ok (.getfield 34, 3) := by decide +kernel
theorem dX6_best_102 : decode cX6_best 102 = .ok (.invokevirtual 168, 3) := by decide +kernel
theorem dX6_best_105 : decode cX6_best 105 = .ok (.istore 5, 2) := by decide +kernel
theorem dX6_best_107 : decode cX6_best 107 = .ok (.iload 5, 2) := by decide +kernel
theorem dX6_best_109 : decode cX6_best 109 = .ok (.iload_n 2, 1) := by decide +kernel
theorem dX6_best_110 : decode cX6_best 110 = .ok (.if_icmp .ge 26, 3) := by decide +kernel
theorem dX6_best_113 : decode cX6_best 113 = .ok (.iload 5, 2) := by decide +kernel
theorem dX6_best_115 : decode cX6_best 115 = .ok (.istore_n 2, 1) := by decide +kernel
theorem dX6_best_116 : decode cX6_best 116 = .ok (.aload_n 0, 1) := by decide +kernel
theorem dX6_best_117 : decode cX6_best 117 = .ok (.getfield 34, 3) := by decide +kernel
theorem dX6_best_120 : decode cX6_best 120 = .ok (.iconst 0, 1) := by decide +kernel
theorem dX6_best_121 : decode cX6_best 121 = .ok (.aload_n 0, 1) := by decide +kernel
theorem dX6_best_122 : decode cX6_best 122 = .ok (.getfield 38, 3) := by decide +kernel
theorem dX6_best_125 : decode cX6_best 125 = .ok (.iconst 0, 1) := by decide +kernel
theorem dX6_best_126 : decode cX6_best 126 = .ok (.aload_n 0, 1) := by decide +kernel
theorem dX6_best_127 : decode cX6_best 127 = .ok (.getfield 12, 3) := by decide +kernel
theorem dX6_best_130 : decode cX6_best 130 = .ok (.getfield 66, 3) := by decide +kernel
theorem dX6_best_133 : decode cX6_best 133 = .ok (.invokestatic 114, 3) := by decide +kernel
theorem dX6_best_136 : decode cX6_best 136 = .ok (.aload_n 0, 1) := by decide +kernel
theorem dX6_best_137 : decode cX6_best 137 = .ok (.getfield 34, 3) := by decide +kernel
theorem dX6_best_140 : decode cX6_best 140 = .ok (.aload_n 0, 1) := by decide +kernel
theorem dX6_best_141 : decode cX6_best 141 = .ok (.getfield 12, 3) := by decide +kernel
theorem dX6_best_144 : decode cX6_best 144 = .ok (.getfield 66, 3) := by decide +kernel
theorem dX6_best_147 : decode cX6_best 147 = .ok (.invokestatic 177, 3) := by decide +kernel
theorem dX6_best_150 : decode cX6_best 150 = .ok (.istore_n 3, 1) := by decide +kernel
theorem dX6_best_151 : decode cX6_best 151 = .ok (.iinc 4 1, 3) := by decide +kernel
theorem dX6_best_154 : decode cX6_best 154 = .ok (.goto (-71), 3) := by decide +kernel
theorem dX6_best_157 : decode cX6_best 157 = .ok (.iload_n 1, 1) := by decide +kernel
theorem dX6_best_158 : decode cX6_best 158 = .ok (.ifCond .ge 7, 3) := by decide +kernel
theorem dX6_best_161 : decode cX6_best 161 = .ok (.iload_n 2, 1) := by decide +kernel
theorem dX6_best_162 : decode cX6_best 162 = .ok (.goto 9, 3) := by decide +kernel
theorem dX6_best_165 : decode cX6_best 165 = .ok (.aload_n 0, 1) := by decide +kernel
theorem dX6_best_166 : decode cX6_best 166 = .ok (.getfield 38, 3) := by decide +kernel
theorem dX6_best_169 : decode cX6_best 169 = .ok (.iload_n 1, 1) := by decide +kernel
theorem dX6_best_170 : decode cX6_best 170 = .ok (.iaload, 1) := by decide +kernel
theorem dX6_best_171 : decode cX6_best 171 = .ok (.ireturn, 1) := by decide +kernel
theorem dX6_book_0 : decode cX6_book 0 = .ok (.iload_n 1, 1) := by decide +kernel
theorem dX6_book_1 : decode cX6_book 1 = .ok (.iconst (-1), 1) := by decide +kernel
theorem dX6_book_2 : decode cX6_book 2 = .ok (.if_icmp .ne 13, 3) := by decide +kernel
theorem dX6_book_5 : decode cX6_book 5 = .ok (.aload_n 0, 1) := by decide +kernel
theorem dX6_book_6 : decode cX6_book 6 = .ok (.getfield 12, 3) := by decide +kernel
theorem dX6_book_9 : decode cX6_book 9 = .ok (.iconst 0, 1) := by decide +kernel
theorem dX6_book_10 : decode cX6_book 10 = .ok (.putfield 239, 3) := by decide +kernel
theorem dX6_book_13 : decode cX6_book 13 = .ok (.iconst 0, 1) := by decide +kernel
theorem dX6_book_14 : decode cX6_book 14 = .ok (.ireturn, 1) := by decide +kernel
theorem dX6_book_15 : decode cX6_book 15 = .ok (.iload_n 1, 1) := by decide +kernel
theorem dX6_book_16 : decode cX6_book 16 = .ok (.invokestatic 154, 3) := by decide +kernel
theorem dX6_book_19 : decode cX6_book 19 = .ok (.ifCond .ne 6, 3) := by decide +kernel
theorem dX6_book_22 : decode cX6_book 22 = .ok (.bipush (-2), 2) := by decide +kernel
theorem dX6_book_24 : decode cX6_book 24 = .ok (.ireturn, 1) := by decide +kernel
theorem dX6_book_25 : decode cX6_book 25 = .ok (.aload_n 0, 1) := by decide +kernel
theorem dX6_book_26 : decode cX6_book 26 = .ok (.getfield 12, 3) := by decide +kernel
theorem dX6_book_29 : decode cX6_book 29 = .ok (.getfield 239, 3) := by decide +kernel
theorem dX6_book_32 : decode cX6_book 32 = .ok (.bipush 8, 2) := by decide +kernel
theorem dX6_book_34 : decode cX6_book 34 = .ok (.if_icmp .lt 6, 3) := by decide +kernel
theorem dX6_book_37 : decode cX6_book 37 = .ok (.bipush (-4), 2) := by decide +kernel
theorem dX6_book_39 : decode cX6_book 39 = .ok (.ireturn, 1) := by decide +kernel
theorem dX6_book_40 : decode cX6_book 40 = .ok (.aload_n 0, 1) := by decide +kernel
theorem dX6_book_41 : decode cX6_book 41 = .ok (.getfield 12, 3) := by decide +kernel
theorem dX6_book_44 : decode cX6_book 44 = .ok (.getfield 242, 3) := by decide +kernel
theorem dX6_book_47 : decode cX6_book 47 = .ok (.aload_n 0, 1) := by decide +kernel
theorem dX6_book_48 : decode cX6_book 48 = .ok (.getfield 12, 3) := by decide +kernel
theorem dX6_book_51 : decode cX6_book 51 = .ok (.getfield 239, 3) := by decide +kernel
theorem dX6_book_54 : decode cX6_book 54 = .ok (.iload_n 1, 1) := by decide +kernel
theorem dX6_book_55 : decode cX6_book 55 = .ok (.iastore, 1) := by decide +kernel
theorem dX6_book_56 : decode cX6_book 56 = .ok (.aload_n 0, 1) := by decide +kernel
theorem dX6_book_57 : decode cX6_book 57 = .ok (.getfield 12, 3) := by decide +kernel
theorem dX6_book_60 : decode cX6_book 60 = .ok (.dup, 1) := by decide +kernel
theorem dX6_book_61 : decode cX6_book 61 = .ok (.getfield 239, 3) := by decide +kernel
theorem dX6_book_64 : decode cX6_book 64 = .ok (.iconst 1, 1) := by decide +kernel
theorem dX6_book_65 : decode cX6_book 65 = .ok (.iadd, 1) := by decide +kernel
theorem dX6_book_66 : decode cX6_book 66 = .ok (.putfield 239, 3) := by decide +kernel
theorem dX6_book_69 : decode cX6_book 69 = .ok (.aload_n 0, 1) := by decide +kernel
theorem dX6_book_70 : decode cX6_book 70 = .ok (.getfield 12, 3) := by decide +kernel
theorem dX6_book_73 : decode cX6_book 73 = .ok (.getfield 239, 3) := by decide +kernel
theorem dX6_book_76 : decode cX6_book 76 = .ok (.ireturn, 1) := by decide +kernel
theorem dX6_coin_0 : decode cX6_coin 0 = .ok (.iload_n 1, 1) := by decide +kernel
theorem dX6_coin_1 : decode cX6_coin 1 = .ok (.iconst 1, 1) := by decide +kernel
theorem dX6_coin_2 : decode cX6_coin 2 = .ok (.if_icmp .lt 23, 3) := by decide +kernel
theorem dX6_coin_5 : decode cX6_coin 5 = .ok (.iload_n 1, 1) := by decide +kernel
theorem dX6_coin_6 : decode cX6_coin 6 = .ok (.bipush 99, 2) := by decide +kernel
theorem dX6_coin_8 : decode cX6_coin 8 = .ok (.if_icmp .gt 17, 3) := by decide +kernel
theorem dX6_coin_11 : decode cX6_coin 11 = .ok (.iload_n 2, 1) := by decide +kernel
theorem dX6_coin_12 : decode cX6_coin 12 = .ok (.invokestatic 188, 3) := by decide +kernel
theorem dX6_coin_15 : decode cX6_coin 15 = .ok (.ifCond .eq 10, 3) := by decide +kernel
theorem dX6_coin_18 : decode cX6_coin 18 = .ok (.iload_n 3, 1) := by decide +kernel
theorem dX6_coin_19 : decode cX6_coin 19 = .ok (.invokestatic 191, 3) := by decide +kernel
theorem dX6_coin_22 : decode cX6_coin 22 = .ok (.ifCond .ne 7, 3) := by decide +kernel
theorem dX6_coin_25 : decode cX6_coin 25 = .ok (.ldc2_w 194, 3) := by decide +kernel
theorem dX6_coin_28 : decode cX6_coin 28 = .ok (.lreturn, 1) := by decide +kernel
theorem dX6_coin_29 : decode cX6_coin 29 = .ok (.iconst 2, 1) := by decide +kernel
theorem dX6_coin_30 : decode cX6_coin 30 = .ok (.iload_n 2, 1) := by decide +kernel
theorem dX6_coin_31 : decode cX6_coin 31 = .ok (.invokestatic 196, 3) := by decide +kernel
theorem dX6_coin_34 : decode cX6_coin 34 = .ok (.istore 4, 2) := by decide +kernel
theorem dX6_coin_36 : decode cX6_coin 36 = .ok (.iload 4, 2) := by decide +kernel
theorem dX6_coin_38 : decode cX6_coin 38 = .ok (.i2l, 1) := by decide +kernel
theorem dX6_coin_39 : decode cX6_coin 39 = .ok (.iconst 2, 1) := by decide +kernel
theorem dX6_coin_40 : decode cX6_coin 40 = .ok (.iload 4, 2) := by decide +kernel
theorem dX6_coin_42 : decode cX6_coin 42 = .ok (.invokestatic 199, 3) := by decide +kernel
theorem dX6_coin_45 : decode cX6_coin 45 = .ok (.lmul, 1) := by decide +kernel
theorem dX6_coin_46 : decode cX6_coin 46 = .ok (.lstore 5, 2) := by decide +kernel
theorem dX6_coin_48 : decode cX6_coin 48 = .ok (.iload_n 1, 1) := by decide +kernel
theorem dX6_coin_49 : decode cX6_coin 49 = .ok (.bipush 50, 2) := by decide +kernel
theorem dX6_coin_51 : decode cX6_coin 51 = .ok (.if_icmp .ne 12, 3) := by decide +kernel
theorem dX6_coin_54 : decode cX6_coin 54 = .ok (.lload 5, 2) := by decide +kernel
theorem dX6_coin_56 : decode cX6_coin 56 = .ok (.iload_n 2, 1) := by decide +kernel
theorem dX6_coin_57 : decode cX6_coin 57 = .ok (.i2l, 1) := by decide +kernel
theorem dX6_coin_58 : decode cX6_coin 58 = .ok (.iload_n 3, 1) := by decide +kernel
theorem dX6_coin_59 : decode cX6_coin 59 = .ok (.invokestatic 203, 3) := by decide +kernel
theorem dX6_coin_62 : decode cX6_coin 62 = .ok (.lreturn, 1) := by decide +kernel
theorem dX6_coin_63 : decode cX6_coin 63 = .ok (.ldc2_w 207, 3) := by decide +kernel
theorem dX6_coin_66 : decode cX6_coin 66 = .ok (.lload 5, 2) := by decide +kernel
theorem dX6_coin_68 : decode cX6_coin 68 = .ok (.lmul, 1) := by decide +kernel
theorem dX6_coin_69 : decode cX6_coin 69 = .ok (.iload_n 2, 1) := by decide +kernel
theorem dX6_coin_70 : decode cX6_coin 70 = .ok (.i2l, 1) := by decide +kernel
theorem dX6_coin_71 : decode cX6_coin 71 = .ok (.iload_n 1, 1) := by decide +kernel
theorem dX6_coin_72 : decode cX6_coin 72 = .ok (.i2l, 1) := by decide +kernel
theorem dX6_coin_73 : decode cX6_coin 73 = .ok (.lmul, 1) := by decide +kernel
theorem dX6_coin_74 : decode cX6_coin 74 = .ok (.bipush 100, 2) := by decide +kernel
theorem dX6_coin_76 : decode cX6_coin 76 = .ok (.iload_n 1, 1) := by decide +kernel
theorem dX6_coin_77 : decode cX6_coin 77 = .ok (.isub, 1) := by decide +kernel
theorem dX6_coin_78 : decode cX6_coin 78 = .ok (.i2l, 1) := by decide +kernel
theorem dX6_coin_79 : decode cX6_coin 79 = .ok (.lmul, 1) := by decide +kernel
theorem dX6_coin_80 : decode cX6_coin 80 = .ok (.iload_n 3, 1) := by decide +kernel
theorem dX6_coin_81 : decode cX6_coin 81 = .ok (.invokestatic 203, 3) := by decide +kernel
theorem dX6_coin_84 : decode cX6_coin 84 = .ok (.lreturn, 1) := by decide +kernel
theorem dX6_commonDivisor_0 : decode cX6_commonDivisor 0 = .ok (.lload_n 0, 1) := by decide +kernel
theorem dX6_commonDivisor_1 : decode cX6_commonDivisor 1 = .ok (.lstore 4, 2) := by decide +kernel
theorem dX6_commonDivisor_3 : decode cX6_commonDivisor 3 = .ok (.lload_n 2, 1) := by decide +kernel
theorem dX6_commonDivisor_4 : decode cX6_commonDivisor 4 = .ok (.lstore 6, 2) := by decide +kernel
theorem dX6_commonDivisor_6 : decode cX6_commonDivisor 6 = .ok (.iconst 0, 1) := by decide +kernel
theorem dX6_commonDivisor_7 : decode cX6_commonDivisor 7 = .ok (.istore 8, 2) := by decide +kernel
theorem dX6_commonDivisor_9 : decode cX6_commonDivisor 9 = .ok (.iload 8, 2) := by decide +kernel
theorem dX6_commonDivisor_11 : decode cX6_commonDivisor 11 = .ok (.bipush 100, 2) := by decide +kernel
theorem dX6_commonDivisor_13 : decode cX6_commonDivisor 13 = .ok (.if_icmp .ge 31, 3) := by decide +kernel
theorem dX6_commonDivisor_16 : decode cX6_commonDivisor 16 = .ok (.lload 6, 2) := by decide +kernel
theorem dX6_commonDivisor_18 : decode cX6_commonDivisor 18 = .ok (.lconst 0, 1) := by decide +kernel
theorem dX6_commonDivisor_19 : decode cX6_commonDivisor 19 = .ok (.lcmp, 1) := by decide +kernel
theorem dX6_commonDivisor_20 : decode cX6_commonDivisor 20 = .ok (.ifCond .eq 24, 3) := by decide +kernel
theorem dX6_commonDivisor_23 : decode cX6_commonDivisor 23 = .ok (.lload 4, 2) := by decide +kernel
theorem dX6_commonDivisor_25 : decode cX6_commonDivisor 25 = .ok (.lload 6, 2) := by decide +kernel
theorem dX6_commonDivisor_27 : decode cX6_commonDivisor 27 = .ok (.lrem, 1) := by decide +kernel
theorem dX6_commonDivisor_28 : decode cX6_commonDivisor 28 = .ok (.lstore 9, 2) := by decide +kernel
theorem dX6_commonDivisor_30 : decode cX6_commonDivisor 30 = .ok (.lload 6, 2) := by decide +kernel
theorem dX6_commonDivisor_32 : decode cX6_commonDivisor 32 = .ok (.lstore 4, 2) := by decide +kernel
theorem dX6_commonDivisor_34 : decode cX6_commonDivisor 34 = .ok (.lload 9, 2) := by decide +kernel
theorem dX6_commonDivisor_36 : decode cX6_commonDivisor 36 = .ok (.lstore 6, 2) := by decide +kernel
theorem dX6_commonDivisor_38 : decode cX6_commonDivisor 38 = .ok (.iinc 8 1, 3) := by decide +kernel
theorem dX6_commonDivisor_41 : decode cX6_commonDivisor 41 = .ok (.goto (-32), 3) := by decide +kernel
theorem dX6_commonDivisor_44 : decode cX6_commonDivisor 44 = .ok (.lload 4, 2) := by decide +kernel
theorem dX6_commonDivisor_46 : decode cX6_commonDivisor 46 = .ok (.lreturn, 1) := by decide +kernel
theorem dX6_count_0 : decode cX6_count 0 = .ok (.iload_n 1, 1) := by decide +kernel
theorem dX6_count_1 : decode cX6_count 1 = .ok (.tableswitch 84 0 5 #[39, 47, 52, 60, 68, 76], 39) := by decide +kernel
theorem dX6_count_40 : decode cX6_count 40 = .ok (.aload_n 0, 1) := by decide +kernel
theorem dX6_count_41 : decode cX6_count 41 = .ok (.getfield 12, 3) := by decide +kernel
theorem dX6_count_44 : decode cX6_count 44 = .ok (.getfield 66, 3) := by decide +kernel
theorem dX6_count_47 : decode cX6_count 47 = .ok (.ireturn, 1) := by decide +kernel
theorem dX6_count_48 : decode cX6_count 48 = .ok (.aload_n 0, 1) := by decide +kernel
theorem dX6_count_49 : decode cX6_count 49 = .ok (.getfield 48, 3) := by decide +kernel
theorem dX6_count_52 : decode cX6_count 52 = .ok (.ireturn, 1) := by decide +kernel
theorem dX6_count_53 : decode cX6_count 53 = .ok (.aload_n 0, 1) := by decide +kernel
theorem dX6_count_54 : decode cX6_count 54 = .ok (.getfield 12, 3) := by decide +kernel
theorem dX6_count_57 : decode cX6_count 57 = .ok (.getfield 214, 3) := by decide +kernel
theorem dX6_count_60 : decode cX6_count 60 = .ok (.ireturn, 1) := by decide +kernel
theorem dX6_count_61 : decode cX6_count 61 = .ok (.aload_n 0, 1) := by decide +kernel
theorem dX6_count_62 : decode cX6_count 62 = .ok (.getfield 12, 3) := by decide +kernel
theorem dX6_count_65 : decode cX6_count 65 = .ok (.getfield 239, 3) := by decide +kernel
theorem dX6_count_68 : decode cX6_count 68 = .ok (.ireturn, 1) := by decide +kernel
theorem dX6_count_69 : decode cX6_count 69 = .ok (.aload_n 0, 1) := by decide +kernel
theorem dX6_count_70 : decode cX6_count 70 = .ok (.getfield 44, 3) := by decide +kernel
theorem dX6_count_73 : decode cX6_count 73 = .ok (.getfield 123, 3) := by decide +kernel
theorem dX6_count_76 : decode cX6_count 76 = .ok (.ireturn, 1) := by decide +kernel
theorem dX6_count_77 : decode cX6_count 77 = .ok (.aload_n 0, 1) := by decide +kernel
theorem dX6_count_78 : decode cX6_count 78 = .ok (.getfield 55, 3) := by decide +kernel
theorem dX6_count_81 : decode cX6_count 81 = .ok (.getfield 263, 3) := by decide +kernel
theorem dX6_count_84 : decode cX6_count 84 = .ok (.ireturn, 1) := by decide +kernel
theorem dX6_count_85 : decode cX6_count 85 = .ok (.bipush (-2), 2) := by decide +kernel
theorem dX6_count_87 : decode cX6_count 87 = .ok (.ireturn, 1) := by decide +kernel
theorem dX6_dice_0 : decode cX6_dice 0 = .ok (.iload_n 1, 1) := by decide +kernel
theorem dX6_dice_1 : decode cX6_dice 1 = .ok (.iconst 2, 1) := by decide +kernel
theorem dX6_dice_2 : decode cX6_dice 2 = .ok (.if_icmp .lt 23, 3) := by decide +kernel
theorem dX6_dice_5 : decode cX6_dice 5 = .ok (.iload_n 1, 1) := by decide +kernel
theorem dX6_dice_6 : decode cX6_dice 6 = .ok (.bipush 20, 2) := by decide +kernel
theorem dX6_dice_8 : decode cX6_dice 8 = .ok (.if_icmp .gt 17, 3) := by decide +kernel
theorem dX6_dice_11 : decode cX6_dice 11 = .ok (.iload_n 2, 1) := by decide +kernel
theorem dX6_dice_12 : decode cX6_dice 12 = .ok (.invokestatic 188, 3) := by decide +kernel
theorem dX6_dice_15 : decode cX6_dice 15 = .ok (.ifCond .eq 10, 3) := by decide +kernel
theorem dX6_dice_18 : decode cX6_dice 18 = .ok (.iload_n 3, 1) := by decide +kernel
theorem dX6_dice_19 : decode cX6_dice 19 = .ok (.invokestatic 191, 3) := by decide +kernel
theorem dX6_dice_22 : decode cX6_dice 22 = .ok (.ifCond .ne 7, 3) := by decide +kernel
theorem dX6_dice_25 : decode cX6_dice 25 = .ok (.ldc2_w 194, 3) := by decide +kernel
theorem dX6_dice_28 : decode cX6_dice 28 = .ok (.lreturn, 1) := by decide +kernel
theorem dX6_dice_29 : decode cX6_dice 29 = .ok (.iload_n 1, 1) := by decide +kernel
theorem dX6_dice_30 : decode cX6_dice 30 = .ok (.iload_n 2, 1) := by decide +kernel
theorem dX6_dice_31 : decode cX6_dice 31 = .ok (.invokestatic 196, 3) := by decide +kernel
theorem dX6_dice_34 : decode cX6_dice 34 = .ok (.istore 4, 2) := by decide +kernel
theorem dX6_dice_36 : decode cX6_dice 36 = .ok (.iload_n 1, 1) := by decide +kernel
theorem dX6_dice_37 : decode cX6_dice 37 = .ok (.iload 4, 2) := by decide +kernel
theorem dX6_dice_39 : decode cX6_dice 39 = .ok (.invokestatic 199, 3) := by decide +kernel
theorem dX6_dice_42 : decode cX6_dice 42 = .ok (.lstore 5, 2) := by decide +kernel
theorem dX6_dice_44 : decode cX6_dice 44 = .ok (.iload 4, 2) := by decide +kernel
theorem dX6_dice_46 : decode cX6_dice 46 = .ok (.i2l, 1) := by decide +kernel
theorem dX6_dice_47 : decode cX6_dice 47 = .ok (.lload 5, 2) := by decide +kernel
theorem dX6_dice_49 : decode cX6_dice 49 = .ok (.lmul, 1) := by decide +kernel
theorem dX6_dice_50 : decode cX6_dice 50 = .ok (.lload 5, 2) := by decide +kernel
theorem dX6_dice_52 : decode cX6_dice 52 = .ok (.lload 5, 2) := by decide +kernel
theorem dX6_dice_54 : decode cX6_dice 54 = .ok (.iload_n 2, 1) := by decide +kernel
theorem dX6_dice_55 : decode cX6_dice 55 = .ok (.i2l, 1) := by decide +kernel
theorem dX6_dice_56 : decode cX6_dice 56 = .ok (.lrem, 1) := by decide +kernel
theorem dX6_dice_57 : decode cX6_dice 57 = .ok (.lsub, 1) := by decide +kernel
theorem dX6_dice_58 : decode cX6_dice 58 = .ok (.iload_n 3, 1) := by decide +kernel
theorem dX6_dice_59 : decode cX6_dice 59 = .ok (.invokestatic 203, 3) := by decide +kernel
theorem dX6_dice_62 : decode cX6_dice 62 = .ok (.lreturn, 1) := by decide +kernel
theorem dX6_draw_0 : decode cX6_draw 0 = .ok (.iload_n 1, 1) := by decide +kernel
theorem dX6_draw_1 : decode cX6_draw 1 = .ok (.invokestatic 154, 3) := by decide +kernel
theorem dX6_draw_4 : decode cX6_draw 4 = .ok (.ifCond .ne 6, 3) := by decide +kernel
theorem dX6_draw_7 : decode cX6_draw 7 = .ok (.bipush (-2), 2) := by decide +kernel
theorem dX6_draw_9 : decode cX6_draw 9 = .ok (.ireturn, 1) := by decide +kernel
theorem dX6_draw_10 : decode cX6_draw 10 = .ok (.aload_n 0, 1) := by decide +kernel
theorem dX6_draw_11 : decode cX6_draw 11 = .ok (.getfield 12, 3) := by decide +kernel
theorem dX6_draw_14 : decode cX6_draw 14 = .ok (.invokevirtual 150, 3) := by decide +kernel
theorem dX6_draw_17 : decode cX6_draw 17 = .ok (.bipush (-5), 2) := by decide +kernel
theorem dX6_draw_19 : decode cX6_draw 19 = .ok (.if_icmp .eq 16, 3) := by decide +kernel
theorem dX6_draw_22 : decode cX6_draw 22 = .ok (.aload_n 0, 1) := by decide +kernel
theorem dX6_draw_23 : decode cX6_draw 23 = .ok (.getfield 12, 3) := by decide +kernel
theorem dX6_draw_26 : decode cX6_draw 26 = .ok (.getfield 144, 3) := by decide +kernel
theorem dX6_draw_29 : decode cX6_draw 29 = .ok (.sipush 9999, 3) := by decide +kernel
theorem dX6_draw_32 : decode cX6_draw 32 = .ok (.if_icmp .lt 6, 3) := by decide +kernel
theorem dX6_draw_35 : decode cX6_draw 35 = .ok (.bipush (-3), 2) := by decide +kernel
theorem dX6_draw_37 : decode cX6_draw 37 = .ok (.ireturn, 1) := by decide +kernel
theorem dX6_draw_38 : decode cX6_draw 38 = .ok (.aload_n 0, 1) := by decide +kernel
theorem dX6_draw_39 : decode cX6_draw 39 = .ok (.getfield 12, 3) := by decide +kernel
theorem dX6_draw_42 : decode cX6_draw 42 = .ok (.iload_n 1, 1) := by decide +kernel
theorem dX6_draw_43 : decode cX6_draw 43 = .ok (.invokevirtual 157, 3) := by decide +kernel
theorem dX6_draw_46 : decode cX6_draw 46 = .ok (.ireturn, 1) := by decide +kernel
theorem dX6_drawer_0 : decode cX6_drawer 0 = .ok (.iload_n 1, 1) := by decide +kernel
theorem dX6_drawer_1 : decode cX6_drawer 1 = .ok (.ifCond .lt 9, 3) := by decide +kernel
theorem dX6_drawer_4 : decode cX6_drawer 4 = .ok (.iload_n 1, 1) := by decide +kernel
theorem dX6_drawer_5 : decode cX6_drawer 5 = .ok (.bipush 7, 2) := by decide +kernel
theorem dX6_drawer_7 : decode cX6_drawer 7 = .ok (.if_icmp .lt 5, 3) := by decide +kernel
theorem dX6_drawer_10 : decode cX6_drawer 10 = .ok (.iconst (-1), 1) := by decide +kernel
theorem dX6_drawer_11 : decode cX6_drawer 11 = .ok (.ireturn, 1) := by decide +kernel
theorem dX6_drawer_12 : decode cX6_drawer 12 = .ok (.iload_n 2, 1) := by decide +kernel
theorem dX6_drawer_13 : decode cX6_drawer 13 = .ok (.ifCond .lt 9, 3) := by decide +kernel
theorem dX6_drawer_16 : decode cX6_drawer 16 = .ok (.iload_n 2, 1) := by decide +kernel
theorem dX6_drawer_17 : decode cX6_drawer 17 = .ok (.bipush 9, 2) := by decide +kernel
theorem dX6_drawer_19 : decode cX6_drawer 19 = .ok (.if_icmp .le 6, 3) := by decide +kernel
theorem dX6_drawer_22 : decode cX6_drawer 22 = .ok (.bipush (-2), 2) := by decide +kernel
theorem dX6_drawer_24 : decode cX6_drawer 24 = .ok (.ireturn, 1) := by decide +kernel
theorem dX6_drawer_25 : decode cX6_drawer 25 = .ok (.aload_n 0, 1) := by decide +kernel
theorem dX6_drawer_26 : decode cX6_drawer 26 = .ok (.getfield 12, 3) := by decide +kernel
theorem dX6_drawer_29 : decode cX6_drawer 29 = .ok (.getfield 66, 3) := by decide +kernel
theorem dX6_drawer_32 : decode cX6_drawer 32 = .ok (.bipush 6, 2) := by decide +kernel
theorem dX6_drawer_34 : decode cX6_drawer 34 = .ok (.if_icmp .lt 6, 3) := by decide +kernel
theorem dX6_drawer_37 : decode cX6_drawer 37 = .ok (.bipush (-4), 2) := by decide +kernel
theorem dX6_drawer_39 : decode cX6_drawer 39 = .ok (.ireturn, 1) := by decide +kernel
theorem dX6_drawer_40 : decode cX6_drawer 40 = .ok (.aload_n 0, 1) := by decide +kernel
theorem dX6_drawer_41 : decode cX6_drawer 41 = .ok (.getfield 12, 3) := by decide +kernel
theorem dX6_drawer_44 : decode cX6_drawer 44 = .ok (.iload_n 1, 1) := by decide +kernel
theorem dX6_drawer_45 : decode cX6_drawer 45 = .ok (.iload_n 2, 1) := by decide +kernel
theorem dX6_drawer_46 : decode cX6_drawer 46 = .ok (.invokevirtual 69, 3) := by decide +kernel
theorem dX6_drawer_49 : decode cX6_drawer 49 = .ok (.ireturn, 1) := by decide +kernel
theorem dX6_enough_0 : decode cX6_enough 0 = .ok (.aload_n 0, 1) := by decide +kernel
theorem dX6_enough_1 : decode cX6_enough 1 = .ok (.getfield 12, 3) := by decide +kernel
theorem dX6_enough_4 : decode cX6_enough 4 = .ok (.iload_n 1, 1) := by decide +kernel
theorem dX6_enough_5 : decode cX6_enough 5 = .ok (.invokevirtual 73, 3) := by decide +kernel
theorem dX6_enough_8 : decode cX6_enough 8 = .ok (.ifCond .ne 5, 3) := by decide +kernel
theorem dX6_enough_11 : decode cX6_enough 11 = .ok (.iconst (-1), 1) := by decide +kernel
theorem dX6_enough_12 : decode cX6_enough 12 = .ok (.ireturn, 1) := by decide +kernel
theorem dX6_enough_13 : decode cX6_enough 13 = .ok (.iload_n 2, 1) := by decide +kernel
theorem dX6_enough_14 : decode cX6_enough 14 = .ok (.ifCond .lt 9, 3) := by decide +kernel
theorem dX6_enough_17 : decode cX6_enough 17 = .ok (.iload_n 2, 1) := by decide +kernel
theorem dX6_enough_18 : decode cX6_enough 18 = .ok (.ldc 181, 2) := by decide +kernel
theorem dX6_enough_20 : decode cX6_enough 20 = .ok (.if_icmp .le 6, 3) := by decide +kernel
theorem dX6_enough_23 : decode cX6_enough 23 = .ok (.bipush (-2), 2) := by decide +kernel
theorem dX6_enough_25 : decode cX6_enough 25 = .ok (.ireturn, 1) := by decide +kernel
theorem dX6_enough_26 : decode cX6_enough 26 = .ok (.iconst 0, 1) := by decide +kernel
theorem dX6_enough_27 : decode cX6_enough 27 = .ok (.istore_n 3, 1) := by decide +kernel
theorem dX6_enough_28 : decode cX6_enough 28 = .ok (.iload_n 3, 1) := by decide +kernel
theorem dX6_enough_29 : decode cX6_enough 29 = .ok (.bipush 20, 2) := by decide +kernel
theorem dX6_enough_31 : decode cX6_enough 31 = .ok (.if_icmp .gt 38, 3) := by decide +kernel
theorem dX6_enough_34 : decode cX6_enough 34 = .ok (.aload_n 0, 1) := by decide +kernel
theorem dX6_enough_35 : decode cX6_enough 35 = .ok (.getfield 30, 3) := by decide +kernel
theorem dX6_enough_38 : decode cX6_enough 38 = .ok (.iload_n 3, 1) := by decide +kernel
theorem dX6_enough_39 : decode cX6_enough 39 = .ok (.invokevirtual 160, 3) := by decide +kernel
theorem dX6_enough_42 : decode cX6_enough 42 = .ok (.aload_n 0, 1) := by decide +kernel
theorem dX6_enough_43 : decode cX6_enough 43 = .ok (.getfield 30, 3) := by decide +kernel
theorem dX6_enough_46 : decode cX6_enough 46 = .ok (.iload_n 1, 1) := by decide +kernel
theorem dX6_enough_47 : decode cX6_enough 47 = .ok (.aload_n 0, 1) := by decide +kernel
theorem dX6_enough_48 : decode cX6_enough 48 = .ok (.getfield 12, 3) := by decide +kernel
theorem dX6_enough_51 : decode cX6_enough 51 = .ok (.getfield 111, 3) := by decide +kernel
theorem dX6_enough_54 : decode cX6_enough 54 = .ok (.invokevirtual 164, 3) := by decide +kernel
theorem dX6_enough_57 : decode cX6_enough 57 = .ok (.iload_n 2, 1) := by decide +kernel
theorem dX6_enough_58 : decode cX6_enough 58 = .ok (.if_icmp .gt 5, 3) := by decide +kernel
theorem dX6_enough_61 : decode cX6_enough 61 = .ok (.iload_n 3, 1) := by decide +kernel
theorem dX6_enough_62 : decode cX6_enough 62 = .ok (.ireturn, 1) := by decide +kernel
theorem dX6_enough_63 : decode cX6_enough 63 = .ok (.iinc 3 1, 3) := by decide +kernel
theorem dX6_enough_66 : decode cX6_enough 66 = .ok (.goto (-38), 3) := by decide +kernel
theorem dX6_enough_69 : decode cX6_enough 69 = .ok (.bipush (-5), 2) := by decide +kernel
theorem dX6_enough_71 : decode cX6_enough 71 = .ok (.ireturn, 1) := by decide +kernel
theorem dX6_even_0 : decode cX6_even 0 = .ok (.aload_n 0, 1) := by decide +kernel
theorem dX6_even_1 : decode cX6_even 1 = .ok (.getfield 12, 3) := by decide +kernel
theorem dX6_even_4 : decode cX6_even 4 = .ok (.getfield 66, 3) := by decide +kernel
theorem dX6_even_7 : decode cX6_even 7 = .ok (.ifCond .ne 6, 3) := by decide +kernel
theorem dX6_even_10 : decode cX6_even 10 = .ok (.bipush (-5), 2) := by decide +kernel
theorem dX6_even_12 : decode cX6_even 12 = .ok (.ireturn, 1) := by decide +kernel
theorem dX6_even_13 : decode cX6_even 13 = .ok (.aload_n 0, 1) := by decide +kernel
theorem dX6_even_14 : decode cX6_even 14 = .ok (.getfield 30, 3) := by decide +kernel
theorem dX6_even_17 : decode cX6_even 17 = .ok (.iconst 0, 1) := by decide +kernel
theorem dX6_even_18 : decode cX6_even 18 = .ok (.invokevirtual 160, 3) := by decide +kernel
theorem dX6_even_21 : decode cX6_even 21 = .ok (.aload_n 0, 1) := by decide +kernel
theorem dX6_even_22 : decode cX6_even 22 = .ok (.getfield 30, 3) := by decide +kernel
theorem dX6_even_25 : decode cX6_even 25 = .ok (.aload_n 0, 1) := by decide +kernel
theorem dX6_even_26 : decode cX6_even 26 = .ok (.getfield 12, 3) := by decide +kernel
theorem dX6_even_29 : decode cX6_even 29 = .ok (.getfield 111, 3) := by decide +kernel
theorem dX6_even_32 : decode cX6_even 32 = .ok (.invokevirtual 168, 3) := by decide +kernel
theorem dX6_even_35 : decode cX6_even 35 = .ok (.ireturn, 1) := by decide +kernel
theorem dX6_feed_0 : decode cX6_feed 0 = .ok (.iload_n 1, 1) := by decide +kernel
theorem dX6_feed_1 : decode cX6_feed 1 = .ok (.ifCond .lt 9, 3) := by decide +kernel
theorem dX6_feed_4 : decode cX6_feed 4 = .ok (.iload_n 1, 1) := by decide +kernel
theorem dX6_feed_5 : decode cX6_feed 5 = .ok (.bipush 127, 2) := by decide +kernel
theorem dX6_feed_7 : decode cX6_feed 7 = .ok (.if_icmp .le 6, 3) := by decide +kernel
theorem dX6_feed_10 : decode cX6_feed 10 = .ok (.bipush (-2), 2) := by decide +kernel
theorem dX6_feed_12 : decode cX6_feed 12 = .ok (.ireturn, 1) := by decide +kernel
theorem dX6_feed_13 : decode cX6_feed 13 = .ok (.aload_n 0, 1) := by decide +kernel
theorem dX6_feed_14 : decode cX6_feed 14 = .ok (.getfield 44, 3) := by decide +kernel
theorem dX6_feed_17 : decode cX6_feed 17 = .ok (.getfield 123, 3) := by decide +kernel
theorem dX6_feed_20 : decode cX6_feed 20 = .ok (.bipush 100, 2) := by decide +kernel
theorem dX6_feed_22 : decode cX6_feed 22 = .ok (.if_icmp .lt 6, 3) := by decide +kernel
theorem dX6_feed_25 : decode cX6_feed 25 = .ok (.bipush (-4), 2) := by decide +kernel
theorem dX6_feed_27 : decode cX6_feed 27 = .ok (.ireturn, 1) := by decide +kernel
theorem dX6_feed_28 : decode cX6_feed 28 = .ok (.aload_n 0, 1) := by decide +kernel
theorem dX6_feed_29 : decode cX6_feed 29 = .ok (.getfield 44, 3) := by decide +kernel
theorem dX6_feed_32 : decode cX6_feed 32 = .ok (.iload_n 1, 1) := by decide +kernel
theorem dX6_feed_33 : decode cX6_feed 33 = .ok (.invokevirtual 126, 3) := by decide +kernel
theorem dX6_feed_36 : decode cX6_feed 36 = .ok (.ireturn, 1) := by decide +kernel
theorem dX6_firstOrder_0 : decode cX6_firstOrder 0 = .ok (.iconst 0, 1) := by decide +kernel
theorem dX6_firstOrder_1 : decode cX6_firstOrder 1 = .ok (.istore_n 2, 1) := by decide +kernel
theorem dX6_firstOrder_2 : decode cX6_firstOrder 2 = .ok (.iload_n 2, 1) := by decide +kernel
theorem dX6_firstOrder_3 : decode cX6_firstOrder 3 = .ok (.iload_n 1, 1) := by decide +kernel
theorem dX6_firstOrder_4 : decode cX6_firstOrder 4 = .ok (.if_icmp .ge 13, 3) := by decide +kernel
theorem dX6_firstOrder_7 : decode cX6_firstOrder 7 = .ok (.aload_n 0, 1) := by decide +kernel
theorem dX6_firstOrder_8 : decode cX6_firstOrder 8 = .ok (.iload_n 2, 1) := by decide +kernel
theorem dX6_firstOrder_9 : decode cX6_firstOrder 9 = .ok (.iload_n 2, 1) := by decide +kernel
theorem dX6_firstOrder_10 : decode cX6_firstOrder 10 = .ok (.iastore, 1) := by decide +kernel
theorem dX6_firstOrder_11 : decode cX6_firstOrder 11 = .ok (.iinc 2 1, 3) := by decide +kernel
theorem dX6_firstOrder_14 : decode cX6_firstOrder 14 = .ok (.goto (-12), 3) := by decide +kernel
theorem dX6_firstOrder_17 : decode cX6_firstOrder 17 = .ok (.return_, 1) := by decide +kernel
theorem dX6_fits_0 : decode cX6_fits 0 = .ok (.aload_n 0, 1) := by decide +kernel
theorem dX6_fits_1 : decode cX6_fits 1 = .ok (.getfield 12, 3) := by decide +kernel
theorem dX6_fits_4 : decode cX6_fits 4 = .ok (.invokevirtual 182, 3) := by decide +kernel
theorem dX6_fits_7 : decode cX6_fits 7 = .ok (.aload_n 0, 1) := by decide +kernel
theorem dX6_fits_8 : decode cX6_fits 8 = .ok (.getfield 12, 3) := by decide +kernel
theorem dX6_fits_11 : decode cX6_fits 11 = .ok (.invokevirtual 185, 3) := by decide +kernel
theorem dX6_fits_14 : decode cX6_fits 14 = .ok (.iadd, 1) := by decide +kernel
theorem dX6_fits_15 : decode cX6_fits 15 = .ok (.istore_n 1, 1) := by decide +kernel
theorem dX6_fits_16 : decode cX6_fits 16 = .ok (.iconst 0, 1) := by decide +kernel
theorem dX6_fits_17 : decode cX6_fits 17 = .ok (.istore_n 2, 1) := by decide +kernel
theorem dX6_fits_18 : decode cX6_fits 18 = .ok (.iconst 1, 1) := by decide +kernel
theorem dX6_fits_19 : decode cX6_fits 19 = .ok (.istore_n 3, 1) := by decide +kernel
theorem dX6_fits_20 : decode cX6_fits 20 = .ok (.iload_n 3, 1) := by decide +kernel
theorem dX6_fits_21 : decode cX6_fits 21 = .ok (.iconst 3, 1) := by decide +kernel
theorem dX6_fits_22 : decode cX6_fits 22 = .ok (.if_icmp .gt 33, 3) := by decide +kernel
theorem dX6_fits_25 : decode cX6_fits 25 = .ok (.aload_n 0, 1) := by decide +kernel
theorem dX6_fits_26 : decode cX6_fits 26 = .ok (.getfield 12, 3) := by decide +kernel
theorem dX6_fits_29 : decode cX6_fits 29 = .ok (.iload_n 3, 1) := by decide +kernel
theorem dX6_fits_30 : decode cX6_fits 30 = .ok (.iconst 0, 1) := by decide +kernel
theorem dX6_fits_31 : decode cX6_fits 31 = .ok (.iload_n 1, 1) := by decide +kernel
theorem dX6_fits_32 : decode cX6_fits 32 = .ok (.iload_n 3, 1) := by decide +kernel
theorem dX6_fits_33 : decode cX6_fits 33 = .ok (.isub, 1) := by decide +kernel
theorem dX6_fits_34 : decode cX6_fits 34 = .ok (.invokestatic 223, 3) := by decide +kernel
theorem dX6_fits_37 : decode cX6_fits 37 = .ok (.invokevirtual 226, 3) := by decide +kernel
theorem dX6_fits_40 : decode cX6_fits 40 = .ok (.ifCond .eq 9, 3) := by decide +kernel
theorem dX6_fits_43 : decode cX6_fits 43 = .ok (.iload_n 2, 1) := by decide +kernel
theorem dX6_fits_44 : decode cX6_fits 44 = .ok (.iconst 1, 1) := by decide +kernel
theorem dX6_fits_45 : decode cX6_fits 45 = .ok (.iload_n 3, 1) := by decide +kernel
theorem dX6_fits_46 : decode cX6_fits 46 = .ok (.ishl, 1) := by decide +kernel
theorem dX6_fits_47 : decode cX6_fits 47 = .ok (.ior, 1) := by decide +kernel
theorem dX6_fits_48 : decode cX6_fits 48 = .ok (.istore_n 2, 1) := by decide +kernel
theorem dX6_fits_49 : decode cX6_fits 49 = .ok (.iinc 3 1, 3) := by decide +kernel
theorem dX6_fits_52 : decode cX6_fits 52 = .ok (.goto (-32), 3) := by decide +kernel
theorem dX6_fits_55 : decode cX6_fits 55 = .ok (.iload_n 2, 1) := by decide +kernel
theorem dX6_fits_56 : decode cX6_fits 56 = .ok (.ireturn, 1) := by decide +kernel
theorem dX6_isChosen_0 : decode cX6_isChosen 0 = .ok (.iload_n 0, 1) := by decide +kernel
theorem dX6_isChosen_1 : decode cX6_isChosen 1 = .ok (.iconst 1, 1) := by decide +kernel
theorem dX6_isChosen_2 : decode cX6_isChosen 2 = .ok (.if_icmp .lt 13, 3) := by decide +kernel
theorem dX6_isChosen_5 : decode cX6_isChosen 5 = .ok (.iload_n 0, 1) := by decide +kernel
theorem dX6_isChosen_6 : decode cX6_isChosen 6 = .ok (.bipush 16, 2) := by decide +kernel
theorem dX6_isChosen_8 : decode cX6_isChosen 8 = .ok (.if_icmp .gt 7, 3) := by decide +kernel
theorem dX6_isChosen_11 : decode cX6_isChosen 11 = .ok (.iconst 1, 1) := by decide +kernel
theorem dX6_isChosen_12 : decode cX6_isChosen 12 = .ok (.goto 4, 3) := by decide +kernel
theorem dX6_isChosen_15 : decode cX6_isChosen 15 = .ok (.iconst 0, 1) := by decide +kernel
theorem dX6_isChosen_16 : decode cX6_isChosen 16 = .ok (.ireturn, 1) := by decide +kernel
theorem dX6_isDrawNumber_0 : decode cX6_isDrawNumber 0 = .ok (.iload_n 0, 1) := by decide +kernel
theorem dX6_isDrawNumber_1 : decode cX6_isDrawNumber 1 = .ok (.ifCond .lt 13, 3) := by decide +kernel
theorem dX6_isDrawNumber_4 : decode cX6_isDrawNumber 4 = .ok (.iload_n 0, 1) := by decide +kernel
theorem dX6_isDrawNumber_5 : decode cX6_isDrawNumber 5 = .ok (.ldc 181, 2) := by decide +kernel
theorem dX6_isDrawNumber_7 : decode cX6_isDrawNumber 7 = .ok (.if_icmp .ge 7, 3) := by decide +kernel
theorem dX6_isDrawNumber_10 : decode cX6_isDrawNumber 10 = .ok (.iconst 1, 1) := by decide +kernel
theorem dX6_isDrawNumber_11 : decode cX6_isDrawNumber 11 = .ok (.goto 4, 3) := by decide +kernel
theorem dX6_isDrawNumber_14 : decode cX6_isDrawNumber 14 = .ok (.iconst 0, 1) := by decide +kernel
theorem dX6_isDrawNumber_15 : decode cX6_isDrawNumber 15 = .ok (.ireturn, 1) := by decide +kernel
theorem dX6_isKindOf_0 : decode cX6_isKindOf 0 = .ok (.iload_n 0, 1) := by decide +kernel
theorem dX6_isKindOf_1 : decode cX6_isKindOf 1 = .ok (.istore_n 2, 1) := by decide +kernel
theorem dX6_isKindOf_2 : decode cX6_isKindOf 2 = .ok (.iconst 0, 1) := by decide +kernel
theorem dX6_isKindOf_3 : decode cX6_isKindOf 3 = .ok (.istore_n 3, 1) := by decide +kernel
theorem dX6_isKindOf_4 : decode cX6_isKindOf 4 = .ok (.iload_n 3, 1) := by decide +kernel
theorem dX6_isKindOf_5 : decode cX6_isKindOf 5 = .ok (.bipush 7, 2) := by decide +kernel
theorem dX6_isKindOf_7 : decode cX6_isKindOf 7 = .ok (.if_icmp .ge 26, 3) := by decide +kernel
theorem dX6_isKindOf_10 : decode cX6_isKindOf 10 = .ok (.iload_n 2, 1) := by decide +kernel
theorem dX6_isKindOf_11 : decode cX6_isKindOf 11 = .ok (.ifCond .lt 22, 3) := by decide +kernel
theorem dX6_isKindOf_14 : decode cX6_isKindOf 14 = .ok (.iload_n 2, 1) := by decide +kernel
theorem dX6_isKindOf_15 : decode cX6_isKindOf 15 = .ok (.iload_n 1, 1) := by decide +kernel
theorem dX6_isKindOf_16 : decode cX6_isKindOf 16 = .ok (.if_icmp .ne 5, 3) := by decide +kernel
theorem dX6_isKindOf_19 : decode cX6_isKindOf 19 = .ok (.iconst 1, 1) := by decide +kernel
theorem dX6_isKindOf_20 : decode cX6_isKindOf 20 = .ok (.ireturn, 1) := by decide +kernel
theorem dX6_isKindOf_21 : decode cX6_isKindOf 21 = .ok (.getstatic 285, 3) := by decide +kernel
theorem dX6_isKindOf_24 : decode cX6_isKindOf 24 = .ok (.iload_n 2, 1) := by decide +kernel
theorem dX6_isKindOf_25 : decode cX6_isKindOf 25 = .ok (.iaload, 1) := by decide +kernel
theorem dX6_isKindOf_26 : decode cX6_isKindOf 26 = .ok (.istore_n 2, 1) := by decide +kernel
theorem dX6_isKindOf_27 : decode cX6_isKindOf 27 = .ok (.iinc 3 1, 3) := by decide +kernel
theorem dX6_isKindOf_30 : decode cX6_isKindOf 30 = .ok (.goto (-26), 3) := by decide +kernel
theorem dX6_isKindOf_33 : decode cX6_isKindOf 33 = .ok (.iconst 0, 1) := by decide +kernel
theorem dX6_isKindOf_34 : decode cX6_isKindOf 34 = .ok (.ireturn, 1) := by decide +kernel
theorem dX6_isPart_0 : decode cX6_isPart 0 = .ok (.iload_n 0, 1) := by decide +kernel
theorem dX6_isPart_1 : decode cX6_isPart 1 = .ok (.ifCond .eq 8, 3) := by decide +kernel
theorem dX6_isPart_4 : decode cX6_isPart 4 = .ok (.iload_n 0, 1) := by decide +kernel
theorem dX6_isPart_5 : decode cX6_isPart 5 = .ok (.iconst 1, 1) := by decide +kernel
theorem dX6_isPart_6 : decode cX6_isPart 6 = .ok (.if_icmp .ne 7, 3) := by decide +kernel
theorem dX6_isPart_9 : decode cX6_isPart 9 = .ok (.iconst 1, 1) := by decide +kernel
theorem dX6_isPart_10 : decode cX6_isPart 10 = .ok (.goto 4, 3) := by decide +kernel
theorem dX6_isPart_13 : decode cX6_isPart 13 = .ok (.iconst 0, 1) := by decide +kernel
theorem dX6_isPart_14 : decode cX6_isPart 14 = .ok (.ireturn, 1) := by decide +kernel
theorem dX6_item_0 : decode cX6_item 0 = .ok (.aload_n 0, 1) := by decide +kernel
theorem dX6_item_1 : decode cX6_item 1 = .ok (.iload_n 1, 1) := by decide +kernel
theorem dX6_item_2 : decode cX6_item 2 = .ok (.invokevirtual 248, 3) := by decide +kernel
theorem dX6_item_5 : decode cX6_item 5 = .ok (.astore 5, 2) := by decide +kernel
theorem dX6_item_7 : decode cX6_item 7 = .ok (.aload 5, 2) := by decide +kernel
theorem dX6_item_9 : decode cX6_item 9 = .ok (.ifnonnull 5, 3) := by decide +kernel
theorem dX6_item_12 : decode cX6_item 12 = .ok (.iconst (-1), 1) := by decide +kernel
theorem dX6_item_13 : decode cX6_item 13 = .ok (.ireturn, 1) := by decide +kernel
theorem dX6_item_14 : decode cX6_item 14 = .ok (.aload 5, 2) := by decide +kernel
theorem dX6_item_16 : decode cX6_item 16 = .ok (.getfield 252, 3) := by decide +kernel
theorem dX6_item_19 : decode cX6_item 19 = .ok (.iconst (-1), 1) := by decide +kernel
theorem dX6_item_20 : decode cX6_item 20 = .ok (.if_icmp .ne 6, 3) := by decide +kernel
theorem dX6_item_23 : decode cX6_item 23 = .ok (.bipush (-11), 2) := by decide +kernel
theorem dX6_item_25 : decode cX6_item 25 = .ok (.ireturn, 1) := by decide +kernel
theorem dX6_item_26 : decode cX6_item 26 = .ok (.aload 5, 2) := by decide +kernel
theorem dX6_item_28 : decode cX6_item 28 = .ok (.iload_n 2, 1) := by decide +kernel
theorem dX6_item_29 : decode cX6_item 29 = .ok (.invokevirtual 255, 3) := by decide +kernel
theorem dX6_item_32 : decode cX6_item 32 = .ok (.ifCond .ne 6, 3) := by decide +kernel
theorem dX6_item_35 : decode cX6_item 35 = .ok (.bipush (-13), 2) := by decide +kernel
theorem dX6_item_37 : decode cX6_item 37 = .ok (.ireturn, 1) := by decide +kernel
theorem dX6_item_38 : decode cX6_item 38 = .ok (.aload 5, 2) := by decide +kernel
theorem dX6_item_40 : decode cX6_item 40 = .ok (.getfield 256, 3) := by decide +kernel
theorem dX6_item_43 : decode cX6_item 43 = .ok (.iload_n 2, 1) := by decide +kernel
theorem dX6_item_44 : decode cX6_item 44 = .ok (.aload 5, 2) := by decide +kernel
theorem dX6_item_46 : decode cX6_item 46 = .ok (.lload_n 3, 1) := by decide +kernel
theorem dX6_item_47 : decode cX6_item 47 = .ok (.invokevirtual 278, 3) := by decide +kernel
theorem dX6_item_50 : decode cX6_item 50 = .ok (.lastore, 1) := by decide +kernel
theorem dX6_item_51 : decode cX6_item 51 = .ok (.iconst 1, 1) := by decide +kernel
theorem dX6_item_52 : decode cX6_item 52 = .ok (.ireturn, 1) := by decide +kernel
theorem dX6_judge_0 : decode cX6_judge 0 = .ok (.aload_n 0, 1) := by decide +kernel
theorem dX6_judge_1 : decode cX6_judge 1 = .ok (.iload_n 1, 1) := by decide +kernel
theorem dX6_judge_2 : decode cX6_judge 2 = .ok (.invokevirtual 248, 3) := by decide +kernel
theorem dX6_judge_5 : decode cX6_judge 5 = .ok (.astore_n 3, 1) := by decide +kernel
theorem dX6_judge_6 : decode cX6_judge 6 = .ok (.aload_n 3, 1) := by decide +kernel
theorem dX6_judge_7 : decode cX6_judge 7 = .ok (.ifnonnull 5, 3) := by decide +kernel
theorem dX6_judge_10 : decode cX6_judge 10 = .ok (.iconst (-1), 1) := by decide +kernel
theorem dX6_judge_11 : decode cX6_judge 11 = .ok (.ireturn, 1) := by decide +kernel
theorem dX6_judge_12 : decode cX6_judge 12 = .ok (.aload_n 3, 1) := by decide +kernel
theorem dX6_judge_13 : decode cX6_judge 13 = .ok (.getfield 252, 3) := by decide +kernel
theorem dX6_judge_16 : decode cX6_judge 16 = .ok (.iconst (-1), 1) := by decide +kernel
theorem dX6_judge_17 : decode cX6_judge 17 = .ok (.if_icmp .eq 14, 3) := by decide +kernel
theorem dX6_judge_20 : decode cX6_judge 20 = .ok (.aload_n 3, 1) := by decide +kernel
theorem dX6_judge_21 : decode cX6_judge 21 = .ok (.getfield 252, 3) := by decide +kernel
theorem dX6_judge_24 : decode cX6_judge 24 = .ok (.iconst 2, 1) := by decide +kernel
theorem dX6_judge_25 : decode cX6_judge 25 = .ok (.if_icmp .eq 6, 3) := by decide +kernel
theorem dX6_judge_28 : decode cX6_judge 28 = .ok (.bipush (-12), 2) := by decide +kernel
theorem dX6_judge_30 : decode cX6_judge 30 = .ok (.ireturn, 1) := by decide +kernel
theorem dX6_judge_31 : decode cX6_judge 31 = .ok (.iconst 0, 1) := by decide +kernel
theorem dX6_judge_32 : decode cX6_judge 32 = .ok (.istore 4, 2) := by decide +kernel
theorem dX6_judge_34 : decode cX6_judge 34 = .ok (.iload 4, 2) := by decide +kernel
theorem dX6_judge_36 : decode cX6_judge 36 = .ok (.aload_n 0, 1) := by decide +kernel
theorem dX6_judge_37 : decode cX6_judge 37 = .ok (.getfield 12, 3) := by decide +kernel
theorem dX6_judge_40 : decode cX6_judge 40 = .ok (.getfield 66, 3) := by decide +kernel
theorem dX6_judge_43 : decode cX6_judge 43 = .ok (.if_icmp .ge 53, 3) := by decide +kernel
theorem dX6_judge_46 : decode cX6_judge 46 = .ok (.aload_n 3, 1) := by decide +kernel
theorem dX6_judge_47 : decode cX6_judge 47 = .ok (.iload_n 2, 1) := by decide +kernel
theorem dX6_judge_48 : decode cX6_judge 48 = .ok (.iload 4, 2) := by decide +kernel
theorem dX6_judge_50 : decode cX6_judge 50 = .ok (.iadd, 1) := by decide +kernel
theorem dX6_judge_51 : decode cX6_judge 51 = .ok (.invokevirtual 255, 3) := by decide +kernel
theorem dX6_judge_54 : decode cX6_judge 54 = .ok (.ifCond .ne 9, 3) := by decide +kernel
theorem dX6_judge_57 : decode cX6_judge 57 = .ok (.bipush 100, 2) := by decide +kernel
theorem dX6_judge_59 : decode cX6_judge 59 = .ok (.iload 4, 2) := by decide +kernel
theorem dX6_judge_61 : decode cX6_judge 61 = .ok (.iadd, 1) := by decide +kernel
theorem dX6_judge_62 : decode cX6_judge 62 = .ok (.ireturn, 1) := by decide +kernel
theorem dX6_judge_63 : decode cX6_judge 63 = .ok (.aload_n 3, 1) := by decide +kernel
theorem dX6_judge_64 : decode cX6_judge 64 = .ok (.getfield 256, 3) := by decide +kernel
theorem dX6_judge_67 : decode cX6_judge 67 = .ok (.iload_n 2, 1) := by decide +kernel
theorem dX6_judge_68 : decode cX6_judge 68 = .ok (.iload 4, 2) := by decide +kernel
theorem dX6_judge_70 : decode cX6_judge 70 = .ok (.iadd, 1) := by decide +kernel
theorem dX6_judge_71 : decode cX6_judge 71 = .ok (.laload, 1) := by decide +kernel
theorem dX6_judge_72 : decode cX6_judge 72 = .ok (.aload_n 0, 1) := by decide +kernel
theorem dX6_judge_73 : decode cX6_judge 73 = .ok (.getfield 12, 3) := by decide +kernel
theorem dX6_judge_76 : decode cX6_judge 76 = .ok (.getfield 87, 3) := by decide +kernel
theorem dX6_judge_79 : decode cX6_judge 79 = .ok (.iload 4, 2) := by decide +kernel
theorem dX6_judge_81 : decode cX6_judge 81 = .ok (.iaload, 1) := by decide +kernel
theorem dX6_judge_82 : decode cX6_judge 82 = .ok (.i2l, 1) := by decide +kernel
theorem dX6_judge_83 : decode cX6_judge 83 = .ok (.lcmp, 1) := by decide +kernel
theorem dX6_judge_84 : decode cX6_judge 84 = .ok (.ifCond .eq 6, 3) := by decide +kernel
theorem dX6_judge_87 : decode cX6_judge 87 = .ok (.iload 4, 2) := by decide +kernel
theorem dX6_judge_89 : decode cX6_judge 89 = .ok (.ireturn, 1) := by decide +kernel
theorem dX6_judge_90 : decode cX6_judge 90 = .ok (.iinc 4 1, 3) := by decide +kernel
theorem dX6_judge_93 : decode cX6_judge 93 = .ok (.goto (-59), 3) := by decide +kernel
theorem dX6_judge_96 : decode cX6_judge 96 = .ok (.bipush (-5), 2) := by decide +kernel
theorem dX6_judge_98 : decode cX6_judge 98 = .ok (.ireturn, 1) := by decide +kernel
theorem dX6_leans_0 : decode cX6_leans 0 = .ok (.aload_n 0, 1) := by decide +kernel
theorem dX6_leans_1 : decode cX6_leans 1 = .ok (.getfield 12, 3) := by decide +kernel
theorem dX6_leans_4 : decode cX6_leans 4 = .ok (.invokevirtual 182, 3) := by decide +kernel
theorem dX6_leans_7 : decode cX6_leans 7 = .ok (.istore_n 1, 1) := by decide +kernel
theorem dX6_leans_8 : decode cX6_leans 8 = .ok (.aload_n 0, 1) := by decide +kernel
theorem dX6_leans_9 : decode cX6_leans 9 = .ok (.getfield 12, 3) := by decide +kernel
theorem dX6_leans_12 : decode cX6_leans 12 = .ok (.invokevirtual 185, 3) := by decide +kernel
theorem dX6_leans_15 : decode cX6_leans 15 = .ok (.istore_n 2, 1) := by decide +kernel
theorem dX6_leans_16 : decode cX6_leans 16 = .ok (.bipush (-5), 2) := by decide +kernel
theorem dX6_leans_18 : decode cX6_leans 18 = .ok (.istore_n 3, 1) := by decide +kernel
theorem dX6_leans_19 : decode cX6_leans 19 = .ok (.iconst (-1), 1) := by decide +kernel
theorem dX6_leans_20 : decode cX6_leans 20 = .ok (.istore 4, 2) := by decide +kernel
theorem dX6_leans_22 : decode cX6_leans 22 = .ok (.iconst 0, 1) := by decide +kernel
theorem dX6_leans_23 : decode cX6_leans 23 = .ok (.istore 5, 2) := by decide +kernel
theorem dX6_leans_25 : decode cX6_leans 25 = .ok (.iload 5, 2) := by decide +kernel
theorem dX6_leans_27 : decode cX6_leans 27 = .ok (.aload_n 0, 1) := by decide +kernel
theorem dX6_leans_28 : decode cX6_leans 28 = .ok (.getfield 12, 3) := by decide +kernel
theorem dX6_leans_31 : decode cX6_leans 31 = .ok (.getfield 66, 3) := by decide +kernel
theorem dX6_leans_34 : decode cX6_leans 34 = .ok (.if_icmp .ge 37, 3) := by decide +kernel
theorem dX6_leans_37 : decode cX6_leans 37 = .ok (.aload_n 0, 1) := by decide +kernel
theorem dX6_leans_38 : decode cX6_leans 38 = .ok (.getfield 12, 3) := by decide +kernel
theorem dX6_leans_41 : decode cX6_leans 41 = .ok (.iload 5, 2) := by decide +kernel
theorem dX6_leans_43 : decode cX6_leans 43 = .ok (.iconst 0, 1) := by decide +kernel
theorem dX6_leans_44 : decode cX6_leans 44 = .ok (.iload_n 1, 1) := by decide +kernel
theorem dX6_leans_45 : decode cX6_leans 45 = .ok (.iload_n 2, 1) := by decide +kernel
theorem dX6_leans_46 : decode cX6_leans 46 = .ok (.invokevirtual 96, 3) := by decide +kernel
theorem dX6_leans_49 : decode cX6_leans 49 = .ok (.istore 6, 2) := by decide +kernel
theorem dX6_leans_51 : decode cX6_leans 51 = .ok (.iload 6, 2) := by decide +kernel
theorem dX6_leans_53 : decode cX6_leans 53 = .ok (.iload 4, 2) := by decide +kernel
theorem dX6_leans_55 : decode cX6_leans 55 = .ok (.if_icmp .le 10, 3) := by decide +kernel
theorem dX6_leans_58 : decode cX6_leans 58 = .ok (.iload 6, 2) := by decide +kernel
theorem dX6_leans_60 : decode cX6_leans 60 = .ok (.istore 4, 2) := by decide +kernel
theorem dX6_leans_62 : decode cX6_leans 62 = .ok (.iload 5, 2) := by decide +kernel
theorem dX6_leans_64 : decode cX6_leans 64 = .ok (.istore_n 3, 1) := by decide +kernel
theorem dX6_leans_65 : decode cX6_leans 65 = .ok (.iinc 5 1, 3) := by decide +kernel
theorem dX6_leans_68 : decode cX6_leans 68 = .ok (.goto (-43), 3) := by decide +kernel
theorem dX6_leans_71 : decode cX6_leans 71 = .ok (.iload_n 3, 1) := by decide +kernel
theorem dX6_leans_72 : decode cX6_leans 72 = .ok (.ireturn, 1) := by decide +kernel
theorem dX6_likely_0 : decode cX6_likely 0 = .ok (.aload_n 0, 1) := by decide +kernel
theorem dX6_likely_1 : decode cX6_likely 1 = .ok (.getfield 12, 3) := by decide +kernel
theorem dX6_likely_4 : decode cX6_likely 4 = .ok (.iload_n 1, 1) := by decide +kernel
theorem dX6_likely_5 : decode cX6_likely 5 = .ok (.invokevirtual 73, 3) := by decide +kernel
theorem dX6_likely_8 : decode cX6_likely 8 = .ok (.ifCond .ne 5, 3) := by decide +kernel
theorem dX6_likely_11 : decode cX6_likely 11 = .ok (.iconst (-1), 1) := by decide +kernel
theorem dX6_likely_12 : decode cX6_likely 12 = .ok (.ireturn, 1) := by decide +kernel
theorem dX6_likely_13 : decode cX6_likely 13 = .ok (.aload_n 0, 1) := by decide +kernel
theorem dX6_likely_14 : decode cX6_likely 14 = .ok (.getfield 30, 3) := by decide +kernel
theorem dX6_likely_17 : decode cX6_likely 17 = .ok (.iconst 0, 1) := by decide +kernel
theorem dX6_likely_18 : decode cX6_likely 18 = .ok (.invokevirtual 160, 3) := by decide +kernel
theorem dX6_likely_21 : decode cX6_likely 21 = .ok (.aload_n 0, 1) := by decide +kernel
theorem dX6_likely_22 : decode cX6_likely 22 = .ok (.getfield 30, 3) := by decide +kernel
theorem dX6_likely_25 : decode cX6_likely 25 = .ok (.iload_n 1, 1) := by decide +kernel
theorem dX6_likely_26 : decode cX6_likely 26 = .ok (.aload_n 0, 1) := by decide +kernel
theorem dX6_likely_27 : decode cX6_likely 27 = .ok (.getfield 12, 3) := by decide +kernel
theorem dX6_likely_30 : decode cX6_likely 30 = .ok (.getfield 111, 3) := by decide +kernel
theorem dX6_likely_33 : decode cX6_likely 33 = .ok (.invokevirtual 164, 3) := by decide +kernel
theorem dX6_likely_36 : decode cX6_likely 36 = .ok (.ireturn, 1) := by decide +kernel
theorem dX6_looked_0 : decode cX6_looked 0 = .ok (.aload_n 0, 1) := by decide +kernel
theorem dX6_looked_1 : decode cX6_looked 1 = .ok (.getfield 12, 3) := by decide +kernel
theorem dX6_looked_4 : decode cX6_looked 4 = .ok (.invokevirtual 245, 3) := by decide +kernel
theorem dX6_looked_7 : decode cX6_looked 7 = .ok (.ireturn, 1) := by decide +kernel
theorem dX6_lowest_0 : decode cX6_lowest 0 = .ok (.lload_n 0, 1) := by decide +kernel
theorem dX6_lowest_1 : decode cX6_lowest 1 = .ok (.lload_n 2, 1) := by decide +kernel
theorem dX6_lowest_2 : decode cX6_lowest 2 = .ok (.invokestatic 288, 3) := by decide +kernel
theorem dX6_lowest_5 : decode cX6_lowest 5 = .ok (.lstore 5, 2) := by decide +kernel
theorem dX6_lowest_7 : decode cX6_lowest 7 = .ok (.lload 5, 2) := by decide +kernel
theorem dX6_lowest_9 : decode cX6_lowest 9 = .ok (.lconst 0, 1) := by decide +kernel
theorem dX6_lowest_10 : decode cX6_lowest 10 = .ok (.lcmp, 1) := by decide +kernel
theorem dX6_lowest_11 : decode cX6_lowest 11 = .ok (.ifCond .gt 7, 3) := by decide +kernel
theorem dX6_lowest_14 : decode cX6_lowest 14 = .ok (.ldc2_w 194, 3) := by decide +kernel
theorem dX6_lowest_17 : decode cX6_lowest 17 = .ok (.lreturn, 1) := by decide +kernel
theorem dX6_lowest_18 : decode cX6_lowest 18 = .ok (.iload 4, 2) := by decide +kernel
theorem dX6_lowest_20 : decode cX6_lowest 20 = .ok (.ifCond .ne 7, 3) := by decide +kernel
theorem dX6_lowest_23 : decode cX6_lowest 23 = .ok (.lload_n 0, 1) := by decide +kernel
theorem dX6_lowest_24 : decode cX6_lowest 24 = .ok (.goto 4, 3) := by decide +kernel
theorem dX6_lowest_27 : decode cX6_lowest 27 = .ok (.lload_n 2, 1) := by decide +kernel
theorem dX6_lowest_28 : decode cX6_lowest 28 = .ok (.lload 5, 2) := by decide +kernel
theorem dX6_lowest_30 : decode cX6_lowest 30 = .ok (.ldiv, 1) := by decide +kernel
theorem dX6_lowest_31 : decode cX6_lowest 31 = .ok (.lreturn, 1) := by decide +kernel
theorem dX6_mean_0 : decode cX6_mean 0 = .ok (.iload_n 1, 1) := by decide +kernel
theorem dX6_mean_1 : decode cX6_mean 1 = .ok (.invokestatic 191, 3) := by decide +kernel
theorem dX6_mean_4 : decode cX6_mean 4 = .ok (.ifCond .eq 13, 3) := by decide +kernel
theorem dX6_mean_7 : decode cX6_mean 7 = .ok (.aload_n 0, 1) := by decide +kernel
theorem dX6_mean_8 : decode cX6_mean 8 = .ok (.getfield 12, 3) := by decide +kernel
theorem dX6_mean_11 : decode cX6_mean 11 = .ok (.getfield 66, 3) := by decide +kernel
theorem dX6_mean_14 : decode cX6_mean 14 = .ok (.ifCond .ne 7, 3) := by decide +kernel
theorem dX6_mean_17 : decode cX6_mean 17 = .ok (.ldc2_w 194, 3) := by decide +kernel
theorem dX6_mean_20 : decode cX6_mean 20 = .ok (.lreturn, 1) := by decide +kernel
theorem dX6_mean_21 : decode cX6_mean 21 = .ok (.aload_n 0, 1) := by decide +kernel
theorem dX6_mean_22 : decode cX6_mean 22 = .ok (.getfield 30, 3) := by decide +kernel
theorem dX6_mean_25 : decode cX6_mean 25 = .ok (.iconst 0, 1) := by decide +kernel
theorem dX6_mean_26 : decode cX6_mean 26 = .ok (.invokevirtual 160, 3) := by decide +kernel
theorem dX6_mean_29 : decode cX6_mean 29 = .ok (.aload_n 0, 1) := by decide +kernel
theorem dX6_mean_30 : decode cX6_mean 30 = .ok (.getfield 30, 3) := by decide +kernel
theorem dX6_mean_33 : decode cX6_mean 33 = .ok (.aload_n 0, 1) := by decide +kernel
theorem dX6_mean_34 : decode cX6_mean 34 = .ok (.getfield 12, 3) := by decide +kernel
theorem dX6_mean_37 : decode cX6_mean 37 = .ok (.getfield 111, 3) := by decide +kernel
theorem dX6_mean_40 : decode cX6_mean 40 = .ok (.invokevirtual 232, 3) := by decide +kernel
theorem dX6_mean_43 : decode cX6_mean 43 = .ok (.lconst 0, 1) := by decide +kernel
theorem dX6_mean_44 : decode cX6_mean 44 = .ok (.lstore_n 2, 1) := by decide +kernel
theorem dX6_mean_45 : decode cX6_mean 45 = .ok (.iconst 0, 1) := by decide +kernel
theorem dX6_mean_46 : decode cX6_mean 46 = .ok (.istore 4, 2) := by decide +kernel
theorem dX6_mean_48 : decode cX6_mean 48 = .ok (.iload 4, 2) := by decide +kernel
theorem dX6_mean_50 : decode cX6_mean 50 = .ok (.aload_n 0, 1) := by decide +kernel
theorem dX6_mean_51 : decode cX6_mean 51 = .ok (.getfield 12, 3) := by decide +kernel
theorem dX6_mean_54 : decode cX6_mean 54 = .ok (.getfield 66, 3) := by decide +kernel
theorem dX6_mean_57 : decode cX6_mean 57 = .ok (.if_icmp .ge 23, 3) := by decide +kernel
theorem dX6_mean_60 : decode cX6_mean 60 = .ok (.lload_n 2, 1) := by decide +kernel
theorem dX6_mean_61 : decode cX6_mean 61 = .ok (.aload_n 0, 1) := by decide +kernel
theorem dX6_mean_62 : decode cX6_mean 62 = .ok (.getfield 30, 3) := by decide +kernel
theorem dX6_mean_65 : decode cX6_mean 65 = .ok (.getfield 236, 3) := by decide +kernel
theorem dX6_mean_68 : decode cX6_mean 68 = .ok (.iload 4, 2) := by decide +kernel
theorem dX6_mean_70 : decode cX6_mean 70 = .ok (.iaload, 1) := by decide +kernel
theorem dX6_mean_71 : decode cX6_mean 71 = .ok (.i2l, 1) := by decide +kernel
theorem dX6_mean_72 : decode cX6_mean 72 = .ok (.ladd, 1) := by decide +kernel
theorem dX6_mean_73 : decode cX6_mean 73 = .ok (.lstore_n 2, 1) := by decide +kernel
theorem dX6_mean_74 : decode cX6_mean 74 = .ok (.iinc 4 1, 3) := by decide +kernel
theorem dX6_mean_77 : decode cX6_mean 77 = .ok (.goto (-29), 3) := by decide +kernel
theorem dX6_mean_80 : decode cX6_mean 80 = .ok (.lload_n 2, 1) := by decide +kernel
theorem dX6_mean_81 : decode cX6_mean 81 = .ok (.ldc2_w 230, 3) := by decide +kernel
theorem dX6_mean_84 : decode cX6_mean 84 = .ok (.iload_n 1, 1) := by decide +kernel
theorem dX6_mean_85 : decode cX6_mean 85 = .ok (.invokestatic 203, 3) := by decide +kernel
theorem dX6_mean_88 : decode cX6_mean 88 = .ok (.lreturn, 1) := by decide +kernel
theorem dX6_most_0 : decode cX6_most 0 = .ok (.iload_n 1, 1) := by decide +kernel
theorem dX6_most_1 : decode cX6_most 1 = .ok (.ifCond .lt 8, 3) := by decide +kernel
theorem dX6_most_4 : decode cX6_most 4 = .ok (.iload_n 1, 1) := by decide +kernel
theorem dX6_most_5 : decode cX6_most 5 = .ok (.iconst 1, 1) := by decide +kernel
theorem dX6_most_6 : decode cX6_most 6 = .ok (.if_icmp .le 5, 3) := by decide +kernel
theorem dX6_most_9 : decode cX6_most 9 = .ok (.iconst (-1), 1) := by decide +kernel
theorem dX6_most_10 : decode cX6_most 10 = .ok (.ireturn, 1) := by decide +kernel
theorem dX6_most_11 : decode cX6_most 11 = .ok (.aload_n 0, 1) := by decide +kernel
theorem dX6_most_12 : decode cX6_most 12 = .ok (.getfield 12, 3) := by decide +kernel
theorem dX6_most_15 : decode cX6_most 15 = .ok (.getfield 66, 3) := by decide +kernel
theorem dX6_most_18 : decode cX6_most 18 = .ok (.ifCond .ne 6, 3) := by decide +kernel
theorem dX6_most_21 : decode cX6_most 21 = .ok (.bipush (-5), 2) := by decide +kernel
theorem dX6_most_23 : decode cX6_most 23 = .ok (.ireturn, 1) := by decide +kernel
theorem dX6_most_24 : decode cX6_most 24 = .ok (.iconst 0, 1) := by decide +kernel
theorem dX6_most_25 : decode cX6_most 25 = .ok (.istore_n 2, 1) := by decide +kernel
theorem dX6_most_26 : decode cX6_most 26 = .ok (.aload_n 0, 1) := by decide +kernel
theorem dX6_most_27 : decode cX6_most 27 = .ok (.getfield 12, 3) := by decide +kernel
theorem dX6_most_30 : decode cX6_most 30 = .ok (.getfield 87, 3) := by decide +kernel
theorem dX6_most_33 : decode cX6_most 33 = .ok (.iconst 0, 1) := by decide +kernel
theorem dX6_most_34 : decode cX6_most 34 = .ok (.iaload, 1) := by decide +kernel
theorem dX6_most_35 : decode cX6_most 35 = .ok (.istore_n 3, 1) := by decide +kernel
theorem dX6_most_36 : decode cX6_most 36 = .ok (.iconst 1, 1) := by decide +kernel
theorem dX6_most_37 : decode cX6_most 37 = .ok (.istore 4, 2) := by decide +kernel
theorem dX6_most_39 : decode cX6_most 39 = .ok (.iload 4, 2) := by decide +kernel
theorem dX6_most_41 : decode cX6_most 41 = .ok (.aload_n 0, 1) := by decide +kernel
theorem dX6_most_42 : decode cX6_most 42 = .ok (.getfield 12, 3) := by decide +kernel
theorem dX6_most_45 : decode cX6_most 45 = .ok (.getfield 66, 3) := by decide +kernel
theorem dX6_most_48 : decode cX6_most 48 = .ok (.if_icmp .ge 49, 3) := by decide +kernel
theorem dX6_most_51 : decode cX6_most 51 = .ok (.iload_n 3, 1) := by decide +kernel
theorem dX6_most_52 : decode cX6_most 52 = .ok (.aload_n 0, 1) := by decide +kernel
theorem dX6_most_53 : decode cX6_most 53 = .ok (.getfield 12, 3) := by decide +kernel
theorem dX6_most_56 : decode cX6_most 56 = .ok (.getfield 87, 3) := by decide +kernel
theorem dX6_most_59 : decode cX6_most 59 = .ok (.iload 4, 2) := by decide +kernel
theorem dX6_most_61 : decode cX6_most 61 = .ok (.iaload, 1) := by decide +kernel
theorem dX6_most_62 : decode cX6_most 62 = .ok (.invokestatic 209, 3) := by decide +kernel
theorem dX6_most_65 : decode cX6_most 65 = .ok (.istore_n 3, 1) := by decide +kernel
theorem dX6_most_66 : decode cX6_most 66 = .ok (.aload_n 0, 1) := by decide +kernel
theorem dX6_most_67 : decode cX6_most 67 = .ok (.getfield 12, 3) := by decide +kernel
theorem dX6_most_70 : decode cX6_most 70 = .ok (.getfield 87, 3) := by decide +kernel
theorem dX6_most_73 : decode cX6_most 73 = .ok (.iload 4, 2) := by decide +kernel
theorem dX6_most_75 : decode cX6_most 75 = .ok (.iaload, 1) := by decide +kernel
theorem dX6_most_76 : decode cX6_most 76 = .ok (.aload_n 0, 1) := by decide +kernel
theorem dX6_most_77 : decode cX6_most 77 = .ok (.getfield 12, 3) := by decide +kernel
theorem dX6_most_80 : decode cX6_most 80 = .ok (.getfield 87, 3) := by decide +kernel
theorem dX6_most_83 : decode cX6_most 83 = .ok (.iload_n 2, 1) := by decide +kernel
theorem dX6_most_84 : decode cX6_most 84 = .ok (.iaload, 1) := by decide +kernel
theorem dX6_most_85 : decode cX6_most 85 = .ok (.if_icmp .le 6, 3) := by decide +kernel
theorem dX6_most_88 : decode cX6_most 88 = .ok (.iload 4, 2) := by decide +kernel
theorem dX6_most_90 : decode cX6_most 90 = .ok (.istore_n 2, 1) := by decide +kernel
theorem dX6_most_91 : decode cX6_most 91 = .ok (.iinc 4 1, 3) := by decide +kernel
theorem dX6_most_94 : decode cX6_most 94 = .ok (.goto (-55), 3) := by decide +kernel
theorem dX6_most_97 : decode cX6_most 97 = .ok (.iload_n 1, 1) := by decide +kernel
theorem dX6_most_98 : decode cX6_most 98 = .ok (.ifCond .ne 7, 3) := by decide +kernel
theorem dX6_most_101 : decode cX6_most 101 = .ok (.iload_n 2, 1) := by decide +kernel
theorem dX6_most_102 : decode cX6_most 102 = .ok (.goto 14, 3) := by decide +kernel
theorem dX6_most_105 : decode cX6_most 105 = .ok (.aload_n 0, 1) := by decide +kernel
theorem dX6_most_106 : decode cX6_most 106 = .ok (.getfield 12, 3) := by decide +kernel
theorem dX6_most_109 : decode cX6_most 109 = .ok (.getfield 87, 3) := by decide +kernel
theorem dX6_most_112 : decode cX6_most 112 = .ok (.iload_n 2, 1) := by decide +kernel
theorem dX6_most_113 : decode cX6_most 113 = .ok (.iaload, 1) := by decide +kernel
theorem dX6_most_114 : decode cX6_most 114 = .ok (.iload_n 3, 1) := by decide +kernel
theorem dX6_most_115 : decode cX6_most 115 = .ok (.isub, 1) := by decide +kernel
theorem dX6_most_116 : decode cX6_most 116 = .ok (.ireturn, 1) := by decide +kernel
theorem dX6_odds_0 : decode cX6_odds 0 = .ok (.aload_n 0, 1) := by decide +kernel
theorem dX6_odds_1 : decode cX6_odds 1 = .ok (.getfield 12, 3) := by decide +kernel
theorem dX6_odds_4 : decode cX6_odds 4 = .ok (.iload_n 1, 1) := by decide +kernel
theorem dX6_odds_5 : decode cX6_odds 5 = .ok (.invokevirtual 73, 3) := by decide +kernel
theorem dX6_odds_8 : decode cX6_odds 8 = .ok (.ifCond .eq 10, 3) := by decide +kernel
theorem dX6_odds_11 : decode cX6_odds 11 = .ok (.iload_n 2, 1) := by decide +kernel
theorem dX6_odds_12 : decode cX6_odds 12 = .ok (.invokestatic 191, 3) := by decide +kernel
theorem dX6_odds_15 : decode cX6_odds 15 = .ok (.ifCond .ne 7, 3) := by decide +kernel
theorem dX6_odds_18 : decode cX6_odds 18 = .ok (.ldc2_w 194, 3) := by decide +kernel
theorem dX6_odds_21 : decode cX6_odds 21 = .ok (.lreturn, 1) := by decide +kernel
theorem dX6_odds_22 : decode cX6_odds 22 = .ok (.aload_n 0, 1) := by decide +kernel
theorem dX6_odds_23 : decode cX6_odds 23 = .ok (.getfield 30, 3) := by decide +kernel
theorem dX6_odds_26 : decode cX6_odds 26 = .ok (.iconst 0, 1) := by decide +kernel
theorem dX6_odds_27 : decode cX6_odds 27 = .ok (.invokevirtual 160, 3) := by decide +kernel
theorem dX6_odds_30 : decode cX6_odds 30 = .ok (.aload_n 0, 1) := by decide +kernel
theorem dX6_odds_31 : decode cX6_odds 31 = .ok (.getfield 30, 3) := by decide +kernel
theorem dX6_odds_34 : decode cX6_odds 34 = .ok (.iload_n 1, 1) := by decide +kernel
theorem dX6_odds_35 : decode cX6_odds 35 = .ok (.aload_n 0, 1) := by decide +kernel
theorem dX6_odds_36 : decode cX6_odds 36 = .ok (.getfield 12, 3) := by decide +kernel
theorem dX6_odds_39 : decode cX6_odds 39 = .ok (.getfield 111, 3) := by decide +kernel
theorem dX6_odds_42 : decode cX6_odds 42 = .ok (.invokevirtual 164, 3) := by decide +kernel
theorem dX6_odds_45 : decode cX6_odds 45 = .ok (.i2l, 1) := by decide +kernel
theorem dX6_odds_46 : decode cX6_odds 46 = .ok (.ldc2_w 230, 3) := by decide +kernel
theorem dX6_odds_49 : decode cX6_odds 49 = .ok (.iload_n 2, 1) := by decide +kernel
theorem dX6_odds_50 : decode cX6_odds 50 = .ok (.invokestatic 203, 3) := by decide +kernel
theorem dX6_odds_53 : decode cX6_odds 53 = .ok (.lreturn, 1) := by decide +kernel
theorem dX6_of_0 : decode cX6_of 0 = .ok (.aload_n 0, 1) := by decide +kernel
theorem dX6_of_1 : decode cX6_of 1 = .ok (.getfield 12, 3) := by decide +kernel
theorem dX6_of_4 : decode cX6_of 4 = .ok (.iload_n 1, 1) := by decide +kernel
theorem dX6_of_5 : decode cX6_of 5 = .ok (.invokevirtual 73, 3) := by decide +kernel
theorem dX6_of_8 : decode cX6_of 8 = .ok (.ifCond .ne 5, 3) := by decide +kernel
theorem dX6_of_11 : decode cX6_of 11 = .ok (.iconst (-1), 1) := by decide +kernel
theorem dX6_of_12 : decode cX6_of 12 = .ok (.ireturn, 1) := by decide +kernel
theorem dX6_of_13 : decode cX6_of 13 = .ok (.aload_n 0, 1) := by decide +kernel
theorem dX6_of_14 : decode cX6_of 14 = .ok (.getfield 12, 3) := by decide +kernel
theorem dX6_of_17 : decode cX6_of 17 = .ok (.iload_n 1, 1) := by decide +kernel
theorem dX6_of_18 : decode cX6_of 18 = .ok (.invokevirtual 77, 3) := by decide +kernel
theorem dX6_of_21 : decode cX6_of 21 = .ok (.istore_n 3, 1) := by decide +kernel
theorem dX6_of_22 : decode cX6_of 22 = .ok (.iload_n 2, 1) := by decide +kernel
theorem dX6_of_23 : decode cX6_of 23 = .ok (.tableswitch 117 0 5 #[37, 47, 57, 67, 69, 93], 37) := by decide +kernel
theorem dX6_of_60 : decode cX6_of 60 = .ok (.aload_n 0, 1) := by decide +kernel
theorem dX6_of_61 : decode cX6_of 61 = .ok (.getfield 12, 3) := by decide +kernel
theorem dX6_of_64 : decode cX6_of 64 = .ok (.getfield 81, 3) := by decide +kernel
theorem dX6_of_67 : decode cX6_of 67 = .ok (.iload_n 1, 1) := by decide +kernel
theorem dX6_of_68 : decode cX6_of 68 = .ok (.iaload, 1) := by decide +kernel
theorem dX6_of_69 : decode cX6_of 69 = .ok (.ireturn, 1) := by decide +kernel
theorem dX6_of_70 : decode cX6_of 70 = .ok (.aload_n 0, 1) := by decide +kernel
theorem dX6_of_71 : decode cX6_of 71 = .ok (.getfield 12, 3) := by decide +kernel
theorem dX6_of_74 : decode cX6_of 74 = .ok (.getfield 84, 3) := by decide +kernel
theorem dX6_of_77 : decode cX6_of 77 = .ok (.iload_n 1, 1) := by decide +kernel
theorem dX6_of_78 : decode cX6_of 78 = .ok (.iaload, 1) := by decide +kernel
theorem dX6_of_79 : decode cX6_of 79 = .ok (.ireturn, 1) := by decide +kernel
theorem dX6_of_80 : decode cX6_of 80 = .ok (.aload_n 0, 1) := by decide +kernel
theorem dX6_of_81 : decode cX6_of 81 = .ok (.getfield 12, 3) := by decide +kernel
theorem dX6_of_84 : decode cX6_of 84 = .ok (.getfield 87, 3) := by decide +kernel
theorem dX6_of_87 : decode cX6_of 87 = .ok (.iload_n 1, 1) := by decide +kernel
theorem dX6_of_88 : decode cX6_of 88 = .ok (.iaload, 1) := by decide +kernel
theorem dX6_of_89 : decode cX6_of 89 = .ok (.ireturn, 1) := by decide +kernel
theorem dX6_of_90 : decode cX6_of 90 = .ok (.iload_n 3, 1) := by decide +kernel
theorem dX6_of_91 : decode cX6_of 91 = .ok (.ireturn, 1) := by decide +kernel
theorem dX6_of_92 : decode cX6_of 92 = .ok (.aload_n 0, 1) := by decide +kernel
theorem dX6_of_93 : decode cX6_of 93 = .ok (.getfield 12, 3) := by decide +kernel
theorem dX6_of_96 : decode cX6_of 96 = .ok (.iload_n 1, 1) := by decide +kernel
theorem dX6_of_97 : decode cX6_of 97 = .ok (.iload_n 3, 1) := by decide +kernel
theorem dX6_of_98 : decode cX6_of 98 = .ok (.aload_n 0, 1) := by decide +kernel
theorem dX6_of_99 : decode cX6_of 99 = .ok (.getfield 12, 3) := by decide +kernel
theorem dX6_of_102 : decode cX6_of 102 = .ok (.getfield 90, 3) := by decide +kernel
theorem dX6_of_105 : decode cX6_of 105 = .ok (.aload_n 0, 1) := by decide +kernel
theorem dX6_of_106 : decode cX6_of 106 = .ok (.getfield 12, 3) := by decide +kernel
theorem dX6_of_109 : decode cX6_of 109 = .ok (.getfield 93, 3) := by decide +kernel
theorem dX6_of_112 : decode cX6_of 112 = .ok (.invokevirtual 96, 3) := by decide +kernel
theorem dX6_of_115 : decode cX6_of 115 = .ok (.ireturn, 1) := by decide +kernel
theorem dX6_of_116 : decode cX6_of 116 = .ok (.aload_n 0, 1) := by decide +kernel
theorem dX6_of_117 : decode cX6_of 117 = .ok (.getfield 12, 3) := by decide +kernel
theorem dX6_of_120 : decode cX6_of 120 = .ok (.iload_n 1, 1) := by decide +kernel
theorem dX6_of_121 : decode cX6_of 121 = .ok (.iload_n 3, 1) := by decide +kernel
theorem dX6_of_122 : decode cX6_of 122 = .ok (.aload_n 0, 1) := by decide +kernel
theorem dX6_of_123 : decode cX6_of 123 = .ok (.getfield 12, 3) := by decide +kernel
theorem dX6_of_126 : decode cX6_of 126 = .ok (.getfield 90, 3) := by decide +kernel
theorem dX6_of_129 : decode cX6_of 129 = .ok (.aload_n 0, 1) := by decide +kernel
theorem dX6_of_130 : decode cX6_of 130 = .ok (.getfield 12, 3) := by decide +kernel
theorem dX6_of_133 : decode cX6_of 133 = .ok (.getfield 93, 3) := by decide +kernel
theorem dX6_of_136 : decode cX6_of 136 = .ok (.invokevirtual 100, 3) := by decide +kernel
theorem dX6_of_139 : decode cX6_of 139 = .ok (.ireturn, 1) := by decide +kernel
theorem dX6_of_140 : decode cX6_of 140 = .ok (.iconst (-1), 1) := by decide +kernel
theorem dX6_of_141 : decode cX6_of 141 = .ok (.ireturn, 1) := by decide +kernel
theorem dX6_place_0 : decode cX6_place 0 = .ok (.aload_n 0, 1) := by decide +kernel
theorem dX6_place_1 : decode cX6_place 1 = .ok (.getfield 12, 3) := by decide +kernel
theorem dX6_place_4 : decode cX6_place 4 = .ok (.iload_n 1, 1) := by decide +kernel
theorem dX6_place_5 : decode cX6_place 5 = .ok (.invokevirtual 73, 3) := by decide +kernel
theorem dX6_place_8 : decode cX6_place 8 = .ok (.ifCond .eq 14, 3) := by decide +kernel
theorem dX6_place_11 : decode cX6_place 11 = .ok (.aload_n 0, 1) := by decide +kernel
theorem dX6_place_12 : decode cX6_place 12 = .ok (.getfield 12, 3) := by decide +kernel
theorem dX6_place_15 : decode cX6_place 15 = .ok (.iload_n 2, 1) := by decide +kernel
theorem dX6_place_16 : decode cX6_place 16 = .ok (.invokevirtual 73, 3) := by decide +kernel
theorem dX6_place_19 : decode cX6_place 19 = .ok (.ifCond .ne 5, 3) := by decide +kernel
theorem dX6_place_22 : decode cX6_place 22 = .ok (.iconst (-1), 1) := by decide +kernel
theorem dX6_place_23 : decode cX6_place 23 = .ok (.ireturn, 1) := by decide +kernel
theorem dX6_place_24 : decode cX6_place 24 = .ok (.aload_n 0, 1) := by decide +kernel
theorem dX6_place_25 : decode cX6_place 25 = .ok (.getfield 12, 3) := by decide +kernel
theorem dX6_place_28 : decode cX6_place 28 = .ok (.iload_n 1, 1) := by decide +kernel
theorem dX6_place_29 : decode cX6_place 29 = .ok (.invokevirtual 77, 3) := by decide +kernel
theorem dX6_place_32 : decode cX6_place 32 = .ok (.istore_n 3, 1) := by decide +kernel
theorem dX6_place_33 : decode cX6_place 33 = .ok (.aload_n 0, 1) := by decide +kernel
theorem dX6_place_34 : decode cX6_place 34 = .ok (.getfield 12, 3) := by decide +kernel
theorem dX6_place_37 : decode cX6_place 37 = .ok (.iload_n 1, 1) := by decide +kernel
theorem dX6_place_38 : decode cX6_place 38 = .ok (.iload_n 2, 1) := by decide +kernel
theorem dX6_place_39 : decode cX6_place 39 = .ok (.aload_n 0, 1) := by decide +kernel
theorem dX6_place_40 : decode cX6_place 40 = .ok (.getfield 34, 3) := by decide +kernel
theorem dX6_place_43 : decode cX6_place 43 = .ok (.invokevirtual 107, 3) := by decide +kernel
theorem dX6_place_46 : decode cX6_place 46 = .ok (.aload_n 0, 1) := by decide +kernel
theorem dX6_place_47 : decode cX6_place 47 = .ok (.getfield 34, 3) := by decide +kernel
theorem dX6_place_50 : decode cX6_place 50 = .ok (.iconst 0, 1) := by decide +kernel
theorem dX6_place_51 : decode cX6_place 51 = .ok (.aload_n 0, 1) := by decide +kernel
theorem dX6_place_52 : decode cX6_place 52 = .ok (.getfield 12, 3) := by decide +kernel
theorem dX6_place_55 : decode cX6_place 55 = .ok (.getfield 111, 3) := by decide +kernel
theorem dX6_place_58 : decode cX6_place 58 = .ok (.iconst 0, 1) := by decide +kernel
theorem dX6_place_59 : decode cX6_place 59 = .ok (.aload_n 0, 1) := by decide +kernel
theorem dX6_place_60 : decode cX6_place 60 = .ok (.getfield 12, 3) := by decide +kernel
theorem dX6_place_63 : decode cX6_place 63 = .ok (.getfield 66, 3) := by decide +kernel
theorem dX6_place_66 : decode cX6_place 66 = .ok (.invokestatic 114, 3) := by decide +kernel
theorem dX6_place_69 : decode cX6_place 69 = .ok (.aload_n 0, 1) := by decide +kernel
theorem dX6_place_70 : decode cX6_place 70 = .ok (.getfield 12, 3) := by decide +kernel
theorem dX6_place_73 : decode cX6_place 73 = .ok (.invokevirtual 120, 3) := by decide +kernel
theorem dX6_place_76 : decode cX6_place 76 = .ok (.iload_n 3, 1) := by decide +kernel
theorem dX6_place_77 : decode cX6_place 77 = .ok (.ireturn, 1) := by decide +kernel
theorem dX6_power_0 : decode cX6_power 0 = .ok (.lconst 1, 1) := by decide +kernel
theorem dX6_power_1 : decode cX6_power 1 = .ok (.lstore_n 2, 1) := by decide +kernel
theorem dX6_power_2 : decode cX6_power 2 = .ok (.iconst 0, 1) := by decide +kernel
theorem dX6_power_3 : decode cX6_power 3 = .ok (.istore 4, 2) := by decide +kernel
theorem dX6_power_5 : decode cX6_power 5 = .ok (.iload 4, 2) := by decide +kernel
theorem dX6_power_7 : decode cX6_power 7 = .ok (.iload_n 1, 1) := by decide +kernel
theorem dX6_power_8 : decode cX6_power 8 = .ok (.if_icmp .ge 14, 3) := by decide +kernel
theorem dX6_power_11 : decode cX6_power 11 = .ok (.lload_n 2, 1) := by decide +kernel
theorem dX6_power_12 : decode cX6_power 12 = .ok (.iload_n 0, 1) := by decide +kernel
theorem dX6_power_13 : decode cX6_power 13 = .ok (.i2l, 1) := by decide +kernel
theorem dX6_power_14 : decode cX6_power 14 = .ok (.lmul, 1) := by decide +kernel
theorem dX6_power_15 : decode cX6_power 15 = .ok (.lstore_n 2, 1) := by decide +kernel
theorem dX6_power_16 : decode cX6_power 16 = .ok (.iinc 4 1, 3) := by decide +kernel
theorem dX6_power_19 : decode cX6_power 19 = .ok (.goto (-14), 3) := by decide +kernel
theorem dX6_power_22 : decode cX6_power 22 = .ok (.lload_n 2, 1) := by decide +kernel
theorem dX6_power_23 : decode cX6_power 23 = .ok (.lreturn, 1) := by decide +kernel
theorem dX6_read_0 : decode cX6_read 0 = .ok (.aload_n 0, 1) := by decide +kernel
theorem dX6_read_1 : decode cX6_read 1 = .ok (.iload_n 1, 1) := by decide +kernel
theorem dX6_read_2 : decode cX6_read 2 = .ok (.invokevirtual 248, 3) := by decide +kernel
theorem dX6_read_5 : decode cX6_read 5 = .ok (.astore_n 3, 1) := by decide +kernel
theorem dX6_read_6 : decode cX6_read 6 = .ok (.aload_n 3, 1) := by decide +kernel
theorem dX6_read_7 : decode cX6_read 7 = .ok (.ifnull 11, 3) := by decide +kernel
theorem dX6_read_10 : decode cX6_read 10 = .ok (.aload_n 3, 1) := by decide +kernel
theorem dX6_read_11 : decode cX6_read 11 = .ok (.iload_n 2, 1) := by decide +kernel
theorem dX6_read_12 : decode cX6_read 12 = .ok (.invokevirtual 255, 3) := by decide +kernel
theorem dX6_read_15 : decode cX6_read 15 = .ok (.ifCond .ne 9, 3) := by decide +kernel
theorem dX6_read_18 : decode cX6_read 18 = .ok (.ldc2_w 194, 3) := by decide +kernel
theorem dX6_read_21 : decode cX6_read 21 = .ok (.goto 9, 3) := by decide +kernel
theorem dX6_read_24 : decode cX6_read 24 = .ok (.aload_n 3, 1) := by decide +kernel
theorem dX6_read_25 : decode cX6_read 25 = .ok (.getfield 256, 3) := by decide +kernel
theorem dX6_read_28 : decode cX6_read 28 = .ok (.iload_n 2, 1) := by decide +kernel
theorem dX6_read_29 : decode cX6_read 29 = .ok (.laload, 1) := by decide +kernel
theorem dX6_read_30 : decode cX6_read 30 = .ok (.lreturn, 1) := by decide +kernel
theorem dX6_row_0 : decode cX6_row 0 = .ok (.aload_n 0, 1) := by decide +kernel
theorem dX6_row_1 : decode cX6_row 1 = .ok (.getfield 12, 3) := by decide +kernel
theorem dX6_row_4 : decode cX6_row 4 = .ok (.iload_n 1, 1) := by decide +kernel
theorem dX6_row_5 : decode cX6_row 5 = .ok (.invokevirtual 73, 3) := by decide +kernel
theorem dX6_row_8 : decode cX6_row 8 = .ok (.ifCond .eq 12, 3) := by decide +kernel
theorem dX6_row_11 : decode cX6_row 11 = .ok (.iload_n 2, 1) := by decide +kernel
theorem dX6_row_12 : decode cX6_row 12 = .ok (.ifCond .lt 8, 3) := by decide +kernel
theorem dX6_row_15 : decode cX6_row 15 = .ok (.iload_n 2, 1) := by decide +kernel
theorem dX6_row_16 : decode cX6_row 16 = .ok (.iconst 4, 1) := by decide +kernel
theorem dX6_row_17 : decode cX6_row 17 = .ok (.if_icmp .lt 5, 3) := by decide +kernel
theorem dX6_row_20 : decode cX6_row 20 = .ok (.iconst (-1), 1) := by decide +kernel
theorem dX6_row_21 : decode cX6_row 21 = .ok (.ireturn, 1) := by decide +kernel
theorem dX6_row_22 : decode cX6_row 22 = .ok (.iload_n 3, 1) := by decide +kernel
theorem dX6_row_23 : decode cX6_row 23 = .ok (.ifCond .lt 9, 3) := by decide +kernel
theorem dX6_row_26 : decode cX6_row 26 = .ok (.iload_n 3, 1) := by decide +kernel
theorem dX6_row_27 : decode cX6_row 27 = .ok (.bipush 9, 2) := by decide +kernel
theorem dX6_row_29 : decode cX6_row 29 = .ok (.if_icmp .le 6, 3) := by decide +kernel
theorem dX6_row_32 : decode cX6_row 32 = .ok (.bipush (-2), 2) := by decide +kernel
theorem dX6_row_34 : decode cX6_row 34 = .ok (.ireturn, 1) := by decide +kernel
theorem dX6_row_35 : decode cX6_row 35 = .ok (.aload_n 0, 1) := by decide +kernel
theorem dX6_row_36 : decode cX6_row 36 = .ok (.getfield 12, 3) := by decide +kernel
theorem dX6_row_39 : decode cX6_row 39 = .ok (.getfield 81, 3) := by decide +kernel
theorem dX6_row_42 : decode cX6_row 42 = .ok (.iload_n 1, 1) := by decide +kernel
theorem dX6_row_43 : decode cX6_row 43 = .ok (.iaload, 1) := by decide +kernel
theorem dX6_row_44 : decode cX6_row 44 = .ok (.bipush 6, 2) := by decide +kernel
theorem dX6_row_46 : decode cX6_row 46 = .ok (.if_icmp .eq 6, 3) := by decide +kernel
theorem dX6_row_49 : decode cX6_row 49 = .ok (.bipush (-3), 2) := by decide +kernel
theorem dX6_row_51 : decode cX6_row 51 = .ok (.ireturn, 1) := by decide +kernel
theorem dX6_row_52 : decode cX6_row 52 = .ok (.aload_n 0, 1) := by decide +kernel
theorem dX6_row_53 : decode cX6_row 53 = .ok (.getfield 12, 3) := by decide +kernel
theorem dX6_row_56 : decode cX6_row 56 = .ok (.getfield 103, 3) := by decide +kernel
theorem dX6_row_59 : decode cX6_row 59 = .ok (.iload_n 1, 1) := by decide +kernel
theorem dX6_row_60 : decode cX6_row 60 = .ok (.aaload, 1) := by decide +kernel
theorem dX6_row_61 : decode cX6_row 61 = .ok (.iload_n 2, 1) := by decide +kernel
theorem dX6_row_62 : decode cX6_row 62 = .ok (.iaload, 1) := by decide +kernel
theorem dX6_row_63 : decode cX6_row 63 = .ok (.istore 4, 2) := by decide +kernel
theorem dX6_row_65 : decode cX6_row 65 = .ok (.aload_n 0, 1) := by decide +kernel
theorem dX6_row_66 : decode cX6_row 66 = .ok (.getfield 12, 3) := by decide +kernel
theorem dX6_row_69 : decode cX6_row 69 = .ok (.getfield 103, 3) := by decide +kernel
theorem dX6_row_72 : decode cX6_row 72 = .ok (.iload_n 1, 1) := by decide +kernel
theorem dX6_row_73 : decode cX6_row 73 = .ok (.aaload, 1) := by decide +kernel
theorem dX6_row_74 : decode cX6_row 74 = .ok (.iload_n 2, 1) := by decide +kernel
theorem dX6_row_75 : decode cX6_row 75 = .ok (.iload_n 3, 1) := by decide +kernel
theorem dX6_row_76 : decode cX6_row 76 = .ok (.iastore, 1) := by decide +kernel
theorem dX6_row_77 : decode cX6_row 77 = .ok (.iload 4, 2) := by decide +kernel
theorem dX6_row_79 : decode cX6_row 79 = .ok (.ireturn, 1) := by decide +kernel
theorem dX6_safest_0 : decode cX6_safest 0 = .ok (.aload_n 0, 1) := by decide +kernel
theorem dX6_safest_1 : decode cX6_safest 1 = .ok (.getfield 12, 3) := by decide +kernel
theorem dX6_safest_4 : decode cX6_safest 4 = .ok (.iload_n 1, 1) := by decide +kernel
theorem dX6_safest_5 : decode cX6_safest 5 = .ok (.invokevirtual 73, 3) := by decide +kernel
theorem dX6_safest_8 : decode cX6_safest 8 = .ok (.ifCond .eq 12, 3) := by decide +kernel
theorem dX6_safest_11 : decode cX6_safest 11 = .ok (.iload_n 2, 1) := by decide +kernel
theorem dX6_safest_12 : decode cX6_safest 12 = .ok (.ifCond .lt 8, 3) := by decide +kernel
theorem dX6_safest_15 : decode cX6_safest 15 = .ok (.iload_n 2, 1) := by decide +kernel
theorem dX6_safest_16 : decode cX6_safest 16 = .ok (.iconst 1, 1) := by decide +kernel
theorem dX6_safest_17 : decode cX6_safest 17 = .ok (.if_icmp .le 5, 3) := by decide +kernel
theorem dX6_safest_20 : decode cX6_safest 20 = .ok (.iconst (-1), 1) := by decide +kernel
theorem dX6_safest_21 : decode cX6_safest 21 = .ok (.ireturn, 1) := by decide +kernel
theorem dX6_safest_22 : decode cX6_safest 22 = .ok (.aload_n 0, 1) := by decide +kernel
theorem dX6_safest_23 : decode cX6_safest 23 = .ok (.getfield 30, 3) := by decide +kernel
theorem dX6_safest_26 : decode cX6_safest 26 = .ok (.iconst 0, 1) := by decide +kernel
theorem dX6_safest_27 : decode cX6_safest 27 = .ok (.invokevirtual 160, 3) := by decide +kernel
theorem dX6_safest_30 : decode cX6_safest 30 = .ok (.iconst 0, 1) := by decide +kernel
theorem dX6_safest_31 : decode cX6_safest 31 = .ok (.istore_n 3, 1) := by decide +kernel
theorem dX6_safest_32 : decode cX6_safest 32 = .ok (.ldc 176, 2) := by decide +kernel
theorem dX6_safest_34 : decode cX6_safest 34 = .ok (.istore 4, 2) := by decide +kernel
theorem dX6_safest_36 : decode cX6_safest 36 = .ok (.iconst 0, 1) := by decide +kernel
theorem dX6_safest_37 : decode cX6_safest 37 = .ok (.istore 5, 2) := by decide +kernel
theorem dX6_safest_39 : decode cX6_safest 39 = .ok (.iload 5, 2) := by decide +kernel
theorem dX6_safest_41 : decode cX6_safest 41 = .ok (.aload_n 0, 1) := by decide +kernel
theorem dX6_safest_42 : decode cX6_safest 42 = .ok (.getfield 12, 3) := by decide +kernel
theorem dX6_safest_45 : decode cX6_safest 45 = .ok (.getfield 66, 3) := by decide +kernel
theorem dX6_safest_48 : decode cX6_safest 48 = .ok (.if_icmp .ge 51, 3) := by decide +kernel
theorem dX6_safest_51 : decode cX6_safest 51 = .ok (.aload_n 0, 1) := by decide +kernel
theorem dX6_safest_52 : decode cX6_safest 52 = .ok (.getfield 12, 3) := by decide +kernel
theorem dX6_safest_55 : decode cX6_safest 55 = .ok (.iload_n 1, 1) := by decide +kernel
theorem dX6_safest_56 : decode cX6_safest 56 = .ok (.iload 5, 2) := by decide +kernel
theorem dX6_safest_58 : decode cX6_safest 58 = .ok (.aload_n 0, 1) := by decide +kernel
theorem dX6_safest_59 : decode cX6_safest 59 = .ok (.getfield 34, 3) := by decide +kernel
theorem dX6_safest_62 : decode cX6_safest 62 = .ok (.invokevirtual 107, 3) := by decide +kernel
theorem dX6_safest_65 : decode cX6_safest 65 = .ok (.aload_n 0, 1) := by decide +kernel
theorem dX6_safest_66 : decode cX6_safest 66 = .ok (.getfield 30, 3) := by decide +kernel
theorem dX6_safest_69 : decode cX6_safest 69 = .ok (.iload_n 1, 1) := by decide +kernel
theorem dX6_safest_70 : decode cX6_safest 70 = .ok (.aload_n 0, 1) := by decide +kernel
theorem dX6_safest_71 : decode cX6_safest 71 = .ok (.getfield 34, 3) := by decide +kernel
theorem dX6_safest_74 : decode cX6_safest 74 = .ok (.invokevirtual 164, 3) := by decide +kernel
theorem dX6_safest_77 : decode cX6_safest 77 = .ok (.istore 6, 2) := by decide +kernel
theorem dX6_safest_79 : decode cX6_safest 79 = .ok (.iload 6, 2) := by decide +kernel
theorem dX6_safest_81 : decode cX6_safest 81 = .ok (.iload 4, 2) := by decide +kernel
theorem dX6_safest_83 : decode cX6_safest 83 = .ok (.if_icmp .ge 10, 3) := by decide +kernel
theorem dX6_safest_86 : decode cX6_safest 86 = .ok (.iload 6, 2) := by decide +kernel
theorem dX6_safest_88 : decode cX6_safest 88 = .ok (.istore 4, 2) := by decide +kernel
theorem dX6_safest_90 : decode cX6_safest 90 = .ok (.iload 5, 2) := by decide +kernel
theorem dX6_safest_92 : decode cX6_safest 92 = .ok (.istore_n 3, 1) := by decide +kernel
theorem dX6_safest_93 : decode cX6_safest 93 = .ok (.iinc 5 1, 3) := by decide +kernel
theorem dX6_safest_96 : decode cX6_safest 96 = .ok (.goto (-57), 3) := by decide +kernel
theorem dX6_safest_99 : decode cX6_safest 99 = .ok (.iload_n 2, 1) := by decide +kernel
theorem dX6_safest_100 : decode cX6_safest 100 = .ok (.ifCond .ne 7, 3) := by decide +kernel
theorem dX6_safest_103 : decode cX6_safest 103 = .ok (.iload_n 3, 1) := by decide +kernel
theorem dX6_safest_104 : decode cX6_safest 104 = .ok (.goto 5, 3) := by decide +kernel
theorem dX6_safest_107 : decode cX6_safest 107 = .ok (.iload 4, 2) := by decide +kernel
theorem dX6_safest_109 : decode cX6_safest 109 = .ok (.ireturn, 1) := by decide +kernel
theorem dX6_see_0 : decode cX6_see 0 = .ok (.iload_n 1, 1) := by decide +kernel
theorem dX6_see_1 : decode cX6_see 1 = .ok (.iconst (-1), 1) := by decide +kernel
theorem dX6_see_2 : decode cX6_see 2 = .ok (.if_icmp .ne 13, 3) := by decide +kernel
theorem dX6_see_5 : decode cX6_see 5 = .ok (.aload_n 0, 1) := by decide +kernel
theorem dX6_see_6 : decode cX6_see 6 = .ok (.getfield 12, 3) := by decide +kernel
theorem dX6_see_9 : decode cX6_see 9 = .ok (.iconst 0, 1) := by decide +kernel
theorem dX6_see_10 : decode cX6_see 10 = .ok (.putfield 214, 3) := by decide +kernel
theorem dX6_see_13 : decode cX6_see 13 = .ok (.iconst 0, 1) := by decide +kernel
theorem dX6_see_14 : decode cX6_see 14 = .ok (.ireturn, 1) := by decide +kernel
theorem dX6_see_15 : decode cX6_see 15 = .ok (.iload_n 1, 1) := by decide +kernel
theorem dX6_see_16 : decode cX6_see 16 = .ok (.invokestatic 154, 3) := by decide +kernel
theorem dX6_see_19 : decode cX6_see 19 = .ok (.ifCond .ne 6, 3) := by decide +kernel
theorem dX6_see_22 : decode cX6_see 22 = .ok (.bipush (-2), 2) := by decide +kernel
theorem dX6_see_24 : decode cX6_see 24 = .ok (.ireturn, 1) := by decide +kernel
theorem dX6_see_25 : decode cX6_see 25 = .ok (.aload_n 0, 1) := by decide +kernel
theorem dX6_see_26 : decode cX6_see 26 = .ok (.getfield 12, 3) := by decide +kernel
theorem dX6_see_29 : decode cX6_see 29 = .ok (.getfield 214, 3) := by decide +kernel
theorem dX6_see_32 : decode cX6_see 32 = .ok (.bipush 6, 2) := by decide +kernel
theorem dX6_see_34 : decode cX6_see 34 = .ok (.if_icmp .lt 6, 3) := by decide +kernel
theorem dX6_see_37 : decode cX6_see 37 = .ok (.bipush (-4), 2) := by decide +kernel
theorem dX6_see_39 : decode cX6_see 39 = .ok (.ireturn, 1) := by decide +kernel
theorem dX6_see_40 : decode cX6_see 40 = .ok (.aload_n 0, 1) := by decide +kernel
theorem dX6_see_41 : decode cX6_see 41 = .ok (.getfield 12, 3) := by decide +kernel
theorem dX6_see_44 : decode cX6_see 44 = .ok (.getfield 217, 3) := by decide +kernel
theorem dX6_see_47 : decode cX6_see 47 = .ok (.aload_n 0, 1) := by decide +kernel
theorem dX6_see_48 : decode cX6_see 48 = .ok (.getfield 12, 3) := by decide +kernel
theorem dX6_see_51 : decode cX6_see 51 = .ok (.getfield 214, 3) := by decide +kernel
theorem dX6_see_54 : decode cX6_see 54 = .ok (.iload_n 1, 1) := by decide +kernel
theorem dX6_see_55 : decode cX6_see 55 = .ok (.iastore, 1) := by decide +kernel
theorem dX6_see_56 : decode cX6_see 56 = .ok (.aload_n 0, 1) := by decide +kernel
theorem dX6_see_57 : decode cX6_see 57 = .ok (.getfield 12, 3) := by decide +kernel
theorem dX6_see_60 : decode cX6_see 60 = .ok (.getfield 220, 3) := by decide +kernel
theorem dX6_see_63 : decode cX6_see 63 = .ok (.aload_n 0, 1) := by decide +kernel
theorem dX6_see_64 : decode cX6_see 64 = .ok (.getfield 12, 3) := by decide +kernel
theorem dX6_see_67 : decode cX6_see 67 = .ok (.getfield 214, 3) := by decide +kernel
theorem dX6_see_70 : decode cX6_see 70 = .ok (.iload_n 2, 1) := by decide +kernel
theorem dX6_see_71 : decode cX6_see 71 = .ok (.ifCond .eq 7, 3) := by decide +kernel
theorem dX6_see_74 : decode cX6_see 74 = .ok (.iconst 1, 1) := by decide +kernel
theorem dX6_see_75 : decode cX6_see 75 = .ok (.goto 4, 3) := by decide +kernel
theorem dX6_see_78 : decode cX6_see 78 = .ok (.iconst 0, 1) := by decide +kernel
theorem dX6_see_79 : decode cX6_see 79 = .ok (.iastore, 1) := by decide +kernel
theorem dX6_see_80 : decode cX6_see 80 = .ok (.aload_n 0, 1) := by decide +kernel
theorem dX6_see_81 : decode cX6_see 81 = .ok (.getfield 12, 3) := by decide +kernel
theorem dX6_see_84 : decode cX6_see 84 = .ok (.dup, 1) := by decide +kernel
theorem dX6_see_85 : decode cX6_see 85 = .ok (.getfield 214, 3) := by decide +kernel
theorem dX6_see_88 : decode cX6_see 88 = .ok (.iconst 1, 1) := by decide +kernel
theorem dX6_see_89 : decode cX6_see 89 = .ok (.iadd, 1) := by decide +kernel
theorem dX6_see_90 : decode cX6_see 90 = .ok (.putfield 214, 3) := by decide +kernel
theorem dX6_see_93 : decode cX6_see 93 = .ok (.aload_n 0, 1) := by decide +kernel
theorem dX6_see_94 : decode cX6_see 94 = .ok (.getfield 12, 3) := by decide +kernel
theorem dX6_see_97 : decode cX6_see 97 = .ok (.getfield 214, 3) := by decide +kernel
theorem dX6_see_100 : decode cX6_see 100 = .ok (.ireturn, 1) := by decide +kernel
theorem dX6_sent_0 : decode cX6_sent 0 = .ok (.aload_n 0, 1) := by decide +kernel
theorem dX6_sent_1 : decode cX6_sent 1 = .ok (.getfield 12, 3) := by decide +kernel
theorem dX6_sent_4 : decode cX6_sent 4 = .ok (.iload_n 1, 1) := by decide +kernel
theorem dX6_sent_5 : decode cX6_sent 5 = .ok (.invokevirtual 73, 3) := by decide +kernel
theorem dX6_sent_8 : decode cX6_sent 8 = .ok (.ifCond .ne 5, 3) := by decide +kernel
theorem dX6_sent_11 : decode cX6_sent 11 = .ok (.iconst (-1), 1) := by decide +kernel
theorem dX6_sent_12 : decode cX6_sent 12 = .ok (.ireturn, 1) := by decide +kernel
theorem dX6_sent_13 : decode cX6_sent 13 = .ok (.iload_n 2, 1) := by decide +kernel
theorem dX6_sent_14 : decode cX6_sent 14 = .ok (.ifCond .lt 10, 3) := by decide +kernel
theorem dX6_sent_17 : decode cX6_sent 17 = .ok (.iload_n 2, 1) := by decide +kernel
theorem dX6_sent_18 : decode cX6_sent 18 = .ok (.sipush 999, 3) := by decide +kernel
theorem dX6_sent_21 : decode cX6_sent 21 = .ok (.if_icmp .le 6, 3) := by decide +kernel
theorem dX6_sent_24 : decode cX6_sent 24 = .ok (.bipush (-2), 2) := by decide +kernel
theorem dX6_sent_26 : decode cX6_sent 26 = .ok (.ireturn, 1) := by decide +kernel
theorem dX6_sent_27 : decode cX6_sent 27 = .ok (.aload_n 0, 1) := by decide +kernel
theorem dX6_sent_28 : decode cX6_sent 28 = .ok (.getfield 12, 3) := by decide +kernel
theorem dX6_sent_31 : decode cX6_sent 31 = .ok (.getfield 87, 3) := by decide +kernel
theorem dX6_sent_34 : decode cX6_sent 34 = .ok (.iload_n 1, 1) := by decide +kernel
theorem dX6_sent_35 : decode cX6_sent 35 = .ok (.iaload, 1) := by decide +kernel
theorem dX6_sent_36 : decode cX6_sent 36 = .ok (.istore_n 3, 1) := by decide +kernel
theorem dX6_sent_37 : decode cX6_sent 37 = .ok (.aload_n 0, 1) := by decide +kernel
theorem dX6_sent_38 : decode cX6_sent 38 = .ok (.getfield 12, 3) := by decide +kernel
theorem dX6_sent_41 : decode cX6_sent 41 = .ok (.getfield 87, 3) := by decide +kernel
theorem dX6_sent_44 : decode cX6_sent 44 = .ok (.iload_n 1, 1) := by decide +kernel
theorem dX6_sent_45 : decode cX6_sent 45 = .ok (.iload_n 2, 1) := by decide +kernel
theorem dX6_sent_46 : decode cX6_sent 46 = .ok (.iastore, 1) := by decide +kernel
theorem dX6_sent_47 : decode cX6_sent 47 = .ok (.iload_n 3, 1) := by decide +kernel
theorem dX6_sent_48 : decode cX6_sent 48 = .ok (.ireturn, 1) := by decide +kernel
theorem dX6_shift_0 : decode cX6_shift 0 = .ok (.aload_n 0, 1) := by decide +kernel
theorem dX6_shift_1 : decode cX6_shift 1 = .ok (.iload_n 1, 1) := by decide +kernel
theorem dX6_shift_2 : decode cX6_shift 2 = .ok (.invokevirtual 248, 3) := by decide +kernel
theorem dX6_shift_5 : decode cX6_shift 5 = .ok (.astore 6, 2) := by decide +kernel
theorem dX6_shift_7 : decode cX6_shift 7 = .ok (.aload_n 0, 1) := by decide +kernel
theorem dX6_shift_8 : decode cX6_shift 8 = .ok (.iload_n 3, 1) := by decide +kernel
theorem dX6_shift_9 : decode cX6_shift 9 = .ok (.invokevirtual 248, 3) := by decide +kernel
theorem dX6_shift_12 : decode cX6_shift 12 = .ok (.astore 7, 2) := by decide +kernel
theorem dX6_shift_14 : decode cX6_shift 14 = .ok (.aload 6, 2) := by decide +kernel
theorem dX6_shift_16 : decode cX6_shift 16 = .ok (.ifnull 8, 3) := by decide +kernel
theorem dX6_shift_19 : decode cX6_shift 19 = .ok (.aload 7, 2) := by decide +kernel
theorem dX6_shift_21 : decode cX6_shift 21 = .ok (.ifnonnull 5, 3) := by decide +kernel
theorem dX6_shift_24 : decode cX6_shift 24 = .ok (.iconst (-1), 1) := by decide +kernel
theorem dX6_shift_25 : decode cX6_shift 25 = .ok (.ireturn, 1) := by decide +kernel
theorem dX6_shift_26 : decode cX6_shift 26 = .ok (.aload 6, 2) := by decide +kernel
theorem dX6_shift_28 : decode cX6_shift 28 = .ok (.getfield 252, 3) := by decide +kernel
theorem dX6_shift_31 : decode cX6_shift 31 = .ok (.iconst (-1), 1) := by decide +kernel
theorem dX6_shift_32 : decode cX6_shift 32 = .ok (.if_icmp .eq 12, 3) := by decide +kernel
theorem dX6_shift_35 : decode cX6_shift 35 = .ok (.aload 7, 2) := by decide +kernel
theorem dX6_shift_37 : decode cX6_shift 37 = .ok (.getfield 252, 3) := by decide +kernel
theorem dX6_shift_40 : decode cX6_shift 40 = .ok (.iconst (-1), 1) := by decide +kernel
theorem dX6_shift_41 : decode cX6_shift 41 = .ok (.if_icmp .ne 6, 3) := by decide +kernel
theorem dX6_shift_44 : decode cX6_shift 44 = .ok (.bipush (-11), 2) := by decide +kernel
theorem dX6_shift_46 : decode cX6_shift 46 = .ok (.ireturn, 1) := by decide +kernel
theorem dX6_shift_47 : decode cX6_shift 47 = .ok (.aload 6, 2) := by decide +kernel
theorem dX6_shift_49 : decode cX6_shift 49 = .ok (.getfield 252, 3) := by decide +kernel
theorem dX6_shift_52 : decode cX6_shift 52 = .ok (.aload 7, 2) := by decide +kernel
theorem dX6_shift_54 : decode cX6_shift 54 = .ok (.getfield 252, 3) := by decide +kernel
theorem dX6_shift_57 : decode cX6_shift 57 = .ok (.if_icmp .eq 6, 3) := by decide +kernel
theorem dX6_shift_60 : decode cX6_shift 60 = .ok (.bipush (-12), 2) := by decide +kernel
theorem dX6_shift_62 : decode cX6_shift 62 = .ok (.ireturn, 1) := by decide +kernel
theorem dX6_shift_63 : decode cX6_shift 63 = .ok (.aload 6, 2) := by decide +kernel
theorem dX6_shift_65 : decode cX6_shift 65 = .ok (.iload_n 2, 1) := by decide +kernel
theorem dX6_shift_66 : decode cX6_shift 66 = .ok (.iload 5, 2) := by decide +kernel
theorem dX6_shift_68 : decode cX6_shift 68 = .ok (.invokevirtual 282, 3) := by decide +kernel
theorem dX6_shift_71 : decode cX6_shift 71 = .ok (.ifCond .eq 15, 3) := by decide +kernel
theorem dX6_shift_74 : decode cX6_shift 74 = .ok (.aload 7, 2) := by decide +kernel
theorem dX6_shift_76 : decode cX6_shift 76 = .ok (.iload 4, 2) := by decide +kernel
theorem dX6_shift_78 : decode cX6_shift 78 = .ok (.iload 5, 2) := by decide +kernel
theorem dX6_shift_80 : decode cX6_shift 80 = .ok (.invokevirtual 282, 3) := by decide +kernel
theorem dX6_shift_83 : decode cX6_shift 83 = .ok (.ifCond .ne 6, 3) := by decide +kernel
theorem dX6_shift_86 : decode cX6_shift 86 = .ok (.bipush (-13), 2) := by decide +kernel
theorem dX6_shift_88 : decode cX6_shift 88 = .ok (.ireturn, 1) := by decide +kernel
theorem dX6_shift_89 : decode cX6_shift 89 = .ok (.aload 6, 2) := by decide +kernel
theorem dX6_shift_91 : decode cX6_shift 91 = .ok (.getfield 256, 3) := by decide +kernel
theorem dX6_shift_94 : decode cX6_shift 94 = .ok (.iload_n 2, 1) := by decide +kernel
theorem dX6_shift_95 : decode cX6_shift 95 = .ok (.aload 7, 2) := by decide +kernel
theorem dX6_shift_97 : decode cX6_shift 97 = .ok (.getfield 256, 3) := by decide +kernel
theorem dX6_shift_100 : decode cX6_shift 100 = .ok (.iload 4, 2) := by decide +kernel
theorem dX6_shift_102 : decode cX6_shift 102 = .ok (.iload 5, 2) := by decide +kernel
theorem dX6_shift_104 : decode cX6_shift 104 = .ok (.invokestatic 114, 3) := by decide +kernel
theorem dX6_shift_107 : decode cX6_shift 107 = .ok (.iload 5, 2) := by decide +kernel
theorem dX6_shift_109 : decode cX6_shift 109 = .ok (.ireturn, 1) := by decide +kernel
theorem dX6_stepOrder_0 : decode cX6_stepOrder 0 = .ok (.iload_n 1, 1) := by decide +kernel
theorem dX6_stepOrder_1 : decode cX6_stepOrder 1 = .ok (.iconst 2, 1) := by decide +kernel
theorem dX6_stepOrder_2 : decode cX6_stepOrder 2 = .ok (.isub, 1) := by decide +kernel
theorem dX6_stepOrder_3 : decode cX6_stepOrder 3 = .ok (.istore_n 2, 1) := by decide +kernel
theorem dX6_stepOrder_4 : decode cX6_stepOrder 4 = .ok (.iload_n 2, 1) := by decide +kernel
theorem dX6_stepOrder_5 : decode cX6_stepOrder 5 = .ok (.ifCond .lt 20, 3) := by decide +kernel
theorem dX6_stepOrder_8 : decode cX6_stepOrder 8 = .ok (.aload_n 0, 1) := by decide +kernel
theorem dX6_stepOrder_9 : decode cX6_stepOrder 9 = .ok (.iload_n 2, 1) := by decide +kernel
theorem dX6_stepOrder_10 : decode cX6_stepOrder 10 = .ok (.iaload, 1) := by decide +kernel
theorem dX6_stepOrder_11 : decode cX6_stepOrder 11 = .ok (.aload_n 0, 1) := by decide +kernel
theorem dX6_stepOrder_12 : decode cX6_stepOrder 12 = .ok (.iload_n 2, 1) := by decide +kernel
theorem dX6_stepOrder_13 : decode cX6_stepOrder 13 = .ok (.iconst 1, 1) := by decide +kernel
theorem dX6_stepOrder_14 : decode cX6_stepOrder 14 = .ok (.iadd, 1) := by decide +kernel
theorem dX6_stepOrder_15 : decode cX6_stepOrder 15 = .ok (.iaload, 1) := by decide +kernel
theorem dX6_stepOrder_16 : decode cX6_stepOrder 16 = .ok (.if_icmp .le 9, 3) := by decide +kernel
theorem dX6_stepOrder_19 : decode cX6_stepOrder 19 = .ok (.iinc 2 (-1), 3) := by decide +kernel
theorem dX6_stepOrder_22 : decode cX6_stepOrder 22 = .ok (.goto (-18), 3) := by decide +kernel
theorem dX6_stepOrder_25 : decode cX6_stepOrder 25 = .ok (.iload_n 2, 1) := by decide +kernel
theorem dX6_stepOrder_26 : decode cX6_stepOrder 26 = .ok (.ifCond .ge 5, 3) := by decide +kernel
theorem dX6_stepOrder_29 : decode cX6_stepOrder 29 = .ok (.iconst 0, 1) := by decide +kernel
theorem dX6_stepOrder_30 : decode cX6_stepOrder 30 = .ok (.ireturn, 1) := by decide +kernel
theorem dX6_stepOrder_31 : decode cX6_stepOrder 31 = .ok (.iload_n 1, 1) := by decide +kernel
theorem dX6_stepOrder_32 : decode cX6_stepOrder 32 = .ok (.iconst 1, 1) := by decide +kernel
theorem dX6_stepOrder_33 : decode cX6_stepOrder 33 = .ok (.isub, 1) := by decide +kernel
theorem dX6_stepOrder_34 : decode cX6_stepOrder 34 = .ok (.istore_n 3, 1) := by decide +kernel
theorem dX6_stepOrder_35 : decode cX6_stepOrder 35 = .ok (.iload_n 3, 1) := by decide +kernel
theorem dX6_stepOrder_36 : decode cX6_stepOrder 36 = .ok (.iload_n 2, 1) := by decide +kernel
theorem dX6_stepOrder_37 : decode cX6_stepOrder 37 = .ok (.if_icmp .le 18, 3) := by decide +kernel
theorem dX6_stepOrder_40 : decode cX6_stepOrder 40 = .ok (.aload_n 0, 1) := by decide +kernel
theorem dX6_stepOrder_41 : decode cX6_stepOrder 41 = .ok (.iload_n 3, 1) := by decide +kernel
theorem dX6_stepOrder_42 : decode cX6_stepOrder 42 = .ok (.iaload, 1) := by decide +kernel
theorem dX6_stepOrder_43 : decode cX6_stepOrder 43 = .ok (.aload_n 0, 1) := by decide +kernel
theorem dX6_stepOrder_44 : decode cX6_stepOrder 44 = .ok (.iload_n 2, 1) := by decide +kernel
theorem dX6_stepOrder_45 : decode cX6_stepOrder 45 = .ok (.iaload, 1) := by decide +kernel
theorem dX6_stepOrder_46 : decode cX6_stepOrder 46 = .ok (.if_icmp .ge 9, 3) := by decide +kernel
theorem dX6_stepOrder_49 : decode cX6_stepOrder 49 = .ok (.iinc 3 (-1), 3) := by decide +kernel
theorem dX6_stepOrder_52 : decode cX6_stepOrder 52 = .ok (.goto (-17), 3) := by decide +kernel
theorem dX6_stepOrder_55 : decode cX6_stepOrder 55 = .ok (.aload_n 0, 1) := by decide +kernel
theorem dX6_stepOrder_56 : decode cX6_stepOrder 56 = .ok (.iload_n 2, 1) := by decide +kernel
theorem dX6_stepOrder_57 : decode cX6_stepOrder 57 = .ok (.iload_n 3, 1) := by decide +kernel
theorem dX6_stepOrder_58 : decode cX6_stepOrder 58 = .ok (.invokestatic 292, 3) := by decide +kernel
theorem dX6_stepOrder_61 : decode cX6_stepOrder 61 = .ok (.iload_n 2, 1) := by decide +kernel
theorem dX6_stepOrder_62 : decode cX6_stepOrder 62 = .ok (.iconst 1, 1) := by decide +kernel
theorem dX6_stepOrder_63 : decode cX6_stepOrder 63 = .ok (.iadd, 1) := by decide +kernel
theorem dX6_stepOrder_64 : decode cX6_stepOrder 64 = .ok (.istore 4, 2) := by decide +kernel
theorem dX6_stepOrder_66 : decode cX6_stepOrder 66 = .ok (.iload_n 1, 1) := by decide +kernel
theorem dX6_stepOrder_67 : decode cX6_stepOrder 67 = .ok (.iconst 1, 1) := by decide +kernel
theorem dX6_stepOrder_68 : decode cX6_stepOrder 68 = .ok (.isub, 1) := by decide +kernel
theorem dX6_stepOrder_69 : decode cX6_stepOrder 69 = .ok (.istore 5, 2) := by decide +kernel
theorem dX6_stepOrder_71 : decode cX6_stepOrder 71 = .ok (.iload 4, 2) := by decide +kernel
theorem dX6_stepOrder_73 : decode cX6_stepOrder 73 = .ok (.iload 5, 2) := by decide +kernel
theorem dX6_stepOrder_75 : decode cX6_stepOrder 75 = .ok (.if_icmp .ge 20, 3) := by decide +kernel
theorem dX6_stepOrder_78 : decode cX6_stepOrder 78 = .ok (.aload_n 0, 1) := by decide +kernel
theorem dX6_stepOrder_79 : decode cX6_stepOrder 79 = .ok (.iload 4, 2) := by decide +kernel
theorem dX6_stepOrder_81 : decode cX6_stepOrder 81 = .ok (.iload 5, 2) := by decide +kernel
theorem dX6_stepOrder_83 : decode cX6_stepOrder 83 = .ok (.invokestatic 292, 3) := by decide +kernel
theorem dX6_stepOrder_86 : decode cX6_stepOrder 86 = .ok (.iinc 4 1, 3) := by decide +kernel
theorem dX6_stepOrder_89 : decode cX6_stepOrder 89 = .ok (.iinc 5 (-1), 3) := by decide +kernel
theorem dX6_stepOrder_92 : decode cX6_stepOrder 92 = .ok (.goto (-21), 3) := by decide +kernel
theorem dX6_stepOrder_95 : decode cX6_stepOrder 95 = .ok (.iconst 1, 1) := by decide +kernel
theorem dX6_stepOrder_96 : decode cX6_stepOrder 96 = .ok (.ireturn, 1) := by decide +kernel
theorem dX6_swap_0 : decode cX6_swap 0 = .ok (.aload_n 0, 1) := by decide +kernel
theorem dX6_swap_1 : decode cX6_swap 1 = .ok (.iload_n 1, 1) := by decide +kernel
theorem dX6_swap_2 : decode cX6_swap 2 = .ok (.iaload, 1) := by decide +kernel
theorem dX6_swap_3 : decode cX6_swap 3 = .ok (.istore_n 3, 1) := by decide +kernel
theorem dX6_swap_4 : decode cX6_swap 4 = .ok (.aload_n 0, 1) := by decide +kernel
theorem dX6_swap_5 : decode cX6_swap 5 = .ok (.iload_n 1, 1) := by decide +kernel
theorem dX6_swap_6 : decode cX6_swap 6 = .ok (.aload_n 0, 1) := by decide +kernel
theorem dX6_swap_7 : decode cX6_swap 7 = .ok (.iload_n 2, 1) := by decide +kernel
theorem dX6_swap_8 : decode cX6_swap 8 = .ok (.iaload, 1) := by decide +kernel
theorem dX6_swap_9 : decode cX6_swap 9 = .ok (.iastore, 1) := by decide +kernel
theorem dX6_swap_10 : decode cX6_swap 10 = .ok (.aload_n 0, 1) := by decide +kernel
theorem dX6_swap_11 : decode cX6_swap 11 = .ok (.iload_n 2, 1) := by decide +kernel
theorem dX6_swap_12 : decode cX6_swap 12 = .ok (.iload_n 3, 1) := by decide +kernel
theorem dX6_swap_13 : decode cX6_swap 13 = .ok (.iastore, 1) := by decide +kernel
theorem dX6_swap_14 : decode cX6_swap 14 = .ok (.return_, 1) := by decide +kernel
theorem dX6_taken_0 : decode cX6_taken 0 = .ok (.iload_n 2, 1) := by decide +kernel
theorem dX6_taken_1 : decode cX6_taken 1 = .ok (.ifCond .lt 9, 3) := by decide +kernel
theorem dX6_taken_4 : decode cX6_taken 4 = .ok (.iload_n 2, 1) := by decide +kernel
theorem dX6_taken_5 : decode cX6_taken 5 = .ok (.bipush 7, 2) := by decide +kernel
theorem dX6_taken_7 : decode cX6_taken 7 = .ok (.if_icmp .lt 6, 3) := by decide +kernel
theorem dX6_taken_10 : decode cX6_taken 10 = .ok (.bipush (-2), 2) := by decide +kernel
theorem dX6_taken_12 : decode cX6_taken 12 = .ok (.ireturn, 1) := by decide +kernel
theorem dX6_taken_13 : decode cX6_taken 13 = .ok (.aload_n 0, 1) := by decide +kernel
theorem dX6_taken_14 : decode cX6_taken 14 = .ok (.getfield 12, 3) := by decide +kernel
theorem dX6_taken_17 : decode cX6_taken 17 = .ok (.iload_n 1, 1) := by decide +kernel
theorem dX6_taken_18 : decode cX6_taken 18 = .ok (.invokevirtual 73, 3) := by decide +kernel
theorem dX6_taken_21 : decode cX6_taken 21 = .ok (.ifCond .ne 6, 3) := by decide +kernel
theorem dX6_taken_24 : decode cX6_taken 24 = .ok (.bipush (-11), 2) := by decide +kernel
theorem dX6_taken_26 : decode cX6_taken 26 = .ok (.ireturn, 1) := by decide +kernel
theorem dX6_taken_27 : decode cX6_taken 27 = .ok (.aload_n 0, 1) := by decide +kernel
theorem dX6_taken_28 : decode cX6_taken 28 = .ok (.getfield 12, 3) := by decide +kernel
theorem dX6_taken_31 : decode cX6_taken 31 = .ok (.getfield 81, 3) := by decide +kernel
theorem dX6_taken_34 : decode cX6_taken 34 = .ok (.iload_n 1, 1) := by decide +kernel
theorem dX6_taken_35 : decode cX6_taken 35 = .ok (.iaload, 1) := by decide +kernel
theorem dX6_taken_36 : decode cX6_taken 36 = .ok (.iload_n 2, 1) := by decide +kernel
theorem dX6_taken_37 : decode cX6_taken 37 = .ok (.invokestatic 272, 3) := by decide +kernel
theorem dX6_taken_40 : decode cX6_taken 40 = .ok (.ifCond .eq 15, 3) := by decide +kernel
theorem dX6_taken_43 : decode cX6_taken 43 = .ok (.aload_n 0, 1) := by decide +kernel
theorem dX6_taken_44 : decode cX6_taken 44 = .ok (.getfield 12, 3) := by decide +kernel
theorem dX6_taken_47 : decode cX6_taken 47 = .ok (.getfield 81, 3) := by decide +kernel
theorem dX6_taken_50 : decode cX6_taken 50 = .ok (.iload_n 1, 1) := by decide +kernel
theorem dX6_taken_51 : decode cX6_taken 51 = .ok (.iaload, 1) := by decide +kernel
theorem dX6_taken_52 : decode cX6_taken 52 = .ok (.goto 5, 3) := by decide +kernel
theorem dX6_taken_55 : decode cX6_taken 55 = .ok (.bipush (-12), 2) := by decide +kernel
theorem dX6_taken_57 : decode cX6_taken 57 = .ok (.ireturn, 1) := by decide +kernel
theorem dX6_tape_0 : decode cX6_tape 0 = .ok (.aload_n 0, 1) := by decide +kernel
theorem dX6_tape_1 : decode cX6_tape 1 = .ok (.iload_n 1, 1) := by decide +kernel
theorem dX6_tape_2 : decode cX6_tape 2 = .ok (.invokevirtual 248, 3) := by decide +kernel
theorem dX6_tape_5 : decode cX6_tape 5 = .ok (.astore 4, 2) := by decide +kernel
theorem dX6_tape_7 : decode cX6_tape 7 = .ok (.aload 4, 2) := by decide +kernel
theorem dX6_tape_9 : decode cX6_tape 9 = .ok (.ifnonnull 5, 3) := by decide +kernel
theorem dX6_tape_12 : decode cX6_tape 12 = .ok (.iconst (-1), 1) := by decide +kernel
theorem dX6_tape_13 : decode cX6_tape 13 = .ok (.ireturn, 1) := by decide +kernel
theorem dX6_tape_14 : decode cX6_tape 14 = .ok (.iload_n 2, 1) := by decide +kernel
theorem dX6_tape_15 : decode cX6_tape 15 = .ok (.iconst (-1), 1) := by decide +kernel
theorem dX6_tape_16 : decode cX6_tape 16 = .ok (.if_icmp .ne 12, 3) := by decide +kernel
theorem dX6_tape_19 : decode cX6_tape 19 = .ok (.aload 4, 2) := by decide +kernel
theorem dX6_tape_21 : decode cX6_tape 21 = .ok (.iconst (-1), 1) := by decide +kernel
theorem dX6_tape_22 : decode cX6_tape 22 = .ok (.iconst 0, 1) := by decide +kernel
theorem dX6_tape_23 : decode cX6_tape 23 = .ok (.invokevirtual 275, 3) := by decide +kernel
theorem dX6_tape_26 : decode cX6_tape 26 = .ok (.iconst 1, 1) := by decide +kernel
theorem dX6_tape_27 : decode cX6_tape 27 = .ok (.ireturn, 1) := by decide +kernel
theorem dX6_tape_28 : decode cX6_tape 28 = .ok (.iload_n 2, 1) := by decide +kernel
theorem dX6_tape_29 : decode cX6_tape 29 = .ok (.ifCond .lt 14, 3) := by decide +kernel
theorem dX6_tape_32 : decode cX6_tape 32 = .ok (.iload_n 2, 1) := by decide +kernel
theorem dX6_tape_33 : decode cX6_tape 33 = .ok (.iconst 5, 1) := by decide +kernel
theorem dX6_tape_34 : decode cX6_tape 34 = .ok (.if_icmp .ge 9, 3) := by decide +kernel
theorem dX6_tape_37 : decode cX6_tape 37 = .ok (.iload_n 3, 1) := by decide +kernel
theorem dX6_tape_38 : decode cX6_tape 38 = .ok (.bipush 60, 2) := by decide +kernel
theorem dX6_tape_40 : decode cX6_tape 40 = .ok (.if_icmp .le 6, 3) := by decide +kernel
theorem dX6_tape_43 : decode cX6_tape 43 = .ok (.bipush (-2), 2) := by decide +kernel
theorem dX6_tape_45 : decode cX6_tape 45 = .ok (.ireturn, 1) := by decide +kernel
theorem dX6_tape_46 : decode cX6_tape 46 = .ok (.iload_n 3, 1) := by decide +kernel
theorem dX6_tape_47 : decode cX6_tape 47 = .ok (.ifCond .ge 6, 3) := by decide +kernel
theorem dX6_tape_50 : decode cX6_tape 50 = .ok (.bipush (-14), 2) := by decide +kernel
theorem dX6_tape_52 : decode cX6_tape 52 = .ok (.ireturn, 1) := by decide +kernel
theorem dX6_tape_53 : decode cX6_tape 53 = .ok (.aload 4, 2) := by decide +kernel
theorem dX6_tape_55 : decode cX6_tape 55 = .ok (.iload_n 2, 1) := by decide +kernel
theorem dX6_tape_56 : decode cX6_tape 56 = .ok (.iload_n 3, 1) := by decide +kernel
theorem dX6_tape_57 : decode cX6_tape 57 = .ok (.invokevirtual 275, 3) := by decide +kernel
theorem dX6_tape_60 : decode cX6_tape 60 = .ok (.iconst 1, 1) := by decide +kernel
theorem dX6_tape_61 : decode cX6_tape 61 = .ok (.ireturn, 1) := by decide +kernel
theorem dX6_tapeAt_0 : decode cX6_tapeAt 0 = .ok (.iload_n 1, 1) := by decide +kernel
theorem dX6_tapeAt_1 : decode cX6_tapeAt 1 = .ok (.ifCond .lt 9, 3) := by decide +kernel
theorem dX6_tapeAt_4 : decode cX6_tapeAt 4 = .ok (.iload_n 1, 1) := by decide +kernel
theorem dX6_tapeAt_5 : decode cX6_tapeAt 5 = .ok (.bipush 6, 2) := by decide +kernel
theorem dX6_tapeAt_7 : decode cX6_tapeAt 7 = .ok (.if_icmp .lt 7, 3) := by decide +kernel
theorem dX6_tapeAt_10 : decode cX6_tapeAt 10 = .ok (.aconst_null, 1) := by decide +kernel
theorem dX6_tapeAt_11 : decode cX6_tapeAt 11 = .ok (.goto 9, 3) := by decide +kernel
theorem dX6_tapeAt_14 : decode cX6_tapeAt 14 = .ok (.aload_n 0, 1) := by decide +kernel
theorem dX6_tapeAt_15 : decode cX6_tapeAt 15 = .ok (.getfield 61, 3) := by decide +kernel
theorem dX6_tapeAt_18 : decode cX6_tapeAt 18 = .ok (.iload_n 1, 1) := by decide +kernel
theorem dX6_tapeAt_19 : decode cX6_tapeAt 19 = .ok (.aaload, 1) := by decide +kernel
theorem dX6_tapeAt_20 : decode cX6_tapeAt 20 = .ok (.areturn, 1) := by decide +kernel
theorem dX6_throwsFor_0 : decode cX6_throwsFor 0 = .ok (.iconst 0, 1) := by decide +kernel
theorem dX6_throwsFor_1 : decode cX6_throwsFor 1 = .ok (.istore_n 2, 1) := by decide +kernel
theorem dX6_throwsFor_2 : decode cX6_throwsFor 2 = .ok (.iload_n 2, 1) := by decide +kernel
theorem dX6_throwsFor_3 : decode cX6_throwsFor 3 = .ok (.bipush 16, 2) := by decide +kernel
theorem dX6_throwsFor_5 : decode cX6_throwsFor 5 = .ok (.if_icmp .ge 20, 3) := by decide +kernel
theorem dX6_throwsFor_8 : decode cX6_throwsFor 8 = .ok (.iload_n 0, 1) := by decide +kernel
theorem dX6_throwsFor_9 : decode cX6_throwsFor 9 = .ok (.iload_n 2, 1) := by decide +kernel
theorem dX6_throwsFor_10 : decode cX6_throwsFor 10 = .ok (.invokestatic 199, 3) := by decide +kernel
theorem dX6_throwsFor_13 : decode cX6_throwsFor 13 = .ok (.iload_n 1, 1) := by decide +kernel
theorem dX6_throwsFor_14 : decode cX6_throwsFor 14 = .ok (.i2l, 1) := by decide +kernel
theorem dX6_throwsFor_15 : decode cX6_throwsFor 15 = .ok (.lcmp, 1) := by decide +kernel
theorem dX6_throwsFor_16 : decode cX6_throwsFor 16 = .ok (.ifCond .ge 9, 3) := by decide +kernel
theorem dX6_throwsFor_19 : decode cX6_throwsFor 19 = .ok (.iinc 2 1, 3) := by decide +kernel
theorem dX6_throwsFor_22 : decode cX6_throwsFor 22 = .ok (.goto (-20), 3) := by decide +kernel
theorem dX6_throwsFor_25 : decode cX6_throwsFor 25 = .ok (.iload_n 2, 1) := by decide +kernel
theorem dX6_throwsFor_26 : decode cX6_throwsFor 26 = .ok (.ireturn, 1) := by decide +kernel
theorem dX6_told_0 : decode cX6_told 0 = .ok (.iload_n 1, 1) := by decide +kernel
theorem dX6_told_1 : decode cX6_told 1 = .ok (.tableswitch 75 0 4 #[35, 43, 51, 59, 67], 35) := by decide +kernel
theorem dX6_told_36 : decode cX6_told 36 = .ok (.aload_n 0, 1) := by decide +kernel
theorem dX6_told_37 : decode cX6_told 37 = .ok (.getfield 12, 3) := by decide +kernel
theorem dX6_told_40 : decode cX6_told 40 = .ok (.getfield 144, 3) := by decide +kernel
theorem dX6_told_43 : decode cX6_told 43 = .ok (.ireturn, 1) := by decide +kernel
theorem dX6_told_44 : decode cX6_told 44 = .ok (.aload_n 0, 1) := by decide +kernel
theorem dX6_told_45 : decode cX6_told 45 = .ok (.getfield 12, 3) := by decide +kernel
theorem dX6_told_48 : decode cX6_told 48 = .ok (.getfield 90, 3) := by decide +kernel
theorem dX6_told_51 : decode cX6_told 51 = .ok (.ireturn, 1) := by decide +kernel
theorem dX6_told_52 : decode cX6_told 52 = .ok (.aload_n 0, 1) := by decide +kernel
theorem dX6_told_53 : decode cX6_told 53 = .ok (.getfield 12, 3) := by decide +kernel
theorem dX6_told_56 : decode cX6_told 56 = .ok (.getfield 93, 3) := by decide +kernel
theorem dX6_told_59 : decode cX6_told 59 = .ok (.ireturn, 1) := by decide +kernel
theorem dX6_told_60 : decode cX6_told 60 = .ok (.aload_n 0, 1) := by decide +kernel
theorem dX6_told_61 : decode cX6_told 61 = .ok (.getfield 12, 3) := by decide +kernel
theorem dX6_told_64 : decode cX6_told 64 = .ok (.getfield 147, 3) := by decide +kernel
theorem dX6_told_67 : decode cX6_told 67 = .ok (.ireturn, 1) := by decide +kernel
theorem dX6_told_68 : decode cX6_told 68 = .ok (.aload_n 0, 1) := by decide +kernel
theorem dX6_told_69 : decode cX6_told 69 = .ok (.getfield 12, 3) := by decide +kernel
theorem dX6_told_72 : decode cX6_told 72 = .ok (.invokevirtual 150, 3) := by decide +kernel
theorem dX6_told_75 : decode cX6_told 75 = .ok (.ireturn, 1) := by decide +kernel
theorem dX6_told_76 : decode cX6_told 76 = .ok (.iload_n 1, 1) := by decide +kernel
theorem dX6_told_77 : decode cX6_told 77 = .ok (.bipush 10, 2) := by decide +kernel
theorem dX6_told_79 : decode cX6_told 79 = .ok (.if_icmp .ge 7, 3) := by decide +kernel
theorem dX6_told_82 : decode cX6_told 82 = .ok (.iconst (-1), 1) := by decide +kernel
theorem dX6_told_83 : decode cX6_told 83 = .ok (.goto 7, 3) := by decide +kernel
theorem dX6_told_86 : decode cX6_told 86 = .ok (.iload_n 1, 1) := by decide +kernel
theorem dX6_told_87 : decode cX6_told 87 = .ok (.bipush 10, 2) := by decide +kernel
theorem dX6_told_89 : decode cX6_told 89 = .ok (.isub, 1) := by decide +kernel
theorem dX6_told_90 : decode cX6_told 90 = .ok (.istore_n 2, 1) := by decide +kernel
theorem dX6_told_91 : decode cX6_told 91 = .ok (.aload_n 0, 1) := by decide +kernel
theorem dX6_told_92 : decode cX6_told 92 = .ok (.getfield 12, 3) := by decide +kernel
theorem dX6_told_95 : decode cX6_told 95 = .ok (.iload_n 2, 1) := by decide +kernel
theorem dX6_told_96 : decode cX6_told 96 = .ok (.invokevirtual 73, 3) := by decide +kernel
theorem dX6_told_99 : decode cX6_told 99 = .ok (.ifCond .eq 15, 3) := by decide +kernel
theorem dX6_told_102 : decode cX6_told 102 = .ok (.aload_n 0, 1) := by decide +kernel
theorem dX6_told_103 : decode cX6_told 103 = .ok (.getfield 12, 3) := by decide +kernel
theorem dX6_told_106 : decode cX6_told 106 = .ok (.getfield 111, 3) := by decide +kernel
theorem dX6_told_109 : decode cX6_told 109 = .ok (.iload_n 2, 1) := by decide +kernel
theorem dX6_told_110 : decode cX6_told 110 = .ok (.iaload, 1) := by decide +kernel
theorem dX6_told_111 : decode cX6_told 111 = .ok (.goto 4, 3) := by decide +kernel
theorem dX6_told_114 : decode cX6_told 114 = .ok (.iconst (-1), 1) := by decide +kernel
theorem dX6_told_115 : decode cX6_told 115 = .ok (.ireturn, 1) := by decide +kernel
theorem dX6_trace_0 : decode cX6_trace 0 = .ok (.iload_n 1, 1) := by decide +kernel
theorem dX6_trace_1 : decode cX6_trace 1 = .ok (.ifCond .lt 20, 3) := by decide +kernel
theorem dX6_trace_4 : decode cX6_trace 4 = .ok (.iload_n 1, 1) := by decide +kernel
theorem dX6_trace_5 : decode cX6_trace 5 = .ok (.aload_n 0, 1) := by decide +kernel
theorem dX6_trace_6 : decode cX6_trace 6 = .ok (.getfield 55, 3) := by decide +kernel
theorem dX6_trace_9 : decode cX6_trace 9 = .ok (.getfield 263, 3) := by decide +kernel
theorem dX6_trace_12 : decode cX6_trace 12 = .ok (.if_icmp .ge 9, 3) := by decide +kernel
theorem dX6_trace_15 : decode cX6_trace 15 = .ok (.iload_n 1, 1) := by decide +kernel
theorem dX6_trace_16 : decode cX6_trace 16 = .ok (.bipush 20, 2) := by decide +kernel
theorem dX6_trace_18 : decode cX6_trace 18 = .ok (.if_icmp .lt 7, 3) := by decide +kernel
theorem dX6_trace_21 : decode cX6_trace 21 = .ok (.iconst (-1), 1) := by decide +kernel
theorem dX6_trace_22 : decode cX6_trace 22 = .ok (.goto 12, 3) := by decide +kernel
theorem dX6_trace_25 : decode cX6_trace 25 = .ok (.aload_n 0, 1) := by decide +kernel
theorem dX6_trace_26 : decode cX6_trace 26 = .ok (.getfield 55, 3) := by decide +kernel
theorem dX6_trace_29 : decode cX6_trace 29 = .ok (.getfield 269, 3) := by decide +kernel
theorem dX6_trace_32 : decode cX6_trace 32 = .ok (.iload_n 1, 1) := by decide +kernel
theorem dX6_trace_33 : decode cX6_trace 33 = .ok (.iaload, 1) := by decide +kernel
theorem dX6_trace_34 : decode cX6_trace 34 = .ok (.ireturn, 1) := by decide +kernel
theorem dX6_turn_0 : decode cX6_turn 0 = .ok (.bipush (-5), 2) := by decide +kernel
theorem dX6_turn_2 : decode cX6_turn 2 = .ok (.istore_n 1, 1) := by decide +kernel
theorem dX6_turn_3 : decode cX6_turn 3 = .ok (.sipush 1000, 3) := by decide +kernel
theorem dX6_turn_6 : decode cX6_turn 6 = .ok (.istore_n 2, 1) := by decide +kernel
theorem dX6_turn_7 : decode cX6_turn 7 = .ok (.iconst 0, 1) := by decide +kernel
theorem dX6_turn_8 : decode cX6_turn 8 = .ok (.istore_n 3, 1) := by decide +kernel
theorem dX6_turn_9 : decode cX6_turn 9 = .ok (.iload_n 3, 1) := by decide +kernel
theorem dX6_turn_10 : decode cX6_turn 10 = .ok (.aload_n 0, 1) := by decide +kernel
theorem dX6_turn_11 : decode cX6_turn 11 = .ok (.getfield 12, 3) := by decide +kernel
theorem dX6_turn_14 : decode cX6_turn 14 = .ok (.getfield 66, 3) := by decide +kernel
theorem dX6_turn_17 : decode cX6_turn 17 = .ok (.if_icmp .ge 48, 3) := by decide +kernel
theorem dX6_turn_20 : decode cX6_turn 20 = .ok (.aload_n 0, 1) := by decide +kernel
theorem dX6_turn_21 : decode cX6_turn 21 = .ok (.getfield 12, 3) := by decide +kernel
theorem dX6_turn_24 : decode cX6_turn 24 = .ok (.getfield 111, 3) := by decide +kernel
theorem dX6_turn_27 : decode cX6_turn 27 = .ok (.iload_n 3, 1) := by decide +kernel
theorem dX6_turn_28 : decode cX6_turn 28 = .ok (.iaload, 1) := by decide +kernel
theorem dX6_turn_29 : decode cX6_turn 29 = .ok (.istore 4, 2) := by decide +kernel
theorem dX6_turn_31 : decode cX6_turn 31 = .ok (.aload_n 0, 1) := by decide +kernel
theorem dX6_turn_32 : decode cX6_turn 32 = .ok (.getfield 12, 3) := by decide +kernel
theorem dX6_turn_35 : decode cX6_turn 35 = .ok (.getfield 87, 3) := by decide +kernel
theorem dX6_turn_38 : decode cX6_turn 38 = .ok (.iload 4, 2) := by decide +kernel
theorem dX6_turn_40 : decode cX6_turn 40 = .ok (.iaload, 1) := by decide +kernel
theorem dX6_turn_41 : decode cX6_turn 41 = .ok (.iload_n 2, 1) := by decide +kernel
theorem dX6_turn_42 : decode cX6_turn 42 = .ok (.if_icmp .ge 17, 3) := by decide +kernel
theorem dX6_turn_45 : decode cX6_turn 45 = .ok (.aload_n 0, 1) := by decide +kernel
theorem dX6_turn_46 : decode cX6_turn 46 = .ok (.getfield 12, 3) := by decide +kernel
theorem dX6_turn_49 : decode cX6_turn 49 = .ok (.getfield 87, 3) := by decide +kernel
theorem dX6_turn_52 : decode cX6_turn 52 = .ok (.iload 4, 2) := by decide +kernel
theorem dX6_turn_54 : decode cX6_turn 54 = .ok (.iaload, 1) := by decide +kernel
theorem dX6_turn_55 : decode cX6_turn 55 = .ok (.istore_n 2, 1) := by decide +kernel
theorem dX6_turn_56 : decode cX6_turn 56 = .ok (.iload 4, 2) := by decide +kernel
theorem dX6_turn_58 : decode cX6_turn 58 = .ok (.istore_n 1, 1) := by decide +kernel
theorem dX6_turn_59 : decode cX6_turn 59 = .ok (.iinc 3 1, 3) := by decide +kernel
theorem dX6_turn_62 : decode cX6_turn 62 = .ok (.goto (-53), 3) := by decide +kernel
theorem dX6_turn_65 : decode cX6_turn 65 = .ok (.iload_n 1, 1) := by decide +kernel
theorem dX6_turn_66 : decode cX6_turn 66 = .ok (.ireturn, 1) := by decide +kernel
theorem dX6_uneven_0 : decode cX6_uneven 0 = .ok (.iconst 0, 1) := by decide +kernel
theorem dX6_uneven_1 : decode cX6_uneven 1 = .ok (.istore_n 1, 1) := by decide +kernel
theorem dX6_uneven_2 : decode cX6_uneven 2 = .ok (.iconst 0, 1) := by decide +kernel
theorem dX6_uneven_3 : decode cX6_uneven 3 = .ok (.istore_n 2, 1) := by decide +kernel
theorem dX6_uneven_4 : decode cX6_uneven 4 = .ok (.iload_n 2, 1) := by decide +kernel
theorem dX6_uneven_5 : decode cX6_uneven 5 = .ok (.aload_n 0, 1) := by decide +kernel
theorem dX6_uneven_6 : decode cX6_uneven 6 = .ok (.getfield 12, 3) := by decide +kernel
theorem dX6_uneven_9 : decode cX6_uneven 9 = .ok (.getfield 66, 3) := by decide +kernel
theorem dX6_uneven_12 : decode cX6_uneven 12 = .ok (.if_icmp .ge 21, 3) := by decide +kernel
theorem dX6_uneven_15 : decode cX6_uneven 15 = .ok (.iload_n 1, 1) := by decide +kernel
theorem dX6_uneven_16 : decode cX6_uneven 16 = .ok (.aload_n 0, 1) := by decide +kernel
theorem dX6_uneven_17 : decode cX6_uneven 17 = .ok (.getfield 12, 3) := by decide +kernel
theorem dX6_uneven_20 : decode cX6_uneven 20 = .ok (.getfield 87, 3) := by decide +kernel
theorem dX6_uneven_23 : decode cX6_uneven 23 = .ok (.iload_n 2, 1) := by decide +kernel
theorem dX6_uneven_24 : decode cX6_uneven 24 = .ok (.iaload, 1) := by decide +kernel
theorem dX6_uneven_25 : decode cX6_uneven 25 = .ok (.iadd, 1) := by decide +kernel
theorem dX6_uneven_26 : decode cX6_uneven 26 = .ok (.istore_n 1, 1) := by decide +kernel
theorem dX6_uneven_27 : decode cX6_uneven 27 = .ok (.iinc 2 1, 3) := by decide +kernel
theorem dX6_uneven_30 : decode cX6_uneven 30 = .ok (.goto (-26), 3) := by decide +kernel
theorem dX6_uneven_33 : decode cX6_uneven 33 = .ok (.iconst 0, 1) := by decide +kernel
theorem dX6_uneven_34 : decode cX6_uneven 34 = .ok (.istore_n 2, 1) := by decide +kernel
theorem dX6_uneven_35 : decode cX6_uneven 35 = .ok (.iconst 0, 1) := by decide +kernel
theorem dX6_uneven_36 : decode cX6_uneven 36 = .ok (.istore_n 3, 1) := by decide +kernel
theorem dX6_uneven_37 : decode cX6_uneven 37 = .ok (.iload_n 3, 1) := by decide +kernel
theorem dX6_uneven_38 : decode cX6_uneven 38 = .ok (.aload_n 0, 1) := by decide +kernel
theorem dX6_uneven_39 : decode cX6_uneven 39 = .ok (.getfield 12, 3) := by decide +kernel
theorem dX6_uneven_42 : decode cX6_uneven 42 = .ok (.getfield 66, 3) := by decide +kernel
theorem dX6_uneven_45 : decode cX6_uneven 45 = .ok (.if_icmp .ge 38, 3) := by decide +kernel
theorem dX6_uneven_48 : decode cX6_uneven 48 = .ok (.aload_n 0, 1) := by decide +kernel
theorem dX6_uneven_49 : decode cX6_uneven 49 = .ok (.getfield 12, 3) := by decide +kernel
theorem dX6_uneven_52 : decode cX6_uneven 52 = .ok (.getfield 87, 3) := by decide +kernel
theorem dX6_uneven_55 : decode cX6_uneven 55 = .ok (.iload_n 3, 1) := by decide +kernel
theorem dX6_uneven_56 : decode cX6_uneven 56 = .ok (.iaload, 1) := by decide +kernel
theorem dX6_uneven_57 : decode cX6_uneven 57 = .ok (.aload_n 0, 1) := by decide +kernel
theorem dX6_uneven_58 : decode cX6_uneven 58 = .ok (.getfield 12, 3) := by decide +kernel
theorem dX6_uneven_61 : decode cX6_uneven 61 = .ok (.getfield 66, 3) := by decide +kernel
theorem dX6_uneven_64 : decode cX6_uneven 64 = .ok (.imul, 1) := by decide +kernel
theorem dX6_uneven_65 : decode cX6_uneven 65 = .ok (.iload_n 1, 1) := by decide +kernel
theorem dX6_uneven_66 : decode cX6_uneven 66 = .ok (.isub, 1) := by decide +kernel
theorem dX6_uneven_67 : decode cX6_uneven 67 = .ok (.istore 4, 2) := by decide +kernel
theorem dX6_uneven_69 : decode cX6_uneven 69 = .ok (.iload_n 2, 1) := by decide +kernel
theorem dX6_uneven_70 : decode cX6_uneven 70 = .ok (.iload 4, 2) := by decide +kernel
theorem dX6_uneven_72 : decode cX6_uneven 72 = .ok (.iload 4, 2) := by decide +kernel
theorem dX6_uneven_74 : decode cX6_uneven 74 = .ok (.imul, 1) := by decide +kernel
theorem dX6_uneven_75 : decode cX6_uneven 75 = .ok (.iadd, 1) := by decide +kernel
theorem dX6_uneven_76 : decode cX6_uneven 76 = .ok (.istore_n 2, 1) := by decide +kernel
theorem dX6_uneven_77 : decode cX6_uneven 77 = .ok (.iinc 3 1, 3) := by decide +kernel
theorem dX6_uneven_80 : decode cX6_uneven 80 = .ok (.goto (-43), 3) := by decide +kernel
theorem dX6_uneven_83 : decode cX6_uneven 83 = .ok (.iload_n 2, 1) := by decide +kernel
theorem dX6_uneven_84 : decode cX6_uneven 84 = .ok (.ireturn, 1) := by decide +kernel
theorem dX7_act_0 : decode cX7_act 0 = .ok (.aload_n 0, 1) := by decide +kernel
theorem dX7_act_1 : decode cX7_act 1 = .ok (.iconst 0, 1) := by decide +kernel
theorem dX7_act_2 : decode cX7_act 2 = .ok (.putfield 207, 3) := by decide +kernel
theorem dX7_act_5 : decode cX7_act 5 = .ok (.aload_n 0, 1) := by decide +kernel
theorem dX7_act_6 : decode cX7_act 6 = .ok (.iload_n 1, 1) := by decide +kernel
theorem dX7_act_7 : decode cX7_act 7 = .ok (.invokevirtual 229, 3) := by decide +kernel
theorem dX7_act_10 : decode cX7_act 10 = .ok (.ifCond .eq 13, 3) := by decide +kernel
theorem dX7_act_13 : decode cX7_act 13 = .ok (.aload_n 0, 1) := by decide +kernel
theorem dX7_act_14 : decode cX7_act 14 = .ok (.iload_n 2, 1) := by decide +kernel
theorem dX7_act_15 : decode cX7_act 15 = .ok (.iconst 0, 1) := by decide +kernel
theorem dX7_act_16 : decode cX7_act 16 = .ok (.iconst 2, 1) := by decide +kernel
theorem dX7_act_17 : decode cX7_act 17 = .ok (.invokevirtual 7, 3) := by decide +kernel
theorem dX7_act_20 : decode cX7_act 20 = .ok (.ifCond .ne 5, 3) := by decide +kernel
theorem dX7_act_23 : decode cX7_act 23 = .ok (.iconst 0, 1) := by decide +kernel
theorem dX7_act_24 : decode cX7_act 24 = .ok (.ireturn, 1) := by decide +kernel
theorem dX7_act_25 : decode cX7_act 25 = .ok (.iload_n 2, 1) := by decide +kernel
theorem dX7_act_26 : decode cX7_act 26 = .ok (.ifCond .ne 12, 3) := by decide +kernel
theorem dX7_act_29 : decode cX7_act 29 = .ok (.aload_n 0, 1) := by decide +kernel
theorem dX7_act_30 : decode cX7_act 30 = .ok (.iload_n 1, 1) := by decide +kernel
theorem dX7_act_31 : decode cX7_act 31 = .ok (.iload_n 3, 1) := by decide +kernel
theorem dX7_act_32 : decode cX7_act 32 = .ok (.invokevirtual 393, 3) := by decide +kernel
theorem dX7_act_35 : decode cX7_act 35 = .ok (.goto 23, 3) := by decide +kernel
theorem dX7_act_38 : decode cX7_act 38 = .ok (.iload_n 2, 1) := by decide +kernel
theorem dX7_act_39 : decode cX7_act 39 = .ok (.iconst 1, 1) := by decide +kernel
theorem dX7_act_40 : decode cX7_act 40 = .ok (.if_icmp .ne 12, 3) := by decide +kernel
theorem dX7_act_43 : decode cX7_act 43 = .ok (.aload_n 0, 1) := by decide +kernel
