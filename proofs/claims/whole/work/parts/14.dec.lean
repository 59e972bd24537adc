theorem dX7_layOrder_36 : decode cX7_layOrder 36 = .ok (.isub, 1) := by decide +kernel
theorem dX7_layOrder_37 : decode cX7_layOrder 37 = .ok (.istore_n 3, 1) := by decide +kernel
theorem dX7_layOrder_38 : decode cX7_layOrder 38 = .ok (.iload_n 1, 1) := by decide +kernel
theorem dX7_layOrder_39 : decode cX7_layOrder 39 = .ok (.istore 4, 2) := by decide +kernel
theorem dX7_layOrder_41 : decode cX7_layOrder 41 = .ok (.iconst 0, 1) := by decide +kernel
theorem dX7_layOrder_42 : decode cX7_layOrder 42 = .ok (.istore 5, 2) := by decide +kernel
theorem dX7_layOrder_44 : decode cX7_layOrder 44 = .ok (.iload 5, 2) := by decide +kernel
theorem dX7_layOrder_46 : decode cX7_layOrder 46 = .ok (.aload_n 0, 1) := by decide +kernel
theorem dX7_layOrder_47 : decode cX7_layOrder 47 = .ok (.getfield 1, 3) := by decide +kernel
theorem dX7_layOrder_50 : decode cX7_layOrder 50 = .ok (.if_icmp .ge 93, 3) := by decide +kernel
theorem dX7_layOrder_53 : decode cX7_layOrder 53 = .ok (.iload_n 2, 1) := by decide +kernel
theorem dX7_layOrder_54 : decode cX7_layOrder 54 = .ok (.aload_n 0, 1) := by decide +kernel
theorem dX7_layOrder_55 : decode cX7_layOrder 55 = .ok (.getfield 1, 3) := by decide +kernel
theorem dX7_layOrder_58 : decode cX7_layOrder 58 = .ok (.iload 5, 2) := by decide +kernel
theorem dX7_layOrder_60 : decode cX7_layOrder 60 = .ok (.isub, 1) := by decide +kernel
theorem dX7_layOrder_61 : decode cX7_layOrder 61 = .ok (.idiv, 1) := by decide +kernel
theorem dX7_layOrder_62 : decode cX7_layOrder 62 = .ok (.istore_n 2, 1) := by decide +kernel
theorem dX7_layOrder_63 : decode cX7_layOrder 63 = .ok (.iload 4, 2) := by decide +kernel
theorem dX7_layOrder_65 : decode cX7_layOrder 65 = .ok (.iload_n 2, 1) := by decide +kernel
theorem dX7_layOrder_66 : decode cX7_layOrder 66 = .ok (.idiv, 1) := by decide +kernel
theorem dX7_layOrder_67 : decode cX7_layOrder 67 = .ok (.istore 6, 2) := by decide +kernel
theorem dX7_layOrder_69 : decode cX7_layOrder 69 = .ok (.iload 4, 2) := by decide +kernel
theorem dX7_layOrder_71 : decode cX7_layOrder 71 = .ok (.iload_n 2, 1) := by decide +kernel
theorem dX7_layOrder_72 : decode cX7_layOrder 72 = .ok (.irem, 1) := by decide +kernel
theorem dX7_layOrder_73 : decode cX7_layOrder 73 = .ok (.istore 4, 2) := by decide +kernel
theorem dX7_layOrder_75 : decode cX7_layOrder 75 = .ok (.iconst 0, 1) := by decide +kernel
theorem dX7_layOrder_76 : decode cX7_layOrder 76 = .ok (.istore 7, 2) := by decide +kernel
theorem dX7_layOrder_78 : decode cX7_layOrder 78 = .ok (.aload_n 0, 1) := by decide +kernel
theorem dX7_layOrder_79 : decode cX7_layOrder 79 = .ok (.iload_n 3, 1) := by decide +kernel
theorem dX7_layOrder_80 : decode cX7_layOrder 80 = .ok (.iload 7, 2) := by decide +kernel
theorem dX7_layOrder_82 : decode cX7_layOrder 82 = .ok (.invokevirtual 348, 3) := by decide +kernel
theorem dX7_layOrder_85 : decode cX7_layOrder 85 = .ok (.ifCond .eq 8, 3) := by decide +kernel
theorem dX7_layOrder_88 : decode cX7_layOrder 88 = .ok (.iload 6, 2) := by decide +kernel
theorem dX7_layOrder_90 : decode cX7_layOrder 90 = .ok (.ifCond .le 29, 3) := by decide +kernel
theorem dX7_layOrder_93 : decode cX7_layOrder 93 = .ok (.iload 6, 2) := by decide +kernel
theorem dX7_layOrder_95 : decode cX7_layOrder 95 = .ok (.aload_n 0, 1) := by decide +kernel
theorem dX7_layOrder_96 : decode cX7_layOrder 96 = .ok (.iload_n 3, 1) := by decide +kernel
theorem dX7_layOrder_97 : decode cX7_layOrder 97 = .ok (.iload 7, 2) := by decide +kernel
theorem dX7_layOrder_99 : decode cX7_layOrder 99 = .ok (.invokevirtual 348, 3) := by decide +kernel
theorem dX7_layOrder_102 : decode cX7_layOrder 102 = .ok (.ifCond .eq 7, 3) := by decide +kernel
theorem dX7_layOrder_105 : decode cX7_layOrder 105 = .ok (.iconst 1, 1) := by decide +kernel
theorem dX7_layOrder_106 : decode cX7_layOrder 106 = .ok (.goto 4, 3) := by decide +kernel
theorem dX7_layOrder_109 : decode cX7_layOrder 109 = .ok (.iconst 0, 1) := by decide +kernel
theorem dX7_layOrder_110 : decode cX7_layOrder 110 = .ok (.isub, 1) := by decide +kernel
theorem dX7_layOrder_111 : decode cX7_layOrder 111 = .ok (.istore 6, 2) := by decide +kernel
theorem dX7_layOrder_113 : decode cX7_layOrder 113 = .ok (.iinc 7 1, 3) := by decide +kernel
theorem dX7_layOrder_116 : decode cX7_layOrder 116 = .ok (.goto (-38), 3) := by decide +kernel
theorem dX7_layOrder_119 : decode cX7_layOrder 119 = .ok (.aload_n 0, 1) := by decide +kernel
theorem dX7_layOrder_120 : decode cX7_layOrder 120 = .ok (.getfield 43, 3) := by decide +kernel
theorem dX7_layOrder_123 : decode cX7_layOrder 123 = .ok (.iload 5, 2) := by decide +kernel
theorem dX7_layOrder_125 : decode cX7_layOrder 125 = .ok (.iload 7, 2) := by decide +kernel
theorem dX7_layOrder_127 : decode cX7_layOrder 127 = .ok (.iastore, 1) := by decide +kernel
theorem dX7_layOrder_128 : decode cX7_layOrder 128 = .ok (.iload_n 3, 1) := by decide +kernel
theorem dX7_layOrder_129 : decode cX7_layOrder 129 = .ok (.iconst 1, 1) := by decide +kernel
theorem dX7_layOrder_130 : decode cX7_layOrder 130 = .ok (.iload 7, 2) := by decide +kernel
theorem dX7_layOrder_132 : decode cX7_layOrder 132 = .ok (.ishl, 1) := by decide +kernel
theorem dX7_layOrder_133 : decode cX7_layOrder 133 = .ok (.iconst (-1), 1) := by decide +kernel
theorem dX7_layOrder_134 : decode cX7_layOrder 134 = .ok (.ixor, 1) := by decide +kernel
theorem dX7_layOrder_135 : decode cX7_layOrder 135 = .ok (.iand, 1) := by decide +kernel
theorem dX7_layOrder_136 : decode cX7_layOrder 136 = .ok (.istore_n 3, 1) := by decide +kernel
theorem dX7_layOrder_137 : decode cX7_layOrder 137 = .ok (.iinc 5 1, 3) := by decide +kernel
theorem dX7_layOrder_140 : decode cX7_layOrder 140 = .ok (.goto (-96), 3) := by decide +kernel
theorem dX7_layOrder_143 : decode cX7_layOrder 143 = .ok (.iconst 1, 1) := by decide +kernel
theorem dX7_layOrder_144 : decode cX7_layOrder 144 = .ok (.ireturn, 1) := by decide +kernel
theorem dX7_leans_0 : decode cX7_leans 0 = .ok (.bipush (-5), 2) := by decide +kernel
theorem dX7_leans_2 : decode cX7_leans 2 = .ok (.istore_n 1, 1) := by decide +kernel
theorem dX7_leans_3 : decode cX7_leans 3 = .ok (.iconst 0, 1) := by decide +kernel
theorem dX7_leans_4 : decode cX7_leans 4 = .ok (.istore_n 2, 1) := by decide +kernel
theorem dX7_leans_5 : decode cX7_leans 5 = .ok (.iconst 0, 1) := by decide +kernel
theorem dX7_leans_6 : decode cX7_leans 6 = .ok (.istore_n 3, 1) := by decide +kernel
theorem dX7_leans_7 : decode cX7_leans 7 = .ok (.iload_n 3, 1) := by decide +kernel
theorem dX7_leans_8 : decode cX7_leans 8 = .ok (.aload_n 0, 1) := by decide +kernel
theorem dX7_leans_9 : decode cX7_leans 9 = .ok (.getfield 1, 3) := by decide +kernel
theorem dX7_leans_12 : decode cX7_leans 12 = .ok (.if_icmp .ge 43, 3) := by decide +kernel
theorem dX7_leans_15 : decode cX7_leans 15 = .ok (.aload_n 0, 1) := by decide +kernel
theorem dX7_leans_16 : decode cX7_leans 16 = .ok (.iload_n 3, 1) := by decide +kernel
theorem dX7_leans_17 : decode cX7_leans 17 = .ok (.aload_n 0, 1) := by decide +kernel
theorem dX7_leans_18 : decode cX7_leans 18 = .ok (.invokevirtual 303, 3) := by decide +kernel
theorem dX7_leans_21 : decode cX7_leans 21 = .ok (.aload_n 0, 1) := by decide +kernel
theorem dX7_leans_22 : decode cX7_leans 22 = .ok (.invokevirtual 306, 3) := by decide +kernel
theorem dX7_leans_25 : decode cX7_leans 25 = .ok (.iconst 0, 1) := by decide +kernel
theorem dX7_leans_26 : decode cX7_leans 26 = .ok (.invokevirtual 322, 3) := by decide +kernel
theorem dX7_leans_29 : decode cX7_leans 29 = .ok (.istore 4, 2) := by decide +kernel
theorem dX7_leans_31 : decode cX7_leans 31 = .ok (.iload_n 1, 1) := by decide +kernel
theorem dX7_leans_32 : decode cX7_leans 32 = .ok (.ifCond .lt 12, 3) := by decide +kernel
theorem dX7_leans_35 : decode cX7_leans 35 = .ok (.iload 4, 2) := by decide +kernel
theorem dX7_leans_37 : decode cX7_leans 37 = .ok (.iload_n 2, 1) := by decide +kernel
theorem dX7_leans_38 : decode cX7_leans 38 = .ok (.if_icmp .gt 6, 3) := by decide +kernel
theorem dX7_leans_41 : decode cX7_leans 41 = .ok (.goto 8, 3) := by decide +kernel
theorem dX7_leans_44 : decode cX7_leans 44 = .ok (.iload_n 3, 1) := by decide +kernel
theorem dX7_leans_45 : decode cX7_leans 45 = .ok (.istore_n 1, 1) := by decide +kernel
theorem dX7_leans_46 : decode cX7_leans 46 = .ok (.iload 4, 2) := by decide +kernel
theorem dX7_leans_48 : decode cX7_leans 48 = .ok (.istore_n 2, 1) := by decide +kernel
theorem dX7_leans_49 : decode cX7_leans 49 = .ok (.iinc 3 1, 3) := by decide +kernel
theorem dX7_leans_52 : decode cX7_leans 52 = .ok (.goto (-45), 3) := by decide +kernel
theorem dX7_leans_55 : decode cX7_leans 55 = .ok (.iload_n 1, 1) := by decide +kernel
theorem dX7_leans_56 : decode cX7_leans 56 = .ok (.ireturn, 1) := by decide +kernel
theorem dX7_letterAt_0 : decode cX7_letterAt 0 = .ok (.iload_n 1, 1) := by decide +kernel
theorem dX7_letterAt_1 : decode cX7_letterAt 1 = .ok (.tableswitch 91 100 115 #[79, 91, 91, 91, 91, 91, 91, 81, 87, 91, 83, 91, 89, 91, 91, 85], 79) := by decide +kernel
theorem dX7_letterAt_80 : decode cX7_letterAt 80 = .ok (.iconst 0, 1) := by decide +kernel
theorem dX7_letterAt_81 : decode cX7_letterAt 81 = .ok (.ireturn, 1) := by decide +kernel
theorem dX7_letterAt_82 : decode cX7_letterAt 82 = .ok (.iconst 1, 1) := by decide +kernel
theorem dX7_letterAt_83 : decode cX7_letterAt 83 = .ok (.ireturn, 1) := by decide +kernel
theorem dX7_letterAt_84 : decode cX7_letterAt 84 = .ok (.iconst 2, 1) := by decide +kernel
theorem dX7_letterAt_85 : decode cX7_letterAt 85 = .ok (.ireturn, 1) := by decide +kernel
theorem dX7_letterAt_86 : decode cX7_letterAt 86 = .ok (.iconst 3, 1) := by decide +kernel
theorem dX7_letterAt_87 : decode cX7_letterAt 87 = .ok (.ireturn, 1) := by decide +kernel
theorem dX7_letterAt_88 : decode cX7_letterAt 88 = .ok (.iconst 4, 1) := by decide +kernel
theorem dX7_letterAt_89 : decode cX7_letterAt 89 = .ok (.ireturn, 1) := by decide +kernel
theorem dX7_letterAt_90 : decode cX7_letterAt 90 = .ok (.iconst 5, 1) := by decide +kernel
theorem dX7_letterAt_91 : decode cX7_letterAt 91 = .ok (.ireturn, 1) := by decide +kernel
theorem dX7_letterAt_92 : decode cX7_letterAt 92 = .ok (.iconst (-1), 1) := by decide +kernel
theorem dX7_letterAt_93 : decode cX7_letterAt 93 = .ok (.ireturn, 1) := by decide +kernel
theorem dX7_likely_0 : decode cX7_likely 0 = .ok (.aload_n 0, 1) := by decide +kernel
theorem dX7_likely_1 : decode cX7_likely 1 = .ok (.iload_n 1, 1) := by decide +kernel
theorem dX7_likely_2 : decode cX7_likely 2 = .ok (.invokevirtual 229, 3) := by decide +kernel
theorem dX7_likely_5 : decode cX7_likely 5 = .ok (.ifCond .ne 5, 3) := by decide +kernel
theorem dX7_likely_8 : decode cX7_likely 8 = .ok (.iconst (-1), 1) := by decide +kernel
theorem dX7_likely_9 : decode cX7_likely 9 = .ok (.ireturn, 1) := by decide +kernel
theorem dX7_likely_10 : decode cX7_likely 10 = .ok (.aload_n 0, 1) := by decide +kernel
theorem dX7_likely_11 : decode cX7_likely 11 = .ok (.invokevirtual 342, 3) := by decide +kernel
theorem dX7_likely_14 : decode cX7_likely 14 = .ok (.aload_n 0, 1) := by decide +kernel
theorem dX7_likely_15 : decode cX7_likely 15 = .ok (.getfield 110, 3) := by decide +kernel
theorem dX7_likely_18 : decode cX7_likely 18 = .ok (.iload_n 1, 1) := by decide +kernel
theorem dX7_likely_19 : decode cX7_likely 19 = .ok (.iaload, 1) := by decide +kernel
theorem dX7_likely_20 : decode cX7_likely 20 = .ok (.ireturn, 1) := by decide +kernel
theorem dX7_looked_0 : decode cX7_looked 0 = .ok (.aload_n 0, 1) := by decide +kernel
theorem dX7_looked_1 : decode cX7_looked 1 = .ok (.invokevirtual 375, 3) := by decide +kernel
theorem dX7_looked_4 : decode cX7_looked 4 = .ok (.aload_n 0, 1) := by decide +kernel
theorem dX7_looked_5 : decode cX7_looked 5 = .ok (.invokevirtual 226, 3) := by decide +kernel
theorem dX7_looked_8 : decode cX7_looked 8 = .ok (.bipush (-5), 2) := by decide +kernel
theorem dX7_looked_10 : decode cX7_looked 10 = .ok (.istore_n 1, 1) := by decide +kernel
theorem dX7_looked_11 : decode cX7_looked 11 = .ok (.iconst 0, 1) := by decide +kernel
theorem dX7_looked_12 : decode cX7_looked 12 = .ok (.istore_n 2, 1) := by decide +kernel
theorem dX7_looked_13 : decode cX7_looked 13 = .ok (.iload_n 2, 1) := by decide +kernel
theorem dX7_looked_14 : decode cX7_looked 14 = .ok (.aload_n 0, 1) := by decide +kernel
theorem dX7_looked_15 : decode cX7_looked 15 = .ok (.getfield 149, 3) := by decide +kernel
theorem dX7_looked_18 : decode cX7_looked 18 = .ok (.if_icmp .ge 51, 3) := by decide +kernel
theorem dX7_looked_21 : decode cX7_looked 21 = .ok (.aload_n 0, 1) := by decide +kernel
theorem dX7_looked_22 : decode cX7_looked 22 = .ok (.getfield 1, 3) := by decide +kernel
theorem dX7_looked_25 : decode cX7_looked 25 = .ok (.ifCond .le 44, 3) := by decide +kernel
theorem dX7_looked_28 : decode cX7_looked 28 = .ok (.iload_n 1, 1) := by decide +kernel
theorem dX7_looked_29 : decode cX7_looked 29 = .ok (.ifCond .ge 40, 3) := by decide +kernel
theorem dX7_looked_32 : decode cX7_looked 32 = .ok (.aload_n 0, 1) := by decide +kernel
theorem dX7_looked_33 : decode cX7_looked 33 = .ok (.aload_n 0, 1) := by decide +kernel
theorem dX7_looked_34 : decode cX7_looked 34 = .ok (.getfield 152, 3) := by decide +kernel
theorem dX7_looked_37 : decode cX7_looked 37 = .ok (.iload_n 2, 1) := by decide +kernel
theorem dX7_looked_38 : decode cX7_looked 38 = .ok (.iaload, 1) := by decide +kernel
theorem dX7_looked_39 : decode cX7_looked 39 = .ok (.invokevirtual 336, 3) := by decide +kernel
theorem dX7_looked_42 : decode cX7_looked 42 = .ok (.ifCond .eq 7, 3) := by decide +kernel
theorem dX7_looked_45 : decode cX7_looked 45 = .ok (.iload_n 2, 1) := by decide +kernel
theorem dX7_looked_46 : decode cX7_looked 46 = .ok (.goto 5, 3) := by decide +kernel
theorem dX7_looked_49 : decode cX7_looked 49 = .ok (.bipush (-5), 2) := by decide +kernel
theorem dX7_looked_51 : decode cX7_looked 51 = .ok (.istore_n 1, 1) := by decide +kernel
theorem dX7_looked_52 : decode cX7_looked 52 = .ok (.aload_n 0, 1) := by decide +kernel
theorem dX7_looked_53 : decode cX7_looked 53 = .ok (.invokevirtual 339, 3) := by decide +kernel
theorem dX7_looked_56 : decode cX7_looked 56 = .ok (.ifCond .eq 7, 3) := by decide +kernel
theorem dX7_looked_59 : decode cX7_looked 59 = .ok (.aload_n 0, 1) := by decide +kernel
theorem dX7_looked_60 : decode cX7_looked 60 = .ok (.invokevirtual 226, 3) := by decide +kernel
theorem dX7_looked_63 : decode cX7_looked 63 = .ok (.iinc 2 1, 3) := by decide +kernel
theorem dX7_looked_66 : decode cX7_looked 66 = .ok (.goto (-53), 3) := by decide +kernel
theorem dX7_looked_69 : decode cX7_looked 69 = .ok (.aload_n 0, 1) := by decide +kernel
theorem dX7_looked_70 : decode cX7_looked 70 = .ok (.invokevirtual 378, 3) := by decide +kernel
theorem dX7_looked_73 : decode cX7_looked 73 = .ok (.iload_n 1, 1) := by decide +kernel
theorem dX7_looked_74 : decode cX7_looked 74 = .ok (.ireturn, 1) := by decide +kernel
theorem dX7_lowest_0 : decode cX7_lowest 0 = .ok (.aload_n 0, 1) := by decide +kernel
theorem dX7_lowest_1 : decode cX7_lowest 1 = .ok (.lload_n 1, 1) := by decide +kernel
theorem dX7_lowest_2 : decode cX7_lowest 2 = .ok (.lload_n 3, 1) := by decide +kernel
theorem dX7_lowest_3 : decode cX7_lowest 3 = .ok (.invokevirtual 361, 3) := by decide +kernel
theorem dX7_lowest_6 : decode cX7_lowest 6 = .ok (.lstore 6, 2) := by decide +kernel
theorem dX7_lowest_8 : decode cX7_lowest 8 = .ok (.iload 5, 2) := by decide +kernel
theorem dX7_lowest_10 : decode cX7_lowest 10 = .ok (.ifCond .ne 10, 3) := by decide +kernel
theorem dX7_lowest_13 : decode cX7_lowest 13 = .ok (.lload_n 1, 1) := by decide +kernel
theorem dX7_lowest_14 : decode cX7_lowest 14 = .ok (.lload 6, 2) := by decide +kernel
theorem dX7_lowest_16 : decode cX7_lowest 16 = .ok (.ldiv, 1) := by decide +kernel
theorem dX7_lowest_17 : decode cX7_lowest 17 = .ok (.goto 7, 3) := by decide +kernel
theorem dX7_lowest_20 : decode cX7_lowest 20 = .ok (.lload_n 3, 1) := by decide +kernel
theorem dX7_lowest_21 : decode cX7_lowest 21 = .ok (.lload 6, 2) := by decide +kernel
theorem dX7_lowest_23 : decode cX7_lowest 23 = .ok (.ldiv, 1) := by decide +kernel
theorem dX7_lowest_24 : decode cX7_lowest 24 = .ok (.lreturn, 1) := by decide +kernel
theorem dX7_mean_0 : decode cX7_mean 0 = .ok (.aload_n 0, 1) := by decide +kernel
theorem dX7_mean_1 : decode cX7_mean 1 = .ok (.iload_n 1, 1) := by decide +kernel
theorem dX7_mean_2 : decode cX7_mean 2 = .ok (.iconst 0, 1) := by decide +kernel
theorem dX7_mean_3 : decode cX7_mean 3 = .ok (.iconst 1, 1) := by decide +kernel
theorem dX7_mean_4 : decode cX7_mean 4 = .ok (.invokevirtual 7, 3) := by decide +kernel
theorem dX7_mean_7 : decode cX7_mean 7 = .ok (.ifCond .eq 10, 3) := by decide +kernel
theorem dX7_mean_10 : decode cX7_mean 10 = .ok (.aload_n 0, 1) := by decide +kernel
theorem dX7_mean_11 : decode cX7_mean 11 = .ok (.getfield 1, 3) := by decide +kernel
theorem dX7_mean_14 : decode cX7_mean 14 = .ok (.ifCond .ne 7, 3) := by decide +kernel
theorem dX7_mean_17 : decode cX7_mean 17 = .ok (.ldc2_w 365, 3) := by decide +kernel
theorem dX7_mean_20 : decode cX7_mean 20 = .ok (.lreturn, 1) := by decide +kernel
theorem dX7_mean_21 : decode cX7_mean 21 = .ok (.aload_n 0, 1) := by decide +kernel
theorem dX7_mean_22 : decode cX7_mean 22 = .ok (.invokevirtual 342, 3) := by decide +kernel
theorem dX7_mean_25 : decode cX7_mean 25 = .ok (.lconst 0, 1) := by decide +kernel
theorem dX7_mean_26 : decode cX7_mean 26 = .ok (.lstore_n 2, 1) := by decide +kernel
theorem dX7_mean_27 : decode cX7_mean 27 = .ok (.iconst 0, 1) := by decide +kernel
theorem dX7_mean_28 : decode cX7_mean 28 = .ok (.istore 4, 2) := by decide +kernel
theorem dX7_mean_30 : decode cX7_mean 30 = .ok (.iload 4, 2) := by decide +kernel
theorem dX7_mean_32 : decode cX7_mean 32 = .ok (.aload_n 0, 1) := by decide +kernel
theorem dX7_mean_33 : decode cX7_mean 33 = .ok (.getfield 1, 3) := by decide +kernel
theorem dX7_mean_36 : decode cX7_mean 36 = .ok (.if_icmp .ge 20, 3) := by decide +kernel
theorem dX7_mean_39 : decode cX7_mean 39 = .ok (.lload_n 2, 1) := by decide +kernel
theorem dX7_mean_40 : decode cX7_mean 40 = .ok (.aload_n 0, 1) := by decide +kernel
theorem dX7_mean_41 : decode cX7_mean 41 = .ok (.getfield 110, 3) := by decide +kernel
theorem dX7_mean_44 : decode cX7_mean 44 = .ok (.iload 4, 2) := by decide +kernel
theorem dX7_mean_46 : decode cX7_mean 46 = .ok (.iaload, 1) := by decide +kernel
theorem dX7_mean_47 : decode cX7_mean 47 = .ok (.i2l, 1) := by decide +kernel
theorem dX7_mean_48 : decode cX7_mean 48 = .ok (.ladd, 1) := by decide +kernel
theorem dX7_mean_49 : decode cX7_mean 49 = .ok (.lstore_n 2, 1) := by decide +kernel
theorem dX7_mean_50 : decode cX7_mean 50 = .ok (.iinc 4 1, 3) := by decide +kernel
theorem dX7_mean_53 : decode cX7_mean 53 = .ok (.goto (-23), 3) := by decide +kernel
theorem dX7_mean_56 : decode cX7_mean 56 = .ok (.aload_n 0, 1) := by decide +kernel
theorem dX7_mean_57 : decode cX7_mean 57 = .ok (.lload_n 2, 1) := by decide +kernel
theorem dX7_mean_58 : decode cX7_mean 58 = .ok (.ldc2_w 326, 3) := by decide +kernel
theorem dX7_mean_61 : decode cX7_mean 61 = .ok (.iload_n 1, 1) := by decide +kernel
theorem dX7_mean_62 : decode cX7_mean 62 = .ok (.invokevirtual 369, 3) := by decide +kernel
theorem dX7_mean_65 : decode cX7_mean 65 = .ok (.lreturn, 1) := by decide +kernel
theorem dX7_most_0 : decode cX7_most 0 = .ok (.aload_n 0, 1) := by decide +kernel
theorem dX7_most_1 : decode cX7_most 1 = .ok (.iload_n 1, 1) := by decide +kernel
theorem dX7_most_2 : decode cX7_most 2 = .ok (.iconst 0, 1) := by decide +kernel
theorem dX7_most_3 : decode cX7_most 3 = .ok (.iconst 1, 1) := by decide +kernel
theorem dX7_most_4 : decode cX7_most 4 = .ok (.invokevirtual 7, 3) := by decide +kernel
theorem dX7_most_7 : decode cX7_most 7 = .ok (.ifCond .ne 5, 3) := by decide +kernel
theorem dX7_most_10 : decode cX7_most 10 = .ok (.iconst (-1), 1) := by decide +kernel
theorem dX7_most_11 : decode cX7_most 11 = .ok (.ireturn, 1) := by decide +kernel
theorem dX7_most_12 : decode cX7_most 12 = .ok (.bipush (-5), 2) := by decide +kernel
theorem dX7_most_14 : decode cX7_most 14 = .ok (.istore_n 2, 1) := by decide +kernel
theorem dX7_most_15 : decode cX7_most 15 = .ok (.sipush 999, 3) := by decide +kernel
theorem dX7_most_18 : decode cX7_most 18 = .ok (.istore_n 3, 1) := by decide +kernel
theorem dX7_most_19 : decode cX7_most 19 = .ok (.iconst 0, 1) := by decide +kernel
theorem dX7_most_20 : decode cX7_most 20 = .ok (.istore 4, 2) := by decide +kernel
theorem dX7_most_22 : decode cX7_most 22 = .ok (.iload 4, 2) := by decide +kernel
theorem dX7_most_24 : decode cX7_most 24 = .ok (.aload_n 0, 1) := by decide +kernel
theorem dX7_most_25 : decode cX7_most 25 = .ok (.getfield 1, 3) := by decide +kernel
theorem dX7_most_28 : decode cX7_most 28 = .ok (.if_icmp .ge 55, 3) := by decide +kernel
theorem dX7_most_31 : decode cX7_most 31 = .ok (.iload_n 2, 1) := by decide +kernel
theorem dX7_most_32 : decode cX7_most 32 = .ok (.ifCond .lt 19, 3) := by decide +kernel
theorem dX7_most_35 : decode cX7_most 35 = .ok (.aload_n 0, 1) := by decide +kernel
theorem dX7_most_36 : decode cX7_most 36 = .ok (.getfield 37, 3) := by decide +kernel
theorem dX7_most_39 : decode cX7_most 39 = .ok (.iload 4, 2) := by decide +kernel
theorem dX7_most_41 : decode cX7_most 41 = .ok (.iaload, 1) := by decide +kernel
theorem dX7_most_42 : decode cX7_most 42 = .ok (.aload_n 0, 1) := by decide +kernel
theorem dX7_most_43 : decode cX7_most 43 = .ok (.getfield 37, 3) := by decide +kernel
theorem dX7_most_46 : decode cX7_most 46 = .ok (.iload_n 2, 1) := by decide +kernel
theorem dX7_most_47 : decode cX7_most 47 = .ok (.iaload, 1) := by decide +kernel
theorem dX7_most_48 : decode cX7_most 48 = .ok (.if_icmp .le 6, 3) := by decide +kernel
theorem dX7_most_51 : decode cX7_most 51 = .ok (.iload 4, 2) := by decide +kernel
theorem dX7_most_53 : decode cX7_most 53 = .ok (.istore_n 2, 1) := by decide +kernel
theorem dX7_most_54 : decode cX7_most 54 = .ok (.aload_n 0, 1) := by decide +kernel
theorem dX7_most_55 : decode cX7_most 55 = .ok (.getfield 37, 3) := by decide +kernel
theorem dX7_most_58 : decode cX7_most 58 = .ok (.iload 4, 2) := by decide +kernel
theorem dX7_most_60 : decode cX7_most 60 = .ok (.iaload, 1) := by decide +kernel
theorem dX7_most_61 : decode cX7_most 61 = .ok (.iload_n 3, 1) := by decide +kernel
theorem dX7_most_62 : decode cX7_most 62 = .ok (.if_icmp .ge 13, 3) := by decide +kernel
theorem dX7_most_65 : decode cX7_most 65 = .ok (.aload_n 0, 1) := by decide +kernel
theorem dX7_most_66 : decode cX7_most 66 = .ok (.getfield 37, 3) := by decide +kernel
theorem dX7_most_69 : decode cX7_most 69 = .ok (.iload 4, 2) := by decide +kernel
theorem dX7_most_71 : decode cX7_most 71 = .ok (.iaload, 1) := by decide +kernel
theorem dX7_most_72 : decode cX7_most 72 = .ok (.goto 4, 3) := by decide +kernel
theorem dX7_most_75 : decode cX7_most 75 = .ok (.iload_n 3, 1) := by decide +kernel
theorem dX7_most_76 : decode cX7_most 76 = .ok (.istore_n 3, 1) := by decide +kernel
theorem dX7_most_77 : decode cX7_most 77 = .ok (.iinc 4 1, 3) := by decide +kernel
theorem dX7_most_80 : decode cX7_most 80 = .ok (.goto (-58), 3) := by decide +kernel
theorem dX7_most_83 : decode cX7_most 83 = .ok (.iload_n 2, 1) := by decide +kernel
theorem dX7_most_84 : decode cX7_most 84 = .ok (.ifCond .lt 7, 3) := by decide +kernel
theorem dX7_most_87 : decode cX7_most 87 = .ok (.iload_n 1, 1) := by decide +kernel
theorem dX7_most_88 : decode cX7_most 88 = .ok (.ifCond .ne 7, 3) := by decide +kernel
theorem dX7_most_91 : decode cX7_most 91 = .ok (.iload_n 2, 1) := by decide +kernel
theorem dX7_most_92 : decode cX7_most 92 = .ok (.goto 11, 3) := by decide +kernel
theorem dX7_most_95 : decode cX7_most 95 = .ok (.aload_n 0, 1) := by decide +kernel
theorem dX7_most_96 : decode cX7_most 96 = .ok (.getfield 37, 3) := by decide +kernel
theorem dX7_most_99 : decode cX7_most 99 = .ok (.iload_n 2, 1) := by decide +kernel
theorem dX7_most_100 : decode cX7_most 100 = .ok (.iaload, 1) := by decide +kernel
theorem dX7_most_101 : decode cX7_most 101 = .ok (.iload_n 3, 1) := by decide +kernel
theorem dX7_most_102 : decode cX7_most 102 = .ok (.isub, 1) := by decide +kernel
theorem dX7_most_103 : decode cX7_most 103 = .ok (.ireturn, 1) := by decide +kernel
theorem dX7_narrow_0 : decode cX7_narrow 0 = .ok (.iload_n 1, 1) := by decide +kernel
theorem dX7_narrow_1 : decode cX7_narrow 1 = .ok (.ifCond .ne 10, 3) := by decide +kernel
theorem dX7_narrow_4 : decode cX7_narrow 4 = .ok (.lload_n 2, 1) := by decide +kernel
theorem dX7_narrow_5 : decode cX7_narrow 5 = .ok (.l2i, 1) := by decide +kernel
theorem dX7_narrow_6 : decode cX7_narrow 6 = .ok (.i2b, 1) := by decide +kernel
theorem dX7_narrow_7 : decode cX7_narrow 7 = .ok (.i2l, 1) := by decide +kernel
theorem dX7_narrow_8 : decode cX7_narrow 8 = .ok (.goto 46, 3) := by decide +kernel
theorem dX7_narrow_11 : decode cX7_narrow 11 = .ok (.iload_n 1, 1) := by decide +kernel
theorem dX7_narrow_12 : decode cX7_narrow 12 = .ok (.iconst 1, 1) := by decide +kernel
theorem dX7_narrow_13 : decode cX7_narrow 13 = .ok (.if_icmp .ne 10, 3) := by decide +kernel
theorem dX7_narrow_16 : decode cX7_narrow 16 = .ok (.lload_n 2, 1) := by decide +kernel
theorem dX7_narrow_17 : decode cX7_narrow 17 = .ok (.l2i, 1) := by decide +kernel
theorem dX7_narrow_18 : decode cX7_narrow 18 = .ok (.i2s, 1) := by decide +kernel
theorem dX7_narrow_19 : decode cX7_narrow 19 = .ok (.i2l, 1) := by decide +kernel
theorem dX7_narrow_20 : decode cX7_narrow 20 = .ok (.goto 34, 3) := by decide +kernel
theorem dX7_narrow_23 : decode cX7_narrow 23 = .ok (.iload_n 1, 1) := by decide +kernel
theorem dX7_narrow_24 : decode cX7_narrow 24 = .ok (.iconst 2, 1) := by decide +kernel
theorem dX7_narrow_25 : decode cX7_narrow 25 = .ok (.if_icmp .ne 9, 3) := by decide +kernel
theorem dX7_narrow_28 : decode cX7_narrow 28 = .ok (.lload_n 2, 1) := by decide +kernel
theorem dX7_narrow_29 : decode cX7_narrow 29 = .ok (.l2i, 1) := by decide +kernel
theorem dX7_narrow_30 : decode cX7_narrow 30 = .ok (.i2l, 1) := by decide +kernel
theorem dX7_narrow_31 : decode cX7_narrow 31 = .ok (.goto 23, 3) := by decide +kernel
theorem dX7_narrow_34 : decode cX7_narrow 34 = .ok (.iload_n 1, 1) := by decide +kernel
theorem dX7_narrow_35 : decode cX7_narrow 35 = .ok (.iconst 4, 1) := by decide +kernel
theorem dX7_narrow_36 : decode cX7_narrow 36 = .ok (.if_icmp .ne 17, 3) := by decide +kernel
theorem dX7_narrow_39 : decode cX7_narrow 39 = .ok (.lload_n 2, 1) := by decide +kernel
theorem dX7_narrow_40 : decode cX7_narrow 40 = .ok (.lconst 0, 1) := by decide +kernel
theorem dX7_narrow_41 : decode cX7_narrow 41 = .ok (.lcmp, 1) := by decide +kernel
theorem dX7_narrow_42 : decode cX7_narrow 42 = .ok (.ifCond .eq 7, 3) := by decide +kernel
theorem dX7_narrow_45 : decode cX7_narrow 45 = .ok (.lconst 1, 1) := by decide +kernel
theorem dX7_narrow_46 : decode cX7_narrow 46 = .ok (.goto 8, 3) := by decide +kernel
theorem dX7_narrow_49 : decode cX7_narrow 49 = .ok (.lconst 0, 1) := by decide +kernel
theorem dX7_narrow_50 : decode cX7_narrow 50 = .ok (.goto 4, 3) := by decide +kernel
theorem dX7_narrow_53 : decode cX7_narrow 53 = .ok (.lload_n 2, 1) := by decide +kernel
theorem dX7_narrow_54 : decode cX7_narrow 54 = .ok (.lreturn, 1) := by decide +kernel
theorem dX7_next_0 : decode cX7_next 0 = .ok (.aload_n 0, 1) := by decide +kernel
theorem dX7_next_1 : decode cX7_next 1 = .ok (.getfield 55, 3) := by decide +kernel
theorem dX7_next_4 : decode cX7_next 4 = .ok (.aload_n 0, 1) := by decide +kernel
theorem dX7_next_5 : decode cX7_next 5 = .ok (.getfield 52, 3) := by decide +kernel
theorem dX7_next_8 : decode cX7_next 8 = .ok (.if_icmp .ge 15, 3) := by decide +kernel
theorem dX7_next_11 : decode cX7_next 11 = .ok (.aload_n 0, 1) := by decide +kernel
theorem dX7_next_12 : decode cX7_next 12 = .ok (.getfield 61, 3) := by decide +kernel
theorem dX7_next_15 : decode cX7_next 15 = .ok (.aload_n 0, 1) := by decide +kernel
theorem dX7_next_16 : decode cX7_next 16 = .ok (.getfield 55, 3) := by decide +kernel
theorem dX7_next_19 : decode cX7_next 19 = .ok (.iaload, 1) := by decide +kernel
theorem dX7_next_20 : decode cX7_next 20 = .ok (.goto 4, 3) := by decide +kernel
theorem dX7_next_23 : decode cX7_next 23 = .ok (.iconst (-1), 1) := by decide +kernel
theorem dX7_next_24 : decode cX7_next 24 = .ok (.ireturn, 1) := by decide +kernel
theorem dX7_odds_0 : decode cX7_odds 0 = .ok (.aload_n 0, 1) := by decide +kernel
theorem dX7_odds_1 : decode cX7_odds 1 = .ok (.iload_n 1, 1) := by decide +kernel
theorem dX7_odds_2 : decode cX7_odds 2 = .ok (.invokevirtual 229, 3) := by decide +kernel
theorem dX7_odds_5 : decode cX7_odds 5 = .ok (.ifCond .eq 13, 3) := by decide +kernel
theorem dX7_odds_8 : decode cX7_odds 8 = .ok (.aload_n 0, 1) := by decide +kernel
theorem dX7_odds_9 : decode cX7_odds 9 = .ok (.iload_n 2, 1) := by decide +kernel
theorem dX7_odds_10 : decode cX7_odds 10 = .ok (.iconst 0, 1) := by decide +kernel
theorem dX7_odds_11 : decode cX7_odds 11 = .ok (.iconst 1, 1) := by decide +kernel
theorem dX7_odds_12 : decode cX7_odds 12 = .ok (.invokevirtual 7, 3) := by decide +kernel
theorem dX7_odds_15 : decode cX7_odds 15 = .ok (.ifCond .ne 7, 3) := by decide +kernel
theorem dX7_odds_18 : decode cX7_odds 18 = .ok (.ldc2_w 365, 3) := by decide +kernel
theorem dX7_odds_21 : decode cX7_odds 21 = .ok (.lreturn, 1) := by decide +kernel
theorem dX7_odds_22 : decode cX7_odds 22 = .ok (.aload_n 0, 1) := by decide +kernel
theorem dX7_odds_23 : decode cX7_odds 23 = .ok (.invokevirtual 342, 3) := by decide +kernel
theorem dX7_odds_26 : decode cX7_odds 26 = .ok (.aload_n 0, 1) := by decide +kernel
theorem dX7_odds_27 : decode cX7_odds 27 = .ok (.aload_n 0, 1) := by decide +kernel
theorem dX7_odds_28 : decode cX7_odds 28 = .ok (.getfield 110, 3) := by decide +kernel
theorem dX7_odds_31 : decode cX7_odds 31 = .ok (.iload_n 1, 1) := by decide +kernel
theorem dX7_odds_32 : decode cX7_odds 32 = .ok (.iaload, 1) := by decide +kernel
theorem dX7_odds_33 : decode cX7_odds 33 = .ok (.i2l, 1) := by decide +kernel
theorem dX7_odds_34 : decode cX7_odds 34 = .ok (.ldc2_w 326, 3) := by decide +kernel
theorem dX7_odds_37 : decode cX7_odds 37 = .ok (.iload_n 2, 1) := by decide +kernel
theorem dX7_odds_38 : decode cX7_odds 38 = .ok (.invokevirtual 369, 3) := by decide +kernel
theorem dX7_odds_41 : decode cX7_odds 41 = .ok (.lreturn, 1) := by decide +kernel
theorem dX7_of_0 : decode cX7_of 0 = .ok (.aload_n 0, 1) := by decide +kernel
theorem dX7_of_1 : decode cX7_of 1 = .ok (.iload_n 1, 1) := by decide +kernel
theorem dX7_of_2 : decode cX7_of 2 = .ok (.invokevirtual 229, 3) := by decide +kernel
theorem dX7_of_5 : decode cX7_of 5 = .ok (.ifCond .ne 5, 3) := by decide +kernel
theorem dX7_of_8 : decode cX7_of 8 = .ok (.iconst (-1), 1) := by decide +kernel
theorem dX7_of_9 : decode cX7_of 9 = .ok (.ireturn, 1) := by decide +kernel
theorem dX7_of_10 : decode cX7_of 10 = .ok (.iload_n 2, 1) := by decide +kernel
theorem dX7_of_11 : decode cX7_of 11 = .ok (.tableswitch 102 0 5 #[37, 44, 51, 58, 64, 83], 37) := by decide +kernel
theorem dX7_of_48 : decode cX7_of 48 = .ok (.aload_n 0, 1) := by decide +kernel
theorem dX7_of_49 : decode cX7_of 49 = .ok (.getfield 30, 3) := by decide +kernel
theorem dX7_of_52 : decode cX7_of 52 = .ok (.iload_n 1, 1) := by decide +kernel
theorem dX7_of_53 : decode cX7_of 53 = .ok (.iaload, 1) := by decide +kernel
theorem dX7_of_54 : decode cX7_of 54 = .ok (.ireturn, 1) := by decide +kernel
theorem dX7_of_55 : decode cX7_of 55 = .ok (.aload_n 0, 1) := by decide +kernel
theorem dX7_of_56 : decode cX7_of 56 = .ok (.getfield 34, 3) := by decide +kernel
theorem dX7_of_59 : decode cX7_of 59 = .ok (.iload_n 1, 1) := by decide +kernel
theorem dX7_of_60 : decode cX7_of 60 = .ok (.iaload, 1) := by decide +kernel
theorem dX7_of_61 : decode cX7_of 61 = .ok (.ireturn, 1) := by decide +kernel
theorem dX7_of_62 : decode cX7_of 62 = .ok (.aload_n 0, 1) := by decide +kernel
theorem dX7_of_63 : decode cX7_of 63 = .ok (.getfield 37, 3) := by decide +kernel
theorem dX7_of_66 : decode cX7_of 66 = .ok (.iload_n 1, 1) := by decide +kernel
theorem dX7_of_67 : decode cX7_of 67 = .ok (.iaload, 1) := by decide +kernel
theorem dX7_of_68 : decode cX7_of 68 = .ok (.ireturn, 1) := by decide +kernel
theorem dX7_of_69 : decode cX7_of 69 = .ok (.aload_n 0, 1) := by decide +kernel
theorem dX7_of_70 : decode cX7_of 70 = .ok (.iload_n 1, 1) := by decide +kernel
theorem dX7_of_71 : decode cX7_of 71 = .ok (.invokevirtual 233, 3) := by decide +kernel
theorem dX7_of_74 : decode cX7_of 74 = .ok (.ireturn, 1) := by decide +kernel
theorem dX7_of_75 : decode cX7_of 75 = .ok (.aload_n 0, 1) := by decide +kernel
theorem dX7_of_76 : decode cX7_of 76 = .ok (.iload_n 1, 1) := by decide +kernel
theorem dX7_of_77 : decode cX7_of 77 = .ok (.aload_n 0, 1) := by decide +kernel
theorem dX7_of_78 : decode cX7_of 78 = .ok (.getfield 21, 3) := by decide +kernel
theorem dX7_of_81 : decode cX7_of 81 = .ok (.aload_n 0, 1) := by decide +kernel
theorem dX7_of_82 : decode cX7_of 82 = .ok (.getfield 24, 3) := by decide +kernel
theorem dX7_of_85 : decode cX7_of 85 = .ok (.aload_n 0, 1) := by decide +kernel
theorem dX7_of_86 : decode cX7_of 86 = .ok (.iload_n 1, 1) := by decide +kernel
theorem dX7_of_87 : decode cX7_of 87 = .ok (.invokevirtual 233, 3) := by decide +kernel
theorem dX7_of_90 : decode cX7_of 90 = .ok (.invokevirtual 322, 3) := by decide +kernel
theorem dX7_of_93 : decode cX7_of 93 = .ok (.ireturn, 1) := by decide +kernel
theorem dX7_of_94 : decode cX7_of 94 = .ok (.aload_n 0, 1) := by decide +kernel
theorem dX7_of_95 : decode cX7_of 95 = .ok (.iload_n 1, 1) := by decide +kernel
theorem dX7_of_96 : decode cX7_of 96 = .ok (.aload_n 0, 1) := by decide +kernel
theorem dX7_of_97 : decode cX7_of 97 = .ok (.getfield 21, 3) := by decide +kernel
theorem dX7_of_100 : decode cX7_of 100 = .ok (.aload_n 0, 1) := by decide +kernel
theorem dX7_of_101 : decode cX7_of 101 = .ok (.getfield 24, 3) := by decide +kernel
theorem dX7_of_104 : decode cX7_of 104 = .ok (.aload_n 0, 1) := by decide +kernel
theorem dX7_of_105 : decode cX7_of 105 = .ok (.iload_n 1, 1) := by decide +kernel
theorem dX7_of_106 : decode cX7_of 106 = .ok (.invokevirtual 233, 3) := by decide +kernel
theorem dX7_of_109 : decode cX7_of 109 = .ok (.invokevirtual 330, 3) := by decide +kernel
theorem dX7_of_112 : decode cX7_of 112 = .ok (.ireturn, 1) := by decide +kernel
theorem dX7_of_113 : decode cX7_of 113 = .ok (.iconst (-1), 1) := by decide +kernel
theorem dX7_of_114 : decode cX7_of 114 = .ok (.ireturn, 1) := by decide +kernel
theorem dX7_place_0 : decode cX7_place 0 = .ok (.aload_n 0, 1) := by decide +kernel
theorem dX7_place_1 : decode cX7_place 1 = .ok (.iload_n 1, 1) := by decide +kernel
theorem dX7_place_2 : decode cX7_place 2 = .ok (.invokevirtual 229, 3) := by decide +kernel
theorem dX7_place_5 : decode cX7_place 5 = .ok (.ifCond .eq 18, 3) := by decide +kernel
theorem dX7_place_8 : decode cX7_place 8 = .ok (.aload_n 0, 1) := by decide +kernel
theorem dX7_place_9 : decode cX7_place 9 = .ok (.iload_n 2, 1) := by decide +kernel
theorem dX7_place_10 : decode cX7_place 10 = .ok (.iconst 0, 1) := by decide +kernel
theorem dX7_place_11 : decode cX7_place 11 = .ok (.aload_n 0, 1) := by decide +kernel
theorem dX7_place_12 : decode cX7_place 12 = .ok (.getfield 1, 3) := by decide +kernel
theorem dX7_place_15 : decode cX7_place 15 = .ok (.iconst 1, 1) := by decide +kernel
theorem dX7_place_16 : decode cX7_place 16 = .ok (.isub, 1) := by decide +kernel
theorem dX7_place_17 : decode cX7_place 17 = .ok (.invokevirtual 7, 3) := by decide +kernel
theorem dX7_place_20 : decode cX7_place 20 = .ok (.ifCond .ne 5, 3) := by decide +kernel
theorem dX7_place_23 : decode cX7_place 23 = .ok (.iconst (-1), 1) := by decide +kernel
theorem dX7_place_24 : decode cX7_place 24 = .ok (.ireturn, 1) := by decide +kernel
theorem dX7_place_25 : decode cX7_place 25 = .ok (.aload_n 0, 1) := by decide +kernel
theorem dX7_place_26 : decode cX7_place 26 = .ok (.iload_n 1, 1) := by decide +kernel
theorem dX7_place_27 : decode cX7_place 27 = .ok (.invokevirtual 233, 3) := by decide +kernel
theorem dX7_place_30 : decode cX7_place 30 = .ok (.istore_n 3, 1) := by decide +kernel
theorem dX7_place_31 : decode cX7_place 31 = .ok (.aload_n 0, 1) := by decide +kernel
theorem dX7_place_32 : decode cX7_place 32 = .ok (.iload_n 1, 1) := by decide +kernel
theorem dX7_place_33 : decode cX7_place 33 = .ok (.iload_n 2, 1) := by decide +kernel
theorem dX7_place_34 : decode cX7_place 34 = .ok (.invokevirtual 237, 3) := by decide +kernel
theorem dX7_place_37 : decode cX7_place 37 = .ok (.aload_n 0, 1) := by decide +kernel
theorem dX7_place_38 : decode cX7_place 38 = .ok (.invokevirtual 226, 3) := by decide +kernel
theorem dX7_place_41 : decode cX7_place 41 = .ok (.iload_n 3, 1) := by decide +kernel
theorem dX7_place_42 : decode cX7_place 42 = .ok (.ireturn, 1) := by decide +kernel
theorem dX7_placeOf_0 : decode cX7_placeOf 0 = .ok (.iconst 0, 1) := by decide +kernel
theorem dX7_placeOf_1 : decode cX7_placeOf 1 = .ok (.istore_n 2, 1) := by decide +kernel
theorem dX7_placeOf_2 : decode cX7_placeOf 2 = .ok (.aload_n 0, 1) := by decide +kernel
theorem dX7_placeOf_3 : decode cX7_placeOf 3 = .ok (.getfield 43, 3) := by decide +kernel
theorem dX7_placeOf_6 : decode cX7_placeOf 6 = .ok (.iload_n 2, 1) := by decide +kernel
theorem dX7_placeOf_7 : decode cX7_placeOf 7 = .ok (.iaload, 1) := by decide +kernel
theorem dX7_placeOf_8 : decode cX7_placeOf 8 = .ok (.iload_n 1, 1) := by decide +kernel
theorem dX7_placeOf_9 : decode cX7_placeOf 9 = .ok (.if_icmp .eq 9, 3) := by decide +kernel
theorem dX7_placeOf_12 : decode cX7_placeOf 12 = .ok (.iinc 2 1, 3) := by decide +kernel
theorem dX7_placeOf_15 : decode cX7_placeOf 15 = .ok (.goto (-13), 3) := by decide +kernel
theorem dX7_placeOf_18 : decode cX7_placeOf 18 = .ok (.iload_n 2, 1) := by decide +kernel
theorem dX7_placeOf_19 : decode cX7_placeOf 19 = .ok (.ireturn, 1) := by decide +kernel
theorem dX7_plainly_0 : decode cX7_plainly 0 = .ok (.bipush 10, 2) := by decide +kernel
theorem dX7_plainly_2 : decode cX7_plainly 2 = .ok (.istore_n 2, 1) := by decide +kernel
theorem dX7_plainly_3 : decode cX7_plainly 3 = .ok (.aload_n 0, 1) := by decide +kernel
theorem dX7_plainly_4 : decode cX7_plainly 4 = .ok (.invokevirtual 293, 3) := by decide +kernel
theorem dX7_plainly_7 : decode cX7_plainly 7 = .ok (.istore_n 3, 1) := by decide +kernel
theorem dX7_plainly_8 : decode cX7_plainly 8 = .ok (.iload_n 3, 1) := by decide +kernel
theorem dX7_plainly_9 : decode cX7_plainly 9 = .ok (.aload_n 0, 1) := by decide +kernel
theorem dX7_plainly_10 : decode cX7_plainly 10 = .ok (.invokevirtual 296, 3) := by decide +kernel
theorem dX7_plainly_13 : decode cX7_plainly 13 = .ok (.if_icmp .ge 59, 3) := by decide +kernel
theorem dX7_plainly_16 : decode cX7_plainly 16 = .ok (.aload_n 0, 1) := by decide +kernel
theorem dX7_plainly_17 : decode cX7_plainly 17 = .ok (.getfield 67, 3) := by decide +kernel
theorem dX7_plainly_20 : decode cX7_plainly 20 = .ok (.iload_n 3, 1) := by decide +kernel
theorem dX7_plainly_21 : decode cX7_plainly 21 = .ok (.iaload, 1) := by decide +kernel
theorem dX7_plainly_22 : decode cX7_plainly 22 = .ok (.iconst 2, 1) := by decide +kernel
theorem dX7_plainly_23 : decode cX7_plainly 23 = .ok (.if_icmp .ge 43, 3) := by decide +kernel
theorem dX7_plainly_26 : decode cX7_plainly 26 = .ok (.aload_n 0, 1) := by decide +kernel
theorem dX7_plainly_27 : decode cX7_plainly 27 = .ok (.iload_n 3, 1) := by decide +kernel
theorem dX7_plainly_28 : decode cX7_plainly 28 = .ok (.iload_n 1, 1) := by decide +kernel
theorem dX7_plainly_29 : decode cX7_plainly 29 = .ok (.invokevirtual 312, 3) := by decide +kernel
theorem dX7_plainly_32 : decode cX7_plainly 32 = .ok (.ifCond .ne 6, 3) := by decide +kernel
theorem dX7_plainly_35 : decode cX7_plainly 35 = .ok (.goto 31, 3) := by decide +kernel
theorem dX7_plainly_38 : decode cX7_plainly 38 = .ok (.iload_n 2, 1) := by decide +kernel
theorem dX7_plainly_39 : decode cX7_plainly 39 = .ok (.aload_n 0, 1) := by decide +kernel
theorem dX7_plainly_40 : decode cX7_plainly 40 = .ok (.getfield 67, 3) := by decide +kernel
theorem dX7_plainly_43 : decode cX7_plainly 43 = .ok (.iload_n 3, 1) := by decide +kernel
theorem dX7_plainly_44 : decode cX7_plainly 44 = .ok (.iaload, 1) := by decide +kernel
theorem dX7_plainly_45 : decode cX7_plainly 45 = .ok (.ifCond .ne 12, 3) := by decide +kernel
theorem dX7_plainly_48 : decode cX7_plainly 48 = .ok (.aload_n 0, 1) := by decide +kernel
theorem dX7_plainly_49 : decode cX7_plainly 49 = .ok (.getfield 70, 3) := by decide +kernel
theorem dX7_plainly_52 : decode cX7_plainly 52 = .ok (.iload_n 3, 1) := by decide +kernel
theorem dX7_plainly_53 : decode cX7_plainly 53 = .ok (.iaload, 1) := by decide +kernel
theorem dX7_plainly_54 : decode cX7_plainly 54 = .ok (.goto 10, 3) := by decide +kernel
theorem dX7_plainly_57 : decode cX7_plainly 57 = .ok (.aload_n 0, 1) := by decide +kernel
theorem dX7_plainly_58 : decode cX7_plainly 58 = .ok (.getfield 70, 3) := by decide +kernel
theorem dX7_plainly_61 : decode cX7_plainly 61 = .ok (.iload_n 3, 1) := by decide +kernel
theorem dX7_plainly_62 : decode cX7_plainly 62 = .ok (.iaload, 1) := by decide +kernel
theorem dX7_plainly_63 : decode cX7_plainly 63 = .ok (.ineg, 1) := by decide +kernel
theorem dX7_plainly_64 : decode cX7_plainly 64 = .ok (.iadd, 1) := by decide +kernel
theorem dX7_plainly_65 : decode cX7_plainly 65 = .ok (.istore_n 2, 1) := by decide +kernel
theorem dX7_plainly_66 : decode cX7_plainly 66 = .ok (.iinc 3 1, 3) := by decide +kernel
theorem dX7_plainly_69 : decode cX7_plainly 69 = .ok (.goto (-61), 3) := by decide +kernel
theorem dX7_plainly_72 : decode cX7_plainly 72 = .ok (.iload_n 2, 1) := by decide +kernel
theorem dX7_plainly_73 : decode cX7_plainly 73 = .ok (.ifCond .ge 7, 3) := by decide +kernel
theorem dX7_plainly_76 : decode cX7_plainly 76 = .ok (.iconst 0, 1) := by decide +kernel
theorem dX7_plainly_77 : decode cX7_plainly 77 = .ok (.goto 4, 3) := by decide +kernel
theorem dX7_plainly_80 : decode cX7_plainly 80 = .ok (.iload_n 2, 1) := by decide +kernel
theorem dX7_plainly_81 : decode cX7_plainly 81 = .ok (.ireturn, 1) := by decide +kernel
theorem dX7_pull_0 : decode cX7_pull 0 = .ok (.aload_n 0, 1) := by decide +kernel
theorem dX7_pull_1 : decode cX7_pull 1 = .ok (.iload_n 2, 1) := by decide +kernel
theorem dX7_pull_2 : decode cX7_pull 2 = .ok (.putfield 101, 3) := by decide +kernel
theorem dX7_pull_5 : decode cX7_pull 5 = .ok (.aload_n 0, 1) := by decide +kernel
theorem dX7_pull_6 : decode cX7_pull 6 = .ok (.iload_n 3, 1) := by decide +kernel
theorem dX7_pull_7 : decode cX7_pull 7 = .ok (.putfield 104, 3) := by decide +kernel
theorem dX7_pull_10 : decode cX7_pull 10 = .ok (.aload_n 0, 1) := by decide +kernel
theorem dX7_pull_11 : decode cX7_pull 11 = .ok (.iload 4, 2) := by decide +kernel
theorem dX7_pull_13 : decode cX7_pull 13 = .ok (.putfield 107, 3) := by decide +kernel
theorem dX7_pull_16 : decode cX7_pull 16 = .ok (.aload_n 0, 1) := by decide +kernel
theorem dX7_pull_17 : decode cX7_pull 17 = .ok (.getfield 30, 3) := by decide +kernel
theorem dX7_pull_20 : decode cX7_pull 20 = .ok (.iload_n 1, 1) := by decide +kernel
theorem dX7_pull_21 : decode cX7_pull 21 = .ok (.iaload, 1) := by decide +kernel
theorem dX7_pull_22 : decode cX7_pull 22 = .ok (.tableswitch 110 1 6 #[38, 44, 57, 60, 75, 90], 38) := by decide +kernel
theorem dX7_pull_60 : decode cX7_pull 60 = .ok (.aload_n 0, 1) := by decide +kernel
theorem dX7_pull_61 : decode cX7_pull 61 = .ok (.iload_n 1, 1) := by decide +kernel
theorem dX7_pull_62 : decode cX7_pull 62 = .ok (.invokevirtual 318, 3) := by decide +kernel
theorem dX7_pull_65 : decode cX7_pull 65 = .ok (.ireturn, 1) := by decide +kernel
theorem dX7_pull_66 : decode cX7_pull 66 = .ok (.aload_n 0, 1) := by decide +kernel
theorem dX7_pull_67 : decode cX7_pull 67 = .ok (.iload_n 1, 1) := by decide +kernel
theorem dX7_pull_68 : decode cX7_pull 68 = .ok (.invokevirtual 315, 3) := by decide +kernel
theorem dX7_pull_71 : decode cX7_pull 71 = .ok (.aload_n 0, 1) := by decide +kernel
theorem dX7_pull_72 : decode cX7_pull 72 = .ok (.getfield 34, 3) := by decide +kernel
theorem dX7_pull_75 : decode cX7_pull 75 = .ok (.iload_n 1, 1) := by decide +kernel
theorem dX7_pull_76 : decode cX7_pull 76 = .ok (.iaload, 1) := by decide +kernel
theorem dX7_pull_77 : decode cX7_pull 77 = .ok (.iadd, 1) := by decide +kernel
theorem dX7_pull_78 : decode cX7_pull 78 = .ok (.ireturn, 1) := by decide +kernel
theorem dX7_pull_79 : decode cX7_pull 79 = .ok (.bipush 10, 2) := by decide +kernel
theorem dX7_pull_81 : decode cX7_pull 81 = .ok (.ireturn, 1) := by decide +kernel
theorem dX7_pull_82 : decode cX7_pull 82 = .ok (.iload_n 3, 1) := by decide +kernel
theorem dX7_pull_83 : decode cX7_pull 83 = .ok (.iload_n 2, 1) := by decide +kernel
theorem dX7_pull_84 : decode cX7_pull 84 = .ok (.if_icmp .lt 7, 3) := by decide +kernel
theorem dX7_pull_87 : decode cX7_pull 87 = .ok (.iconst 0, 1) := by decide +kernel
theorem dX7_pull_88 : decode cX7_pull 88 = .ok (.goto 8, 3) := by decide +kernel
theorem dX7_pull_91 : decode cX7_pull 91 = .ok (.aload_n 0, 1) := by decide +kernel
theorem dX7_pull_92 : decode cX7_pull 92 = .ok (.iload_n 1, 1) := by decide +kernel
theorem dX7_pull_93 : decode cX7_pull 93 = .ok (.invokevirtual 318, 3) := by decide +kernel
theorem dX7_pull_96 : decode cX7_pull 96 = .ok (.ireturn, 1) := by decide +kernel
theorem dX7_pull_97 : decode cX7_pull 97 = .ok (.iconst 2, 1) := by decide +kernel
theorem dX7_pull_98 : decode cX7_pull 98 = .ok (.aload_n 0, 1) := by decide +kernel
theorem dX7_pull_99 : decode cX7_pull 99 = .ok (.iload_n 1, 1) := by decide +kernel
theorem dX7_pull_100 : decode cX7_pull 100 = .ok (.invokevirtual 315, 3) := by decide +kernel
theorem dX7_pull_103 : decode cX7_pull 103 = .ok (.aload_n 0, 1) := by decide +kernel
theorem dX7_pull_104 : decode cX7_pull 104 = .ok (.getfield 34, 3) := by decide +kernel
theorem dX7_pull_107 : decode cX7_pull 107 = .ok (.iload_n 1, 1) := by decide +kernel
theorem dX7_pull_108 : decode cX7_pull 108 = .ok (.iaload, 1) := by decide +kernel
theorem dX7_pull_109 : decode cX7_pull 109 = .ok (.iadd, 1) := by decide +kernel
theorem dX7_pull_110 : decode cX7_pull 110 = .ok (.imul, 1) := by decide +kernel
theorem dX7_pull_111 : decode cX7_pull 111 = .ok (.ireturn, 1) := by decide +kernel
theorem dX7_pull_112 : decode cX7_pull 112 = .ok (.iconst 2, 1) := by decide +kernel
theorem dX7_pull_113 : decode cX7_pull 113 = .ok (.aload_n 0, 1) := by decide +kernel
theorem dX7_pull_114 : decode cX7_pull 114 = .ok (.getfield 40, 3) := by decide +kernel
theorem dX7_pull_117 : decode cX7_pull 117 = .ok (.iconst 4, 1) := by decide +kernel
theorem dX7_pull_118 : decode cX7_pull 118 = .ok (.iload_n 1, 1) := by decide +kernel
theorem dX7_pull_119 : decode cX7_pull 119 = .ok (.imul, 1) := by decide +kernel
theorem dX7_pull_120 : decode cX7_pull 120 = .ok (.aload_n 0, 1) := by decide +kernel
theorem dX7_pull_121 : decode cX7_pull 121 = .ok (.getfield 37, 3) := by decide +kernel
theorem dX7_pull_124 : decode cX7_pull 124 = .ok (.iload_n 1, 1) := by decide +kernel
theorem dX7_pull_125 : decode cX7_pull 125 = .ok (.iaload, 1) := by decide +kernel
theorem dX7_pull_126 : decode cX7_pull 126 = .ok (.iconst 4, 1) := by decide +kernel
theorem dX7_pull_127 : decode cX7_pull 127 = .ok (.irem, 1) := by decide +kernel
theorem dX7_pull_128 : decode cX7_pull 128 = .ok (.iadd, 1) := by decide +kernel
theorem dX7_pull_129 : decode cX7_pull 129 = .ok (.iaload, 1) := by decide +kernel
theorem dX7_pull_130 : decode cX7_pull 130 = .ok (.imul, 1) := by decide +kernel
theorem dX7_pull_131 : decode cX7_pull 131 = .ok (.ireturn, 1) := by decide +kernel
theorem dX7_pull_132 : decode cX7_pull 132 = .ok (.aload_n 0, 1) := by decide +kernel
theorem dX7_pull_133 : decode cX7_pull 133 = .ok (.iload_n 1, 1) := by decide +kernel
theorem dX7_pull_134 : decode cX7_pull 134 = .ok (.invokevirtual 315, 3) := by decide +kernel
theorem dX7_pull_137 : decode cX7_pull 137 = .ok (.ireturn, 1) := by decide +kernel
theorem dX7_putBack_0 : decode cX7_putBack 0 = .ok (.aload_n 0, 1) := by decide +kernel
theorem dX7_putBack_1 : decode cX7_putBack 1 = .ok (.aload_n 0, 1) := by decide +kernel
theorem dX7_putBack_2 : decode cX7_putBack 2 = .ok (.getfield 128, 3) := by decide +kernel
theorem dX7_putBack_5 : decode cX7_putBack 5 = .ok (.putfield 21, 3) := by decide +kernel
theorem dX7_putBack_8 : decode cX7_putBack 8 = .ok (.aload_n 0, 1) := by decide +kernel
theorem dX7_putBack_9 : decode cX7_putBack 9 = .ok (.aload_n 0, 1) := by decide +kernel
theorem dX7_putBack_10 : decode cX7_putBack 10 = .ok (.getfield 131, 3) := by decide +kernel
theorem dX7_putBack_13 : decode cX7_putBack 13 = .ok (.putfield 24, 3) := by decide +kernel
theorem dX7_putBack_16 : decode cX7_putBack 16 = .ok (.aload_n 0, 1) := by decide +kernel
theorem dX7_putBack_17 : decode cX7_putBack 17 = .ok (.aload_n 0, 1) := by decide +kernel
theorem dX7_putBack_18 : decode cX7_putBack 18 = .ok (.getfield 134, 3) := by decide +kernel
theorem dX7_putBack_21 : decode cX7_putBack 21 = .ok (.putfield 27, 3) := by decide +kernel
theorem dX7_putBack_24 : decode cX7_putBack 24 = .ok (.iconst 0, 1) := by decide +kernel
theorem dX7_putBack_25 : decode cX7_putBack 25 = .ok (.istore_n 1, 1) := by decide +kernel
theorem dX7_putBack_26 : decode cX7_putBack 26 = .ok (.iload_n 1, 1) := by decide +kernel
theorem dX7_putBack_27 : decode cX7_putBack 27 = .ok (.bipush 6, 2) := by decide +kernel
theorem dX7_putBack_29 : decode cX7_putBack 29 = .ok (.if_icmp .ge 21, 3) := by decide +kernel
theorem dX7_putBack_32 : decode cX7_putBack 32 = .ok (.aload_n 0, 1) := by decide +kernel
theorem dX7_putBack_33 : decode cX7_putBack 33 = .ok (.getfield 37, 3) := by decide +kernel
theorem dX7_putBack_36 : decode cX7_putBack 36 = .ok (.iload_n 1, 1) := by decide +kernel
theorem dX7_putBack_37 : decode cX7_putBack 37 = .ok (.aload_n 0, 1) := by decide +kernel
theorem dX7_putBack_38 : decode cX7_putBack 38 = .ok (.getfield 137, 3) := by decide +kernel
theorem dX7_putBack_41 : decode cX7_putBack 41 = .ok (.iload_n 1, 1) := by decide +kernel
theorem dX7_putBack_42 : decode cX7_putBack 42 = .ok (.iaload, 1) := by decide +kernel
theorem dX7_putBack_43 : decode cX7_putBack 43 = .ok (.iastore, 1) := by decide +kernel
theorem dX7_putBack_44 : decode cX7_putBack 44 = .ok (.iinc 1 1, 3) := by decide +kernel
theorem dX7_putBack_47 : decode cX7_putBack 47 = .ok (.goto (-21), 3) := by decide +kernel
theorem dX7_putBack_50 : decode cX7_putBack 50 = .ok (.return_, 1) := by decide +kernel
theorem dX7_putOrder_0 : decode cX7_putOrder 0 = .ok (.iconst 0, 1) := by decide +kernel
theorem dX7_putOrder_1 : decode cX7_putOrder 1 = .ok (.istore_n 1, 1) := by decide +kernel
theorem dX7_putOrder_2 : decode cX7_putOrder 2 = .ok (.iload_n 1, 1) := by decide +kernel
theorem dX7_putOrder_3 : decode cX7_putOrder 3 = .ok (.bipush 6, 2) := by decide +kernel
theorem dX7_putOrder_5 : decode cX7_putOrder 5 = .ok (.if_icmp .ge 21, 3) := by decide +kernel
theorem dX7_putOrder_8 : decode cX7_putOrder 8 = .ok (.aload_n 0, 1) := by decide +kernel
theorem dX7_putOrder_9 : decode cX7_putOrder 9 = .ok (.getfield 43, 3) := by decide +kernel
theorem dX7_putOrder_12 : decode cX7_putOrder 12 = .ok (.iload_n 1, 1) := by decide +kernel
theorem dX7_putOrder_13 : decode cX7_putOrder 13 = .ok (.aload_n 0, 1) := by decide +kernel
theorem dX7_putOrder_14 : decode cX7_putOrder 14 = .ok (.getfield 122, 3) := by decide +kernel
theorem dX7_putOrder_17 : decode cX7_putOrder 17 = .ok (.iload_n 1, 1) := by decide +kernel
theorem dX7_putOrder_18 : decode cX7_putOrder 18 = .ok (.iaload, 1) := by decide +kernel
theorem dX7_putOrder_19 : decode cX7_putOrder 19 = .ok (.iastore, 1) := by decide +kernel
theorem dX7_putOrder_20 : decode cX7_putOrder 20 = .ok (.iinc 1 1, 3) := by decide +kernel
theorem dX7_putOrder_23 : decode cX7_putOrder 23 = .ok (.goto (-21), 3) := by decide +kernel
theorem dX7_putOrder_26 : decode cX7_putOrder 26 = .ok (.return_, 1) := by decide +kernel
theorem dX7_puts_0 : decode cX7_puts 0 = .ok (.aload_n 0, 1) := by decide +kernel
theorem dX7_puts_1 : decode cX7_puts 1 = .ok (.iload_n 1, 1) := by decide +kernel
theorem dX7_puts_2 : decode cX7_puts 2 = .ok (.invokevirtual 233, 3) := by decide +kernel
theorem dX7_puts_5 : decode cX7_puts 5 = .ok (.istore_n 3, 1) := by decide +kernel
theorem dX7_puts_6 : decode cX7_puts 6 = .ok (.iload_n 3, 1) := by decide +kernel
theorem dX7_puts_7 : decode cX7_puts 7 = .ok (.istore 4, 2) := by decide +kernel
theorem dX7_puts_9 : decode cX7_puts 9 = .ok (.iload 4, 2) := by decide +kernel
theorem dX7_puts_11 : decode cX7_puts 11 = .ok (.iload_n 2, 1) := by decide +kernel
theorem dX7_puts_12 : decode cX7_puts 12 = .ok (.if_icmp .ge 25, 3) := by decide +kernel
theorem dX7_puts_15 : decode cX7_puts 15 = .ok (.aload_n 0, 1) := by decide +kernel
theorem dX7_puts_16 : decode cX7_puts 16 = .ok (.getfield 43, 3) := by decide +kernel
theorem dX7_puts_19 : decode cX7_puts 19 = .ok (.iload 4, 2) := by decide +kernel
theorem dX7_puts_21 : decode cX7_puts 21 = .ok (.aload_n 0, 1) := by decide +kernel
theorem dX7_puts_22 : decode cX7_puts 22 = .ok (.getfield 43, 3) := by decide +kernel
theorem dX7_puts_25 : decode cX7_puts 25 = .ok (.iload 4, 2) := by decide +kernel
theorem dX7_puts_27 : decode cX7_puts 27 = .ok (.iconst 1, 1) := by decide +kernel
theorem dX7_puts_28 : decode cX7_puts 28 = .ok (.iadd, 1) := by decide +kernel
theorem dX7_puts_29 : decode cX7_puts 29 = .ok (.iaload, 1) := by decide +kernel
theorem dX7_puts_30 : decode cX7_puts 30 = .ok (.iastore, 1) := by decide +kernel
theorem dX7_puts_31 : decode cX7_puts 31 = .ok (.iinc 4 1, 3) := by decide +kernel
theorem dX7_puts_34 : decode cX7_puts 34 = .ok (.goto (-25), 3) := by decide +kernel
theorem dX7_puts_37 : decode cX7_puts 37 = .ok (.iload_n 3, 1) := by decide +kernel
theorem dX7_puts_38 : decode cX7_puts 38 = .ok (.istore 4, 2) := by decide +kernel
theorem dX7_puts_40 : decode cX7_puts 40 = .ok (.iload 4, 2) := by decide +kernel
theorem dX7_puts_42 : decode cX7_puts 42 = .ok (.iload_n 2, 1) := by decide +kernel
theorem dX7_puts_43 : decode cX7_puts 43 = .ok (.if_icmp .le 25, 3) := by decide +kernel
theorem dX7_puts_46 : decode cX7_puts 46 = .ok (.aload_n 0, 1) := by decide +kernel
theorem dX7_puts_47 : decode cX7_puts 47 = .ok (.getfield 43, 3) := by decide +kernel
theorem dX7_puts_50 : decode cX7_puts 50 = .ok (.iload 4, 2) := by decide +kernel
theorem dX7_puts_52 : decode cX7_puts 52 = .ok (.aload_n 0, 1) := by decide +kernel
theorem dX7_puts_53 : decode cX7_puts 53 = .ok (.getfield 43, 3) := by decide +kernel
theorem dX7_puts_56 : decode cX7_puts 56 = .ok (.iload 4, 2) := by decide +kernel
theorem dX7_puts_58 : decode cX7_puts 58 = .ok (.iconst 1, 1) := by decide +kernel
theorem dX7_puts_59 : decode cX7_puts 59 = .ok (.isub, 1) := by decide +kernel
theorem dX7_puts_60 : decode cX7_puts 60 = .ok (.iaload, 1) := by decide +kernel
theorem dX7_puts_61 : decode cX7_puts 61 = .ok (.iastore, 1) := by decide +kernel
theorem dX7_puts_62 : decode cX7_puts 62 = .ok (.iinc 4 (-1), 3) := by decide +kernel
theorem dX7_puts_65 : decode cX7_puts 65 = .ok (.goto (-25), 3) := by decide +kernel
theorem dX7_puts_68 : decode cX7_puts 68 = .ok (.aload_n 0, 1) := by decide +kernel
theorem dX7_puts_69 : decode cX7_puts 69 = .ok (.getfield 43, 3) := by decide +kernel
theorem dX7_puts_72 : decode cX7_puts 72 = .ok (.iload_n 2, 1) := by decide +kernel
theorem dX7_puts_73 : decode cX7_puts 73 = .ok (.iload_n 1, 1) := by decide +kernel
theorem dX7_puts_74 : decode cX7_puts 74 = .ok (.iastore, 1) := by decide +kernel
theorem dX7_puts_75 : decode cX7_puts 75 = .ok (.return_, 1) := by decide +kernel
theorem dX7_read_0 : decode cX7_read 0 = .ok (.aload_n 0, 1) := by decide +kernel
theorem dX7_read_1 : decode cX7_read 1 = .ok (.iload_n 1, 1) := by decide +kernel
theorem dX7_read_2 : decode cX7_read 2 = .ok (.invokevirtual 384, 3) := by decide +kernel
theorem dX7_read_5 : decode cX7_read 5 = .ok (.ifCond .eq 29, 3) := by decide +kernel
theorem dX7_read_8 : decode cX7_read 8 = .ok (.aload_n 0, 1) := by decide +kernel
theorem dX7_read_9 : decode cX7_read 9 = .ok (.getfield 213, 3) := by decide +kernel
theorem dX7_read_12 : decode cX7_read 12 = .ok (.iload_n 1, 1) := by decide +kernel
theorem dX7_read_13 : decode cX7_read 13 = .ok (.iaload, 1) := by decide +kernel
theorem dX7_read_14 : decode cX7_read 14 = .ok (.ifCond .lt 20, 3) := by decide +kernel
theorem dX7_read_17 : decode cX7_read 17 = .ok (.aload_n 0, 1) := by decide +kernel
theorem dX7_read_18 : decode cX7_read 18 = .ok (.iload_n 2, 1) := by decide +kernel
theorem dX7_read_19 : decode cX7_read 19 = .ok (.iconst 0, 1) := by decide +kernel
theorem dX7_read_20 : decode cX7_read 20 = .ok (.aload_n 0, 1) := by decide +kernel
theorem dX7_read_21 : decode cX7_read 21 = .ok (.getfield 216, 3) := by decide +kernel
theorem dX7_read_24 : decode cX7_read 24 = .ok (.iload_n 1, 1) := by decide +kernel
theorem dX7_read_25 : decode cX7_read 25 = .ok (.iaload, 1) := by decide +kernel
theorem dX7_read_26 : decode cX7_read 26 = .ok (.iconst 1, 1) := by decide +kernel
theorem dX7_read_27 : decode cX7_read 27 = .ok (.isub, 1) := by decide +kernel
theorem dX7_read_28 : decode cX7_read 28 = .ok (.invokevirtual 7, 3) := by decide +kernel
theorem dX7_read_31 : decode cX7_read 31 = .ok (.ifCond .ne 9, 3) := by decide +kernel
theorem dX7_read_34 : decode cX7_read 34 = .ok (.ldc2_w 365, 3) := by decide +kernel
theorem dX7_read_37 : decode cX7_read 37 = .ok (.goto 14, 3) := by decide +kernel
theorem dX7_read_40 : decode cX7_read 40 = .ok (.aload_n 0, 1) := by decide +kernel
theorem dX7_read_41 : decode cX7_read 41 = .ok (.getfield 219, 3) := by decide +kernel
theorem dX7_read_44 : decode cX7_read 44 = .ok (.bipush 60, 2) := by decide +kernel
theorem dX7_read_46 : decode cX7_read 46 = .ok (.iload_n 1, 1) := by decide +kernel
theorem dX7_read_47 : decode cX7_read 47 = .ok (.imul, 1) := by decide +kernel
theorem dX7_read_48 : decode cX7_read 48 = .ok (.iload_n 2, 1) := by decide +kernel
theorem dX7_read_49 : decode cX7_read 49 = .ok (.iadd, 1) := by decide +kernel
theorem dX7_read_50 : decode cX7_read 50 = .ok (.laload, 1) := by decide +kernel
theorem dX7_read_51 : decode cX7_read 51 = .ok (.lreturn, 1) := by decide +kernel
theorem dX7_row_0 : decode cX7_row 0 = .ok (.aload_n 0, 1) := by decide +kernel
theorem dX7_row_1 : decode cX7_row 1 = .ok (.iload_n 1, 1) := by decide +kernel
theorem dX7_row_2 : decode cX7_row 2 = .ok (.invokevirtual 229, 3) := by decide +kernel
theorem dX7_row_5 : decode cX7_row 5 = .ok (.ifCond .eq 13, 3) := by decide +kernel
theorem dX7_row_8 : decode cX7_row 8 = .ok (.aload_n 0, 1) := by decide +kernel
theorem dX7_row_9 : decode cX7_row 9 = .ok (.iload_n 2, 1) := by decide +kernel
theorem dX7_row_10 : decode cX7_row 10 = .ok (.iconst 0, 1) := by decide +kernel
theorem dX7_row_11 : decode cX7_row 11 = .ok (.iconst 3, 1) := by decide +kernel
theorem dX7_row_12 : decode cX7_row 12 = .ok (.invokevirtual 7, 3) := by decide +kernel
theorem dX7_row_15 : decode cX7_row 15 = .ok (.ifCond .ne 5, 3) := by decide +kernel
theorem dX7_row_18 : decode cX7_row 18 = .ok (.iconst (-1), 1) := by decide +kernel
theorem dX7_row_19 : decode cX7_row 19 = .ok (.ireturn, 1) := by decide +kernel
theorem dX7_row_20 : decode cX7_row 20 = .ok (.aload_n 0, 1) := by decide +kernel
theorem dX7_row_21 : decode cX7_row 21 = .ok (.iload_n 3, 1) := by decide +kernel
theorem dX7_row_22 : decode cX7_row 22 = .ok (.iconst 0, 1) := by decide +kernel
theorem dX7_row_23 : decode cX7_row 23 = .ok (.bipush 9, 2) := by decide +kernel
theorem dX7_row_25 : decode cX7_row 25 = .ok (.invokevirtual 7, 3) := by decide +kernel
theorem dX7_row_28 : decode cX7_row 28 = .ok (.ifCond .ne 6, 3) := by decide +kernel
theorem dX7_row_31 : decode cX7_row 31 = .ok (.bipush (-2), 2) := by decide +kernel
theorem dX7_row_33 : decode cX7_row 33 = .ok (.ireturn, 1) := by decide +kernel
theorem dX7_row_34 : decode cX7_row 34 = .ok (.aload_n 0, 1) := by decide +kernel
theorem dX7_row_35 : decode cX7_row 35 = .ok (.getfield 30, 3) := by decide +kernel
theorem dX7_row_38 : decode cX7_row 38 = .ok (.iload_n 1, 1) := by decide +kernel
theorem dX7_row_39 : decode cX7_row 39 = .ok (.iaload, 1) := by decide +kernel
theorem dX7_row_40 : decode cX7_row 40 = .ok (.bipush 6, 2) := by decide +kernel
theorem dX7_row_42 : decode cX7_row 42 = .ok (.if_icmp .eq 6, 3) := by decide +kernel
theorem dX7_row_45 : decode cX7_row 45 = .ok (.bipush (-3), 2) := by decide +kernel
theorem dX7_row_47 : decode cX7_row 47 = .ok (.ireturn, 1) := by decide +kernel
theorem dX7_row_48 : decode cX7_row 48 = .ok (.aload_n 0, 1) := by decide +kernel
theorem dX7_row_49 : decode cX7_row 49 = .ok (.getfield 40, 3) := by decide +kernel
theorem dX7_row_52 : decode cX7_row 52 = .ok (.iconst 4, 1) := by decide +kernel
theorem dX7_row_53 : decode cX7_row 53 = .ok (.iload_n 1, 1) := by decide +kernel
theorem dX7_row_54 : decode cX7_row 54 = .ok (.imul, 1) := by decide +kernel
theorem dX7_row_55 : decode cX7_row 55 = .ok (.iload_n 2, 1) := by decide +kernel
theorem dX7_row_56 : decode cX7_row 56 = .ok (.iadd, 1) := by decide +kernel
theorem dX7_row_57 : decode cX7_row 57 = .ok (.iaload, 1) := by decide +kernel
theorem dX7_row_58 : decode cX7_row 58 = .ok (.istore 4, 2) := by decide +kernel
theorem dX7_row_60 : decode cX7_row 60 = .ok (.aload_n 0, 1) := by decide +kernel
theorem dX7_row_61 : decode cX7_row 61 = .ok (.getfield 40, 3) := by decide +kernel
theorem dX7_row_64 : decode cX7_row 64 = .ok (.iconst 4, 1) := by decide +kernel
theorem dX7_row_65 : decode cX7_row 65 = .ok (.iload_n 1, 1) := by decide +kernel
theorem dX7_row_66 : decode cX7_row 66 = .ok (.imul, 1) := by decide +kernel
theorem dX7_row_67 : decode cX7_row 67 = .ok (.iload_n 2, 1) := by decide +kernel
theorem dX7_row_68 : decode cX7_row 68 = .ok (.iadd, 1) := by decide +kernel
theorem dX7_row_69 : decode cX7_row 69 = .ok (.iload_n 3, 1) := by decide +kernel
theorem dX7_row_70 : decode cX7_row 70 = .ok (.iastore, 1) := by decide +kernel
theorem dX7_row_71 : decode cX7_row 71 = .ok (.iload 4, 2) := by decide +kernel
theorem dX7_row_73 : decode cX7_row 73 = .ok (.ireturn, 1) := by decide +kernel
theorem dX7_safest_0 : decode cX7_safest 0 = .ok (.aload_n 0, 1) := by decide +kernel
theorem dX7_safest_1 : decode cX7_safest 1 = .ok (.iload_n 1, 1) := by decide +kernel
theorem dX7_safest_2 : decode cX7_safest 2 = .ok (.invokevirtual 229, 3) := by decide +kernel
theorem dX7_safest_5 : decode cX7_safest 5 = .ok (.ifCond .eq 13, 3) := by decide +kernel
theorem dX7_safest_8 : decode cX7_safest 8 = .ok (.aload_n 0, 1) := by decide +kernel
theorem dX7_safest_9 : decode cX7_safest 9 = .ok (.iload_n 2, 1) := by decide +kernel
theorem dX7_safest_10 : decode cX7_safest 10 = .ok (.iconst 0, 1) := by decide +kernel
theorem dX7_safest_11 : decode cX7_safest 11 = .ok (.iconst 1, 1) := by decide +kernel
theorem dX7_safest_12 : decode cX7_safest 12 = .ok (.invokevirtual 7, 3) := by decide +kernel
theorem dX7_safest_15 : decode cX7_safest 15 = .ok (.ifCond .ne 5, 3) := by decide +kernel
theorem dX7_safest_18 : decode cX7_safest 18 = .ok (.iconst (-1), 1) := by decide +kernel
theorem dX7_safest_19 : decode cX7_safest 19 = .ok (.ireturn, 1) := by decide +kernel
theorem dX7_safest_20 : decode cX7_safest 20 = .ok (.aload_n 0, 1) := by decide +kernel
theorem dX7_safest_21 : decode cX7_safest 21 = .ok (.invokevirtual 352, 3) := by decide +kernel
theorem dX7_safest_24 : decode cX7_safest 24 = .ok (.iconst 0, 1) := by decide +kernel
theorem dX7_safest_25 : decode cX7_safest 25 = .ok (.istore_n 3, 1) := by decide +kernel
theorem dX7_safest_26 : decode cX7_safest 26 = .ok (.ldc_w 351, 3) := by decide +kernel
theorem dX7_safest_29 : decode cX7_safest 29 = .ok (.istore 4, 2) := by decide +kernel
theorem dX7_safest_31 : decode cX7_safest 31 = .ok (.iconst 0, 1) := by decide +kernel
theorem dX7_safest_32 : decode cX7_safest 32 = .ok (.istore 5, 2) := by decide +kernel
theorem dX7_safest_34 : decode cX7_safest 34 = .ok (.iload 5, 2) := by decide +kernel
theorem dX7_safest_36 : decode cX7_safest 36 = .ok (.aload_n 0, 1) := by decide +kernel
theorem dX7_safest_37 : decode cX7_safest 37 = .ok (.getfield 1, 3) := by decide +kernel
theorem dX7_safest_40 : decode cX7_safest 40 = .ok (.if_icmp .ge 45, 3) := by decide +kernel
theorem dX7_safest_43 : decode cX7_safest 43 = .ok (.aload_n 0, 1) := by decide +kernel
theorem dX7_safest_44 : decode cX7_safest 44 = .ok (.iload_n 1, 1) := by decide +kernel
theorem dX7_safest_45 : decode cX7_safest 45 = .ok (.iload 5, 2) := by decide +kernel
theorem dX7_safest_47 : decode cX7_safest 47 = .ok (.invokevirtual 237, 3) := by decide +kernel
theorem dX7_safest_50 : decode cX7_safest 50 = .ok (.aload_n 0, 1) := by decide +kernel
theorem dX7_safest_51 : decode cX7_safest 51 = .ok (.invokevirtual 342, 3) := by decide +kernel
theorem dX7_safest_54 : decode cX7_safest 54 = .ok (.aload_n 0, 1) := by decide +kernel
theorem dX7_safest_55 : decode cX7_safest 55 = .ok (.getfield 110, 3) := by decide +kernel
theorem dX7_safest_58 : decode cX7_safest 58 = .ok (.iload_n 1, 1) := by decide +kernel
theorem dX7_safest_59 : decode cX7_safest 59 = .ok (.iaload, 1) := by decide +kernel
theorem dX7_safest_60 : decode cX7_safest 60 = .ok (.iload 4, 2) := by decide +kernel
theorem dX7_safest_62 : decode cX7_safest 62 = .ok (.if_icmp .lt 6, 3) := by decide +kernel
theorem dX7_safest_65 : decode cX7_safest 65 = .ok (.goto 14, 3) := by decide +kernel
theorem dX7_safest_68 : decode cX7_safest 68 = .ok (.iload 5, 2) := by decide +kernel
theorem dX7_safest_70 : decode cX7_safest 70 = .ok (.istore_n 3, 1) := by decide +kernel
theorem dX7_safest_71 : decode cX7_safest 71 = .ok (.aload_n 0, 1) := by decide +kernel
theorem dX7_safest_72 : decode cX7_safest 72 = .ok (.getfield 110, 3) := by decide +kernel
theorem dX7_safest_75 : decode cX7_safest 75 = .ok (.iload_n 1, 1) := by decide +kernel
theorem dX7_safest_76 : decode cX7_safest 76 = .ok (.iaload, 1) := by decide +kernel
theorem dX7_safest_77 : decode cX7_safest 77 = .ok (.istore 4, 2) := by decide +kernel
theorem dX7_safest_79 : decode cX7_safest 79 = .ok (.iinc 5 1, 3) := by decide +kernel
theorem dX7_safest_82 : decode cX7_safest 82 = .ok (.goto (-48), 3) := by decide +kernel
theorem dX7_safest_85 : decode cX7_safest 85 = .ok (.aload_n 0, 1) := by decide +kernel
theorem dX7_safest_86 : decode cX7_safest 86 = .ok (.invokevirtual 358, 3) := by decide +kernel
theorem dX7_safest_89 : decode cX7_safest 89 = .ok (.iload_n 2, 1) := by decide +kernel
theorem dX7_safest_90 : decode cX7_safest 90 = .ok (.ifCond .ne 7, 3) := by decide +kernel
theorem dX7_safest_93 : decode cX7_safest 93 = .ok (.iload_n 3, 1) := by decide +kernel
theorem dX7_safest_94 : decode cX7_safest 94 = .ok (.goto 5, 3) := by decide +kernel
theorem dX7_safest_97 : decode cX7_safest 97 = .ok (.iload 4, 2) := by decide +kernel
theorem dX7_safest_99 : decode cX7_safest 99 = .ok (.ireturn, 1) := by decide +kernel
theorem dX7_save_0 : decode cX7_save 0 = .ok (.aload_n 0, 1) := by decide +kernel
theorem dX7_save_1 : decode cX7_save 1 = .ok (.aload_n 0, 1) := by decide +kernel
theorem dX7_save_2 : decode cX7_save 2 = .ok (.getfield 21, 3) := by decide +kernel
theorem dX7_save_5 : decode cX7_save 5 = .ok (.putfield 128, 3) := by decide +kernel
theorem dX7_save_8 : decode cX7_save 8 = .ok (.aload_n 0, 1) := by decide +kernel
theorem dX7_save_9 : decode cX7_save 9 = .ok (.aload_n 0, 1) := by decide +kernel
theorem dX7_save_10 : decode cX7_save 10 = .ok (.getfield 24, 3) := by decide +kernel
theorem dX7_save_13 : decode cX7_save 13 = .ok (.putfield 131, 3) := by decide +kernel
theorem dX7_save_16 : decode cX7_save 16 = .ok (.aload_n 0, 1) := by decide +kernel
theorem dX7_save_17 : decode cX7_save 17 = .ok (.aload_n 0, 1) := by decide +kernel
theorem dX7_save_18 : decode cX7_save 18 = .ok (.getfield 27, 3) := by decide +kernel
theorem dX7_save_21 : decode cX7_save 21 = .ok (.putfield 134, 3) := by decide +kernel
theorem dX7_save_24 : decode cX7_save 24 = .ok (.iconst 0, 1) := by decide +kernel
theorem dX7_save_25 : decode cX7_save 25 = .ok (.istore_n 1, 1) := by decide +kernel
theorem dX7_save_26 : decode cX7_save 26 = .ok (.iload_n 1, 1) := by decide +kernel
theorem dX7_save_27 : decode cX7_save 27 = .ok (.bipush 6, 2) := by decide +kernel
theorem dX7_save_29 : decode cX7_save 29 = .ok (.if_icmp .ge 21, 3) := by decide +kernel
theorem dX7_save_32 : decode cX7_save 32 = .ok (.aload_n 0, 1) := by decide +kernel
theorem dX7_save_33 : decode cX7_save 33 = .ok (.getfield 137, 3) := by decide +kernel
theorem dX7_save_36 : decode cX7_save 36 = .ok (.iload_n 1, 1) := by decide +kernel
theorem dX7_save_37 : decode cX7_save 37 = .ok (.aload_n 0, 1) := by decide +kernel
theorem dX7_save_38 : decode cX7_save 38 = .ok (.getfield 37, 3) := by decide +kernel
theorem dX7_save_41 : decode cX7_save 41 = .ok (.iload_n 1, 1) := by decide +kernel
theorem dX7_save_42 : decode cX7_save 42 = .ok (.iaload, 1) := by decide +kernel
theorem dX7_save_43 : decode cX7_save 43 = .ok (.iastore, 1) := by decide +kernel
theorem dX7_save_44 : decode cX7_save 44 = .ok (.iinc 1 1, 3) := by decide +kernel
theorem dX7_save_47 : decode cX7_save 47 = .ok (.goto (-21), 3) := by decide +kernel
theorem dX7_save_50 : decode cX7_save 50 = .ok (.return_, 1) := by decide +kernel
theorem dX7_second_0 : decode cX7_second 0 = .ok (.aload_n 0, 1) := by decide +kernel
theorem dX7_second_1 : decode cX7_second 1 = .ok (.getfield 55, 3) := by decide +kernel
theorem dX7_second_4 : decode cX7_second 4 = .ok (.iconst 1, 1) := by decide +kernel
theorem dX7_second_5 : decode cX7_second 5 = .ok (.iadd, 1) := by decide +kernel
theorem dX7_second_6 : decode cX7_second 6 = .ok (.aload_n 0, 1) := by decide +kernel
theorem dX7_second_7 : decode cX7_second 7 = .ok (.getfield 52, 3) := by decide +kernel
theorem dX7_second_10 : decode cX7_second 10 = .ok (.if_icmp .ge 17, 3) := by decide +kernel
theorem dX7_second_13 : decode cX7_second 13 = .ok (.aload_n 0, 1) := by decide +kernel
theorem dX7_second_14 : decode cX7_second 14 = .ok (.getfield 61, 3) := by decide +kernel
theorem dX7_second_17 : decode cX7_second 17 = .ok (.aload_n 0, 1) := by decide +kernel
theorem dX7_second_18 : decode cX7_second 18 = .ok (.getfield 55, 3) := by decide +kernel
theorem dX7_second_21 : decode cX7_second 21 = .ok (.iconst 1, 1) := by decide +kernel
theorem dX7_second_22 : decode cX7_second 22 = .ok (.iadd, 1) := by decide +kernel
theorem dX7_second_23 : decode cX7_second 23 = .ok (.iaload, 1) := by decide +kernel
theorem dX7_second_24 : decode cX7_second 24 = .ok (.goto 4, 3) := by decide +kernel
theorem dX7_second_27 : decode cX7_second 27 = .ok (.iconst (-1), 1) := by decide +kernel
theorem dX7_second_28 : decode cX7_second 28 = .ok (.ireturn, 1) := by decide +kernel
theorem dX7_see_0 : decode cX7_see 0 = .ok (.iload_n 1, 1) := by decide +kernel
theorem dX7_see_1 : decode cX7_see 1 = .ok (.iconst (-1), 1) := by decide +kernel
theorem dX7_see_2 : decode cX7_see 2 = .ok (.if_icmp .ne 10, 3) := by decide +kernel
theorem dX7_see_5 : decode cX7_see 5 = .ok (.aload_n 0, 1) := by decide +kernel
theorem dX7_see_6 : decode cX7_see 6 = .ok (.iconst 0, 1) := by decide +kernel
theorem dX7_see_7 : decode cX7_see 7 = .ok (.putfield 140, 3) := by decide +kernel
theorem dX7_see_10 : decode cX7_see 10 = .ok (.iconst 0, 1) := by decide +kernel
theorem dX7_see_11 : decode cX7_see 11 = .ok (.ireturn, 1) := by decide +kernel
theorem dX7_see_12 : decode cX7_see 12 = .ok (.aload_n 0, 1) := by decide +kernel
theorem dX7_see_13 : decode cX7_see 13 = .ok (.iload_n 1, 1) := by decide +kernel
theorem dX7_see_14 : decode cX7_see 14 = .ok (.invokevirtual 333, 3) := by decide +kernel
theorem dX7_see_17 : decode cX7_see 17 = .ok (.ifCond .ne 6, 3) := by decide +kernel
theorem dX7_see_20 : decode cX7_see 20 = .ok (.bipush (-2), 2) := by decide +kernel
theorem dX7_see_22 : decode cX7_see 22 = .ok (.ireturn, 1) := by decide +kernel
theorem dX7_see_23 : decode cX7_see 23 = .ok (.aload_n 0, 1) := by decide +kernel
theorem dX7_see_24 : decode cX7_see 24 = .ok (.getfield 140, 3) := by decide +kernel
theorem dX7_see_27 : decode cX7_see 27 = .ok (.bipush 6, 2) := by decide +kernel
theorem dX7_see_29 : decode cX7_see 29 = .ok (.if_icmp .ne 6, 3) := by decide +kernel
theorem dX7_see_32 : decode cX7_see 32 = .ok (.bipush (-4), 2) := by decide +kernel
theorem dX7_see_34 : decode cX7_see 34 = .ok (.ireturn, 1) := by decide +kernel
theorem dX7_see_35 : decode cX7_see 35 = .ok (.aload_n 0, 1) := by decide +kernel
theorem dX7_see_36 : decode cX7_see 36 = .ok (.getfield 143, 3) := by decide +kernel
theorem dX7_see_39 : decode cX7_see 39 = .ok (.aload_n 0, 1) := by decide +kernel
theorem dX7_see_40 : decode cX7_see 40 = .ok (.getfield 140, 3) := by decide +kernel
theorem dX7_see_43 : decode cX7_see 43 = .ok (.iload_n 1, 1) := by decide +kernel
theorem dX7_see_44 : decode cX7_see 44 = .ok (.iastore, 1) := by decide +kernel
theorem dX7_see_45 : decode cX7_see 45 = .ok (.aload_n 0, 1) := by decide +kernel
theorem dX7_see_46 : decode cX7_see 46 = .ok (.getfield 146, 3) := by decide +kernel
theorem dX7_see_49 : decode cX7_see 49 = .ok (.aload_n 0, 1) := by decide +kernel
theorem dX7_see_50 : decode cX7_see 50 = .ok (.getfield 140, 3) := by decide +kernel
theorem dX7_see_53 : decode cX7_see 53 = .ok (.iload_n 2, 1) := by decide +kernel
theorem dX7_see_54 : decode cX7_see 54 = .ok (.bastore, 1) := by decide +kernel
theorem dX7_see_55 : decode cX7_see 55 = .ok (.aload_n 0, 1) := by decide +kernel
theorem dX7_see_56 : decode cX7_see 56 = .ok (.dup, 1) := by decide +kernel
theorem dX7_see_57 : decode cX7_see 57 = .ok (.getfield 140, 3) := by decide +kernel
theorem dX7_see_60 : decode cX7_see 60 = .ok (.iconst 1, 1) := by decide +kernel
theorem dX7_see_61 : decode cX7_see 61 = .ok (.iadd, 1) := by decide +kernel
theorem dX7_see_62 : decode cX7_see 62 = .ok (.putfield 140, 3) := by decide +kernel
theorem dX7_see_65 : decode cX7_see 65 = .ok (.aload_n 0, 1) := by decide +kernel
theorem dX7_see_66 : decode cX7_see 66 = .ok (.getfield 140, 3) := by decide +kernel
theorem dX7_see_69 : decode cX7_see 69 = .ok (.ireturn, 1) := by decide +kernel
theorem dX7_sent_0 : decode cX7_sent 0 = .ok (.aload_n 0, 1) := by decide +kernel
theorem dX7_sent_1 : decode cX7_sent 1 = .ok (.iload_n 1, 1) := by decide +kernel
theorem dX7_sent_2 : decode cX7_sent 2 = .ok (.invokevirtual 229, 3) := by decide +kernel
theorem dX7_sent_5 : decode cX7_sent 5 = .ok (.ifCond .ne 5, 3) := by decide +kernel
theorem dX7_sent_8 : decode cX7_sent 8 = .ok (.iconst (-1), 1) := by decide +kernel
theorem dX7_sent_9 : decode cX7_sent 9 = .ok (.ireturn, 1) := by decide +kernel
theorem dX7_sent_10 : decode cX7_sent 10 = .ok (.aload_n 0, 1) := by decide +kernel
theorem dX7_sent_11 : decode cX7_sent 11 = .ok (.iload_n 2, 1) := by decide +kernel
theorem dX7_sent_12 : decode cX7_sent 12 = .ok (.iconst 0, 1) := by decide +kernel
theorem dX7_sent_13 : decode cX7_sent 13 = .ok (.sipush 999, 3) := by decide +kernel
theorem dX7_sent_16 : decode cX7_sent 16 = .ok (.invokevirtual 7, 3) := by decide +kernel
theorem dX7_sent_19 : decode cX7_sent 19 = .ok (.ifCond .ne 6, 3) := by decide +kernel
theorem dX7_sent_22 : decode cX7_sent 22 = .ok (.bipush (-2), 2) := by decide +kernel
theorem dX7_sent_24 : decode cX7_sent 24 = .ok (.ireturn, 1) := by decide +kernel
theorem dX7_sent_25 : decode cX7_sent 25 = .ok (.aload_n 0, 1) := by decide +kernel
theorem dX7_sent_26 : decode cX7_sent 26 = .ok (.getfield 37, 3) := by decide +kernel
theorem dX7_sent_29 : decode cX7_sent 29 = .ok (.iload_n 1, 1) := by decide +kernel
theorem dX7_sent_30 : decode cX7_sent 30 = .ok (.iaload, 1) := by decide +kernel
theorem dX7_sent_31 : decode cX7_sent 31 = .ok (.istore_n 3, 1) := by decide +kernel
theorem dX7_sent_32 : decode cX7_sent 32 = .ok (.aload_n 0, 1) := by decide +kernel
theorem dX7_sent_33 : decode cX7_sent 33 = .ok (.getfield 37, 3) := by decide +kernel
theorem dX7_sent_36 : decode cX7_sent 36 = .ok (.iload_n 1, 1) := by decide +kernel
theorem dX7_sent_37 : decode cX7_sent 37 = .ok (.iload_n 2, 1) := by decide +kernel
theorem dX7_sent_38 : decode cX7_sent 38 = .ok (.iastore, 1) := by decide +kernel
theorem dX7_sent_39 : decode cX7_sent 39 = .ok (.iload_n 3, 1) := by decide +kernel
theorem dX7_sent_40 : decode cX7_sent 40 = .ok (.ireturn, 1) := by decide +kernel
theorem dX7_settle_0 : decode cX7_settle 0 = .ok (.aload_n 0, 1) := by decide +kernel
theorem dX7_settle_1 : decode cX7_settle 1 = .ok (.getfield 88, 3) := by decide +kernel
theorem dX7_settle_4 : decode cX7_settle 4 = .ok (.ifCond .le 68, 3) := by decide +kernel
theorem dX7_settle_7 : decode cX7_settle 7 = .ok (.aload_n 0, 1) := by decide +kernel
theorem dX7_settle_8 : decode cX7_settle 8 = .ok (.getfield 82, 3) := by decide +kernel
theorem dX7_settle_11 : decode cX7_settle 11 = .ok (.aload_n 0, 1) := by decide +kernel
theorem dX7_settle_12 : decode cX7_settle 12 = .ok (.getfield 88, 3) := by decide +kernel
theorem dX7_settle_15 : decode cX7_settle 15 = .ok (.iconst 1, 1) := by decide +kernel
theorem dX7_settle_16 : decode cX7_settle 16 = .ok (.isub, 1) := by decide +kernel
theorem dX7_settle_17 : decode cX7_settle 17 = .ok (.iaload, 1) := by decide +kernel
theorem dX7_settle_18 : decode cX7_settle 18 = .ok (.bipush 38, 2) := by decide +kernel
theorem dX7_settle_20 : decode cX7_settle 20 = .ok (.if_icmp .eq 25, 3) := by decide +kernel
theorem dX7_settle_23 : decode cX7_settle 23 = .ok (.aload_n 0, 1) := by decide +kernel
theorem dX7_settle_24 : decode cX7_settle 24 = .ok (.getfield 82, 3) := by decide +kernel
theorem dX7_settle_27 : decode cX7_settle 27 = .ok (.aload_n 0, 1) := by decide +kernel
theorem dX7_settle_28 : decode cX7_settle 28 = .ok (.getfield 88, 3) := by decide +kernel
theorem dX7_settle_31 : decode cX7_settle 31 = .ok (.iconst 1, 1) := by decide +kernel
theorem dX7_settle_32 : decode cX7_settle 32 = .ok (.isub, 1) := by decide +kernel
theorem dX7_settle_33 : decode cX7_settle 33 = .ok (.iaload, 1) := by decide +kernel
theorem dX7_settle_34 : decode cX7_settle 34 = .ok (.bipush 124, 2) := by decide +kernel
theorem dX7_settle_36 : decode cX7_settle 36 = .ok (.if_icmp .ne 36, 3) := by decide +kernel
theorem dX7_settle_39 : decode cX7_settle 39 = .ok (.iload_n 1, 1) := by decide +kernel
theorem dX7_settle_40 : decode cX7_settle 40 = .ok (.bipush 38, 2) := by decide +kernel
theorem dX7_settle_42 : decode cX7_settle 42 = .ok (.if_icmp .eq 30, 3) := by decide +kernel
theorem dX7_settle_45 : decode cX7_settle 45 = .ok (.aload_n 0, 1) := by decide +kernel
theorem dX7_settle_46 : decode cX7_settle 46 = .ok (.dup, 1) := by decide +kernel
theorem dX7_settle_47 : decode cX7_settle 47 = .ok (.getfield 88, 3) := by decide +kernel
theorem dX7_settle_50 : decode cX7_settle 50 = .ok (.iconst 1, 1) := by decide +kernel
theorem dX7_settle_51 : decode cX7_settle 51 = .ok (.isub, 1) := by decide +kernel
theorem dX7_settle_52 : decode cX7_settle 52 = .ok (.putfield 88, 3) := by decide +kernel
theorem dX7_settle_55 : decode cX7_settle 55 = .ok (.aload_n 0, 1) := by decide +kernel
theorem dX7_settle_56 : decode cX7_settle 56 = .ok (.aload_n 0, 1) := by decide +kernel
theorem dX7_settle_57 : decode cX7_settle 57 = .ok (.getfield 82, 3) := by decide +kernel
theorem dX7_settle_60 : decode cX7_settle 60 = .ok (.aload_n 0, 1) := by decide +kernel
theorem dX7_settle_61 : decode cX7_settle 61 = .ok (.getfield 88, 3) := by decide +kernel
theorem dX7_settle_64 : decode cX7_settle 64 = .ok (.iaload, 1) := by decide +kernel
theorem dX7_settle_65 : decode cX7_settle 65 = .ok (.ineg, 1) := by decide +kernel
theorem dX7_settle_66 : decode cX7_settle 66 = .ok (.invokevirtual 252, 3) := by decide +kernel
theorem dX7_settle_69 : decode cX7_settle 69 = .ok (.goto (-69), 3) := by decide +kernel
theorem dX7_settle_72 : decode cX7_settle 72 = .ok (.return_, 1) := by decide +kernel
theorem dX7_shift_0 : decode cX7_shift 0 = .ok (.aload_n 0, 1) := by decide +kernel
theorem dX7_shift_1 : decode cX7_shift 1 = .ok (.iload_n 1, 1) := by decide +kernel
theorem dX7_shift_2 : decode cX7_shift 2 = .ok (.invokevirtual 384, 3) := by decide +kernel
theorem dX7_shift_5 : decode cX7_shift 5 = .ok (.ifCond .eq 11, 3) := by decide +kernel
theorem dX7_shift_8 : decode cX7_shift 8 = .ok (.aload_n 0, 1) := by decide +kernel
theorem dX7_shift_9 : decode cX7_shift 9 = .ok (.iload_n 3, 1) := by decide +kernel
theorem dX7_shift_10 : decode cX7_shift 10 = .ok (.invokevirtual 384, 3) := by decide +kernel
theorem dX7_shift_13 : decode cX7_shift 13 = .ok (.ifCond .ne 5, 3) := by decide +kernel
theorem dX7_shift_16 : decode cX7_shift 16 = .ok (.iconst (-1), 1) := by decide +kernel
theorem dX7_shift_17 : decode cX7_shift 17 = .ok (.ireturn, 1) := by decide +kernel
theorem dX7_shift_18 : decode cX7_shift 18 = .ok (.aload_n 0, 1) := by decide +kernel
theorem dX7_shift_19 : decode cX7_shift 19 = .ok (.getfield 213, 3) := by decide +kernel
theorem dX7_shift_22 : decode cX7_shift 22 = .ok (.iload_n 1, 1) := by decide +kernel
theorem dX7_shift_23 : decode cX7_shift 23 = .ok (.iaload, 1) := by decide +kernel
theorem dX7_shift_24 : decode cX7_shift 24 = .ok (.ifCond .lt 12, 3) := by decide +kernel
theorem dX7_shift_27 : decode cX7_shift 27 = .ok (.aload_n 0, 1) := by decide +kernel
theorem dX7_shift_28 : decode cX7_shift 28 = .ok (.getfield 213, 3) := by decide +kernel
theorem dX7_shift_31 : decode cX7_shift 31 = .ok (.iload_n 3, 1) := by decide +kernel
theorem dX7_shift_32 : decode cX7_shift 32 = .ok (.iaload, 1) := by decide +kernel
theorem dX7_shift_33 : decode cX7_shift 33 = .ok (.ifCond .ge 6, 3) := by decide +kernel
theorem dX7_shift_36 : decode cX7_shift 36 = .ok (.bipush (-11), 2) := by decide +kernel
theorem dX7_shift_38 : decode cX7_shift 38 = .ok (.ireturn, 1) := by decide +kernel
theorem dX7_shift_39 : decode cX7_shift 39 = .ok (.aload_n 0, 1) := by decide +kernel
theorem dX7_shift_40 : decode cX7_shift 40 = .ok (.getfield 213, 3) := by decide +kernel
theorem dX7_shift_43 : decode cX7_shift 43 = .ok (.iload_n 1, 1) := by decide +kernel
theorem dX7_shift_44 : decode cX7_shift 44 = .ok (.iaload, 1) := by decide +kernel
theorem dX7_shift_45 : decode cX7_shift 45 = .ok (.aload_n 0, 1) := by decide +kernel
theorem dX7_shift_46 : decode cX7_shift 46 = .ok (.getfield 213, 3) := by decide +kernel
theorem dX7_shift_49 : decode cX7_shift 49 = .ok (.iload_n 3, 1) := by decide +kernel
theorem dX7_shift_50 : decode cX7_shift 50 = .ok (.iaload, 1) := by decide +kernel
theorem dX7_shift_51 : decode cX7_shift 51 = .ok (.if_icmp .eq 6, 3) := by decide +kernel
theorem dX7_shift_54 : decode cX7_shift 54 = .ok (.bipush (-12), 2) := by decide +kernel
theorem dX7_shift_56 : decode cX7_shift 56 = .ok (.ireturn, 1) := by decide +kernel
theorem dX7_shift_57 : decode cX7_shift 57 = .ok (.iload 5, 2) := by decide +kernel
theorem dX7_shift_59 : decode cX7_shift 59 = .ok (.ifCond .lt 39, 3) := by decide +kernel
theorem dX7_shift_62 : decode cX7_shift 62 = .ok (.iload_n 2, 1) := by decide +kernel
theorem dX7_shift_63 : decode cX7_shift 63 = .ok (.ifCond .lt 35, 3) := by decide +kernel
theorem dX7_shift_66 : decode cX7_shift 66 = .ok (.iload 4, 2) := by decide +kernel
theorem dX7_shift_68 : decode cX7_shift 68 = .ok (.ifCond .lt 30, 3) := by decide +kernel
theorem dX7_shift_71 : decode cX7_shift 71 = .ok (.iload_n 2, 1) := by decide +kernel
theorem dX7_shift_72 : decode cX7_shift 72 = .ok (.aload_n 0, 1) := by decide +kernel
theorem dX7_shift_73 : decode cX7_shift 73 = .ok (.getfield 216, 3) := by decide +kernel
theorem dX7_shift_76 : decode cX7_shift 76 = .ok (.iload_n 1, 1) := by decide +kernel
theorem dX7_shift_77 : decode cX7_shift 77 = .ok (.iaload, 1) := by decide +kernel
theorem dX7_shift_78 : decode cX7_shift 78 = .ok (.iload 5, 2) := by decide +kernel
theorem dX7_shift_80 : decode cX7_shift 80 = .ok (.isub, 1) := by decide +kernel
theorem dX7_shift_81 : decode cX7_shift 81 = .ok (.if_icmp .gt 17, 3) := by decide +kernel
theorem dX7_shift_84 : decode cX7_shift 84 = .ok (.iload 4, 2) := by decide +kernel
theorem dX7_shift_86 : decode cX7_shift 86 = .ok (.aload_n 0, 1) := by decide +kernel
theorem dX7_shift_87 : decode cX7_shift 87 = .ok (.getfield 216, 3) := by decide +kernel
theorem dX7_shift_90 : decode cX7_shift 90 = .ok (.iload_n 3, 1) := by decide +kernel
theorem dX7_shift_91 : decode cX7_shift 91 = .ok (.iaload, 1) := by decide +kernel
theorem dX7_shift_92 : decode cX7_shift 92 = .ok (.iload 5, 2) := by decide +kernel
theorem dX7_shift_94 : decode cX7_shift 94 = .ok (.isub, 1) := by decide +kernel
theorem dX7_shift_95 : decode cX7_shift 95 = .ok (.if_icmp .le 6, 3) := by decide +kernel
theorem dX7_shift_98 : decode cX7_shift 98 = .ok (.bipush (-13), 2) := by decide +kernel
theorem dX7_shift_100 : decode cX7_shift 100 = .ok (.ireturn, 1) := by decide +kernel
theorem dX7_shift_101 : decode cX7_shift 101 = .ok (.iconst 0, 1) := by decide +kernel
theorem dX7_shift_102 : decode cX7_shift 102 = .ok (.istore 6, 2) := by decide +kernel
theorem dX7_shift_104 : decode cX7_shift 104 = .ok (.iload 6, 2) := by decide +kernel
theorem dX7_shift_106 : decode cX7_shift 106 = .ok (.iload 5, 2) := by decide +kernel
theorem dX7_shift_108 : decode cX7_shift 108 = .ok (.if_icmp .ge 30, 3) := by decide +kernel
theorem dX7_shift_111 : decode cX7_shift 111 = .ok (.aload_n 0, 1) := by decide +kernel
theorem dX7_shift_112 : decode cX7_shift 112 = .ok (.getfield 223, 3) := by decide +kernel
theorem dX7_shift_115 : decode cX7_shift 115 = .ok (.iload 6, 2) := by decide +kernel
theorem dX7_shift_117 : decode cX7_shift 117 = .ok (.aload_n 0, 1) := by decide +kernel
theorem dX7_shift_118 : decode cX7_shift 118 = .ok (.getfield 219, 3) := by decide +kernel
theorem dX7_shift_121 : decode cX7_shift 121 = .ok (.bipush 60, 2) := by decide +kernel
theorem dX7_shift_123 : decode cX7_shift 123 = .ok (.iload_n 1, 1) := by decide +kernel
theorem dX7_shift_124 : decode cX7_shift 124 = .ok (.imul, 1) := by decide +kernel
theorem dX7_shift_125 : decode cX7_shift 125 = .ok (.iload_n 2, 1) := by decide +kernel
theorem dX7_shift_126 : decode cX7_shift 126 = .ok (.iadd, 1) := by decide +kernel
theorem dX7_shift_127 : decode cX7_shift 127 = .ok (.iload 6, 2) := by decide +kernel
theorem dX7_shift_129 : decode cX7_shift 129 = .ok (.iadd, 1) := by decide +kernel
theorem dX7_shift_130 : decode cX7_shift 130 = .ok (.laload, 1) := by decide +kernel
theorem dX7_shift_131 : decode cX7_shift 131 = .ok (.lastore, 1) := by decide +kernel
theorem dX7_shift_132 : decode cX7_shift 132 = .ok (.iinc 6 1, 3) := by decide +kernel
theorem dX7_shift_135 : decode cX7_shift 135 = .ok (.goto (-31), 3) := by decide +kernel
theorem dX7_shift_138 : decode cX7_shift 138 = .ok (.iconst 0, 1) := by decide +kernel
theorem dX7_shift_139 : decode cX7_shift 139 = .ok (.istore 6, 2) := by decide +kernel
theorem dX7_shift_141 : decode cX7_shift 141 = .ok (.iload 6, 2) := by decide +kernel
theorem dX7_shift_143 : decode cX7_shift 143 = .ok (.iload 5, 2) := by decide +kernel
theorem dX7_shift_145 : decode cX7_shift 145 = .ok (.if_icmp .ge 31, 3) := by decide +kernel
theorem dX7_shift_148 : decode cX7_shift 148 = .ok (.aload_n 0, 1) := by decide +kernel
theorem dX7_shift_149 : decode cX7_shift 149 = .ok (.getfield 219, 3) := by decide +kernel
theorem dX7_shift_152 : decode cX7_shift 152 = .ok (.bipush 60, 2) := by decide +kernel
theorem dX7_shift_154 : decode cX7_shift 154 = .ok (.iload_n 3, 1) := by decide +kernel
theorem dX7_shift_155 : decode cX7_shift 155 = .ok (.imul, 1) := by decide +kernel
theorem dX7_shift_156 : decode cX7_shift 156 = .ok (.iload 4, 2) := by decide +kernel
theorem dX7_shift_158 : decode cX7_shift 158 = .ok (.iadd, 1) := by decide +kernel
theorem dX7_shift_159 : decode cX7_shift 159 = .ok (.iload 6, 2) := by decide +kernel
theorem dX7_shift_161 : decode cX7_shift 161 = .ok (.iadd, 1) := by decide +kernel
theorem dX7_shift_162 : decode cX7_shift 162 = .ok (.aload_n 0, 1) := by decide +kernel
theorem dX7_shift_163 : decode cX7_shift 163 = .ok (.getfield 223, 3) := by decide +kernel
theorem dX7_shift_166 : decode cX7_shift 166 = .ok (.iload 6, 2) := by decide +kernel
theorem dX7_shift_168 : decode cX7_shift 168 = .ok (.laload, 1) := by decide +kernel
theorem dX7_shift_169 : decode cX7_shift 169 = .ok (.lastore, 1) := by decide +kernel
theorem dX7_shift_170 : decode cX7_shift 170 = .ok (.iinc 6 1, 3) := by decide +kernel
theorem dX7_shift_173 : decode cX7_shift 173 = .ok (.goto (-32), 3) := by decide +kernel
theorem dX7_shift_176 : decode cX7_shift 176 = .ok (.iload 5, 2) := by decide +kernel
theorem dX7_shift_178 : decode cX7_shift 178 = .ok (.ireturn, 1) := by decide +kernel
theorem dX7_showsAct_0 : decode cX7_showsAct 0 = .ok (.aload_n 0, 1) := by decide +kernel
theorem dX7_showsAct_1 : decode cX7_showsAct 1 = .ok (.getfield 30, 3) := by decide +kernel
theorem dX7_showsAct_4 : decode cX7_showsAct 4 = .ok (.iload_n 1, 1) := by decide +kernel
theorem dX7_showsAct_5 : decode cX7_showsAct 5 = .ok (.iaload, 1) := by decide +kernel
theorem dX7_showsAct_6 : decode cX7_showsAct 6 = .ok (.lookupswitch 78 #[(1, 34), (4, 41), (6, 56)], 34) := by decide +kernel
theorem dX7_showsAct_40 : decode cX7_showsAct 40 = .ok (.aload_n 0, 1) := by decide +kernel
theorem dX7_showsAct_41 : decode cX7_showsAct 41 = .ok (.iload_n 1, 1) := by decide +kernel
theorem dX7_showsAct_42 : decode cX7_showsAct 42 = .ok (.iload_n 2, 1) := by decide +kernel
theorem dX7_showsAct_43 : decode cX7_showsAct 43 = .ok (.invokevirtual 399, 3) := by decide +kernel
theorem dX7_showsAct_46 : decode cX7_showsAct 46 = .ok (.ireturn, 1) := by decide +kernel
theorem dX7_showsAct_47 : decode cX7_showsAct 47 = .ok (.aload_n 0, 1) := by decide +kernel
theorem dX7_showsAct_48 : decode cX7_showsAct 48 = .ok (.bipush 51, 2) := by decide +kernel
theorem dX7_showsAct_50 : decode cX7_showsAct 50 = .ok (.invokevirtual 387, 3) := by decide +kernel
theorem dX7_showsAct_53 : decode cX7_showsAct 53 = .ok (.aload_n 0, 1) := by decide +kernel
theorem dX7_showsAct_54 : decode cX7_showsAct 54 = .ok (.iload_n 1, 1) := by decide +kernel
theorem dX7_showsAct_55 : decode cX7_showsAct 55 = .ok (.iload_n 2, 1) := by decide +kernel
theorem dX7_showsAct_56 : decode cX7_showsAct 56 = .ok (.iconst 1, 1) := by decide +kernel
theorem dX7_showsAct_57 : decode cX7_showsAct 57 = .ok (.iadd, 1) := by decide +kernel
theorem dX7_showsAct_58 : decode cX7_showsAct 58 = .ok (.invokevirtual 399, 3) := by decide +kernel
theorem dX7_showsAct_61 : decode cX7_showsAct 61 = .ok (.ireturn, 1) := by decide +kernel
theorem dX7_showsAct_62 : decode cX7_showsAct 62 = .ok (.aload_n 0, 1) := by decide +kernel
theorem dX7_showsAct_63 : decode cX7_showsAct 63 = .ok (.bipush 70, 2) := by decide +kernel
theorem dX7_showsAct_65 : decode cX7_showsAct 65 = .ok (.invokevirtual 387, 3) := by decide +kernel
theorem dX7_showsAct_68 : decode cX7_showsAct 68 = .ok (.aload_n 0, 1) := by decide +kernel
theorem dX7_showsAct_69 : decode cX7_showsAct 69 = .ok (.iload_n 1, 1) := by decide +kernel
theorem dX7_showsAct_70 : decode cX7_showsAct 70 = .ok (.iload_n 2, 1) := by decide +kernel
theorem dX7_showsAct_71 : decode cX7_showsAct 71 = .ok (.invokevirtual 396, 3) := by decide +kernel
theorem dX7_showsAct_74 : decode cX7_showsAct 74 = .ok (.istore_n 3, 1) := by decide +kernel
theorem dX7_showsAct_75 : decode cX7_showsAct 75 = .ok (.iload_n 3, 1) := by decide +kernel
theorem dX7_showsAct_76 : decode cX7_showsAct 76 = .ok (.aload_n 0, 1) := by decide +kernel
theorem dX7_showsAct_77 : decode cX7_showsAct 77 = .ok (.iload_n 1, 1) := by decide +kernel
theorem dX7_showsAct_78 : decode cX7_showsAct 78 = .ok (.iconst 2, 1) := by decide +kernel
theorem dX7_showsAct_79 : decode cX7_showsAct 79 = .ok (.invokevirtual 390, 3) := by decide +kernel
theorem dX7_showsAct_82 : decode cX7_showsAct 82 = .ok (.iadd, 1) := by decide +kernel
theorem dX7_showsAct_83 : decode cX7_showsAct 83 = .ok (.ireturn, 1) := by decide +kernel
theorem dX7_showsAct_84 : decode cX7_showsAct 84 = .ok (.aload_n 0, 1) := by decide +kernel
theorem dX7_showsAct_85 : decode cX7_showsAct 85 = .ok (.iload_n 1, 1) := by decide +kernel
theorem dX7_showsAct_86 : decode cX7_showsAct 86 = .ok (.iload_n 2, 1) := by decide +kernel
theorem dX7_showsAct_87 : decode cX7_showsAct 87 = .ok (.invokevirtual 396, 3) := by decide +kernel
theorem dX7_showsAct_90 : decode cX7_showsAct 90 = .ok (.ireturn, 1) := by decide +kernel
theorem dX7_taken_0 : decode cX7_taken 0 = .ok (.aload_n 0, 1) := by decide +kernel
theorem dX7_taken_1 : decode cX7_taken 1 = .ok (.iload_n 2, 1) := by decide +kernel
theorem dX7_taken_2 : decode cX7_taken 2 = .ok (.iconst 0, 1) := by decide +kernel
theorem dX7_taken_3 : decode cX7_taken 3 = .ok (.bipush 6, 2) := by decide +kernel
theorem dX7_taken_5 : decode cX7_taken 5 = .ok (.invokevirtual 7, 3) := by decide +kernel
theorem dX7_taken_8 : decode cX7_taken 8 = .ok (.ifCond .ne 6, 3) := by decide +kernel
theorem dX7_taken_11 : decode cX7_taken 11 = .ok (.bipush (-2), 2) := by decide +kernel
theorem dX7_taken_13 : decode cX7_taken 13 = .ok (.ireturn, 1) := by decide +kernel
theorem dX7_taken_14 : decode cX7_taken 14 = .ok (.aload_n 0, 1) := by decide +kernel
theorem dX7_taken_15 : decode cX7_taken 15 = .ok (.iload_n 1, 1) := by decide +kernel
theorem dX7_taken_16 : decode cX7_taken 16 = .ok (.invokevirtual 229, 3) := by decide +kernel
theorem dX7_taken_19 : decode cX7_taken 19 = .ok (.ifCond .ne 6, 3) := by decide +kernel
theorem dX7_taken_22 : decode cX7_taken 22 = .ok (.bipush (-11), 2) := by decide +kernel
theorem dX7_taken_24 : decode cX7_taken 24 = .ok (.ireturn, 1) := by decide +kernel
theorem dX7_taken_25 : decode cX7_taken 25 = .ok (.aload_n 0, 1) := by decide +kernel
theorem dX7_taken_26 : decode cX7_taken 26 = .ok (.getfield 30, 3) := by decide +kernel
theorem dX7_taken_29 : decode cX7_taken 29 = .ok (.iload_n 1, 1) := by decide +kernel
theorem dX7_taken_30 : decode cX7_taken 30 = .ok (.iaload, 1) := by decide +kernel
theorem dX7_taken_31 : decode cX7_taken 31 = .ok (.istore_n 3, 1) := by decide +kernel
theorem dX7_taken_32 : decode cX7_taken 32 = .ok (.iload_n 2, 1) := by decide +kernel
theorem dX7_taken_33 : decode cX7_taken 33 = .ok (.ifCond .eq 39, 3) := by decide +kernel
theorem dX7_taken_36 : decode cX7_taken 36 = .ok (.iload_n 3, 1) := by decide +kernel
theorem dX7_taken_37 : decode cX7_taken 37 = .ok (.iload_n 2, 1) := by decide +kernel
theorem dX7_taken_38 : decode cX7_taken 38 = .ok (.if_icmp .eq 34, 3) := by decide +kernel
theorem dX7_taken_41 : decode cX7_taken 41 = .ok (.iload_n 2, 1) := by decide +kernel
theorem dX7_taken_42 : decode cX7_taken 42 = .ok (.iconst 1, 1) := by decide +kernel
theorem dX7_taken_43 : decode cX7_taken 43 = .ok (.if_icmp .ne 8, 3) := by decide +kernel
theorem dX7_taken_46 : decode cX7_taken 46 = .ok (.iload_n 3, 1) := by decide +kernel
theorem dX7_taken_47 : decode cX7_taken 47 = .ok (.iconst 4, 1) := by decide +kernel
theorem dX7_taken_48 : decode cX7_taken 48 = .ok (.if_icmp .eq 24, 3) := by decide +kernel
theorem dX7_taken_51 : decode cX7_taken 51 = .ok (.iload_n 2, 1) := by decide +kernel
theorem dX7_taken_52 : decode cX7_taken 52 = .ok (.iconst 2, 1) := by decide +kernel
theorem dX7_taken_53 : decode cX7_taken 53 = .ok (.if_icmp .ne 8, 3) := by decide +kernel
theorem dX7_taken_56 : decode cX7_taken 56 = .ok (.iload_n 3, 1) := by decide +kernel
theorem dX7_taken_57 : decode cX7_taken 57 = .ok (.iconst 5, 1) := by decide +kernel
theorem dX7_taken_58 : decode cX7_taken 58 = .ok (.if_icmp .eq 14, 3) := by decide +kernel
theorem dX7_taken_61 : decode cX7_taken 61 = .ok (.iload_n 2, 1) := by decide +kernel
theorem dX7_taken_62 : decode cX7_taken 62 = .ok (.iconst 3, 1) := by decide +kernel
theorem dX7_taken_63 : decode cX7_taken 63 = .ok (.if_icmp .ne 13, 3) := by decide +kernel
theorem dX7_taken_66 : decode cX7_taken 66 = .ok (.iload_n 3, 1) := by decide +kernel
theorem dX7_taken_67 : decode cX7_taken 67 = .ok (.bipush 6, 2) := by decide +kernel
theorem dX7_taken_69 : decode cX7_taken 69 = .ok (.if_icmp .ne 7, 3) := by decide +kernel
theorem dX7_taken_72 : decode cX7_taken 72 = .ok (.iload_n 3, 1) := by decide +kernel
theorem dX7_taken_73 : decode cX7_taken 73 = .ok (.goto 5, 3) := by decide +kernel
theorem dX7_taken_76 : decode cX7_taken 76 = .ok (.bipush (-12), 2) := by decide +kernel
theorem dX7_taken_78 : decode cX7_taken 78 = .ok (.ireturn, 1) := by decide +kernel
theorem dX7_takes_0 : decode cX7_takes 0 = .ok (.aload_n 0, 1) := by decide +kernel
theorem dX7_takes_1 : decode cX7_takes 1 = .ok (.invokevirtual 241, 3) := by decide +kernel
theorem dX7_takes_4 : decode cX7_takes 4 = .ok (.iload_n 1, 1) := by decide +kernel
theorem dX7_takes_5 : decode cX7_takes 5 = .ok (.if_icmp .eq 5, 3) := by decide +kernel
theorem dX7_takes_8 : decode cX7_takes 8 = .ok (.iconst 0, 1) := by decide +kernel
theorem dX7_takes_9 : decode cX7_takes 9 = .ok (.ireturn, 1) := by decide +kernel
theorem dX7_takes_10 : decode cX7_takes 10 = .ok (.aload_n 0, 1) := by decide +kernel
theorem dX7_takes_11 : decode cX7_takes 11 = .ok (.dup, 1) := by decide +kernel
theorem dX7_takes_12 : decode cX7_takes 12 = .ok (.getfield 55, 3) := by decide +kernel
theorem dX7_takes_15 : decode cX7_takes 15 = .ok (.iconst 1, 1) := by decide +kernel
theorem dX7_takes_16 : decode cX7_takes 16 = .ok (.iadd, 1) := by decide +kernel
theorem dX7_takes_17 : decode cX7_takes 17 = .ok (.putfield 55, 3) := by decide +kernel
theorem dX7_takes_20 : decode cX7_takes 20 = .ok (.iconst 1, 1) := by decide +kernel
theorem dX7_takes_21 : decode cX7_takes 21 = .ok (.ireturn, 1) := by decide +kernel
theorem dX7_takesClause_0 : decode cX7_takesClause 0 = .ok (.aload_n 0, 1) := by decide +kernel
theorem dX7_takesClause_1 : decode cX7_takesClause 1 = .ok (.iload_n 1, 1) := by decide +kernel
theorem dX7_takesClause_2 : decode cX7_takesClause 2 = .ok (.invokevirtual 281, 3) := by decide +kernel
theorem dX7_takesClause_5 : decode cX7_takesClause 5 = .ok (.ifCond .eq 10, 3) := by decide +kernel
theorem dX7_takesClause_8 : decode cX7_takesClause 8 = .ok (.aload_n 0, 1) := by decide +kernel
theorem dX7_takesClause_9 : decode cX7_takesClause 9 = .ok (.invokevirtual 259, 3) := by decide +kernel
theorem dX7_takesClause_12 : decode cX7_takesClause 12 = .ok (.ifCond .ne 5, 3) := by decide +kernel
theorem dX7_takesClause_15 : decode cX7_takesClause 15 = .ok (.iconst 0, 1) := by decide +kernel
theorem dX7_takesClause_16 : decode cX7_takesClause 16 = .ok (.ireturn, 1) := by decide +kernel
theorem dX7_takesClause_17 : decode cX7_takesClause 17 = .ok (.aload_n 0, 1) := by decide +kernel
theorem dX7_takesClause_18 : decode cX7_takesClause 18 = .ok (.getfield 70, 3) := by decide +kernel
theorem dX7_takesClause_21 : decode cX7_takesClause 21 = .ok (.iload_n 1, 1) := by decide +kernel
theorem dX7_takesClause_22 : decode cX7_takesClause 22 = .ok (.aload_n 0, 1) := by decide +kernel
theorem dX7_takesClause_23 : decode cX7_takesClause 23 = .ok (.getfield 58, 3) := by decide +kernel
theorem dX7_takesClause_26 : decode cX7_takesClause 26 = .ok (.iastore, 1) := by decide +kernel
theorem dX7_takesClause_27 : decode cX7_takesClause 27 = .ok (.aload_n 0, 1) := by decide +kernel
theorem dX7_takesClause_28 : decode cX7_takesClause 28 = .ok (.getfield 67, 3) := by decide +kernel
theorem dX7_takesClause_31 : decode cX7_takesClause 31 = .ok (.iload_n 1, 1) := by decide +kernel
theorem dX7_takesClause_32 : decode cX7_takesClause 32 = .ok (.iaload, 1) := by decide +kernel
theorem dX7_takesClause_33 : decode cX7_takesClause 33 = .ok (.iconst 2, 1) := by decide +kernel
theorem dX7_takesClause_34 : decode cX7_takesClause 34 = .ok (.if_icmp .ge 20, 3) := by decide +kernel
theorem dX7_takesClause_37 : decode cX7_takesClause 37 = .ok (.aload_n 0, 1) := by decide +kernel
theorem dX7_takesClause_38 : decode cX7_takesClause 38 = .ok (.bipush 32, 2) := by decide +kernel
theorem dX7_takesClause_40 : decode cX7_takesClause 40 = .ok (.invokevirtual 245, 3) := by decide +kernel
theorem dX7_takesClause_43 : decode cX7_takesClause 43 = .ok (.ifCond .eq 15, 3) := by decide +kernel
theorem dX7_takesClause_46 : decode cX7_takesClause 46 = .ok (.aload_n 0, 1) := by decide +kernel
theorem dX7_takesClause_47 : decode cX7_takesClause 47 = .ok (.iload_n 1, 1) := by decide +kernel
theorem dX7_takesClause_48 : decode cX7_takesClause 48 = .ok (.invokevirtual 284, 3) := by decide +kernel
theorem dX7_takesClause_51 : decode cX7_takesClause 51 = .ok (.ifCond .eq 7, 3) := by decide +kernel
theorem dX7_takesClause_54 : decode cX7_takesClause 54 = .ok (.iconst 1, 1) := by decide +kernel
theorem dX7_takesClause_55 : decode cX7_takesClause 55 = .ok (.goto 4, 3) := by decide +kernel
theorem dX7_takesClause_58 : decode cX7_takesClause 58 = .ok (.iconst 0, 1) := by decide +kernel
theorem dX7_takesClause_59 : decode cX7_takesClause 59 = .ok (.ireturn, 1) := by decide +kernel
theorem dX7_takesE_0 : decode cX7_takesE 0 = .ok (.aload_n 0, 1) := by decide +kernel
theorem dX7_takesE_1 : decode cX7_takesE 1 = .ok (.iconst 0, 1) := by decide +kernel
theorem dX7_takesE_2 : decode cX7_takesE 2 = .ok (.putfield 88, 3) := by decide +kernel
theorem dX7_takesE_5 : decode cX7_takesE 5 = .ok (.aload_n 0, 1) := by decide +kernel
theorem dX7_takesE_6 : decode cX7_takesE 6 = .ok (.iconst 0, 1) := by decide +kernel
theorem dX7_takesE_7 : decode cX7_takesE 7 = .ok (.putfield 91, 3) := by decide +kernel
theorem dX7_takesE_10 : decode cX7_takesE 10 = .ok (.aload_n 0, 1) := by decide +kernel
theorem dX7_takesE_11 : decode cX7_takesE 11 = .ok (.getfield 73, 3) := by decide +kernel
theorem dX7_takesE_14 : decode cX7_takesE 14 = .ok (.iload_n 1, 1) := by decide +kernel
theorem dX7_takesE_15 : decode cX7_takesE 15 = .ok (.aload_n 0, 1) := by decide +kernel
theorem dX7_takesE_16 : decode cX7_takesE 16 = .ok (.getfield 85, 3) := by decide +kernel
theorem dX7_takesE_19 : decode cX7_takesE 19 = .ok (.iastore, 1) := by decide +kernel
theorem dX7_takesE_20 : decode cX7_takesE 20 = .ok (.iconst 1, 1) := by decide +kernel
theorem dX7_takesE_21 : decode cX7_takesE 21 = .ok (.istore_n 2, 1) := by decide +kernel
theorem dX7_takesE_22 : decode cX7_takesE 22 = .ok (.aload_n 0, 1) := by decide +kernel
theorem dX7_takesE_23 : decode cX7_takesE 23 = .ok (.invokevirtual 241, 3) := by decide +kernel
theorem dX7_takesE_26 : decode cX7_takesE 26 = .ok (.istore_n 3, 1) := by decide +kernel
theorem dX7_takesE_27 : decode cX7_takesE 27 = .ok (.iload_n 2, 1) := by decide +kernel
theorem dX7_takesE_28 : decode cX7_takesE 28 = .ok (.ifCond .eq 82, 3) := by decide +kernel
theorem dX7_takesE_31 : decode cX7_takesE 31 = .ok (.iload_n 3, 1) := by decide +kernel
theorem dX7_takesE_32 : decode cX7_takesE 32 = .ok (.bipush 33, 2) := by decide +kernel
theorem dX7_takesE_34 : decode cX7_takesE 34 = .ok (.if_icmp .eq 9, 3) := by decide +kernel
theorem dX7_takesE_37 : decode cX7_takesE 37 = .ok (.iload_n 3, 1) := by decide +kernel
theorem dX7_takesE_38 : decode cX7_takesE 38 = .ok (.bipush 40, 2) := by decide +kernel
theorem dX7_takesE_40 : decode cX7_takesE 40 = .ok (.if_icmp .ne 56, 3) := by decide +kernel
theorem dX7_takesE_43 : decode cX7_takesE 43 = .ok (.aload_n 0, 1) := by decide +kernel
theorem dX7_takesE_44 : decode cX7_takesE 44 = .ok (.getfield 91, 3) := by decide +kernel
theorem dX7_takesE_47 : decode cX7_takesE 47 = .ok (.iconst 4, 1) := by decide +kernel
theorem dX7_takesE_48 : decode cX7_takesE 48 = .ok (.if_icmp .ne 5, 3) := by decide +kernel
theorem dX7_takesE_51 : decode cX7_takesE 51 = .ok (.iconst 0, 1) := by decide +kernel
theorem dX7_takesE_52 : decode cX7_takesE 52 = .ok (.ireturn, 1) := by decide +kernel
theorem dX7_takesE_53 : decode cX7_takesE 53 = .ok (.aload_n 0, 1) := by decide +kernel
theorem dX7_takesE_54 : decode cX7_takesE 54 = .ok (.dup, 1) := by decide +kernel
theorem dX7_takesE_55 : decode cX7_takesE 55 = .ok (.getfield 91, 3) := by decide +kernel
theorem dX7_takesE_58 : decode cX7_takesE 58 = .ok (.iconst 1, 1) := by decide +kernel
theorem dX7_takesE_59 : decode cX7_takesE 59 = .ok (.iadd, 1) := by decide +kernel
theorem dX7_takesE_60 : decode cX7_takesE 60 = .ok (.putfield 91, 3) := by decide +kernel
theorem dX7_takesE_63 : decode cX7_takesE 63 = .ok (.aload_n 0, 1) := by decide +kernel
theorem dX7_takesE_64 : decode cX7_takesE 64 = .ok (.getfield 82, 3) := by decide +kernel
theorem dX7_takesE_67 : decode cX7_takesE 67 = .ok (.aload_n 0, 1) := by decide +kernel
theorem dX7_takesE_68 : decode cX7_takesE 68 = .ok (.getfield 88, 3) := by decide +kernel
theorem dX7_takesE_71 : decode cX7_takesE 71 = .ok (.iload_n 3, 1) := by decide +kernel
theorem dX7_takesE_72 : decode cX7_takesE 72 = .ok (.iastore, 1) := by decide +kernel
theorem dX7_takesE_73 : decode cX7_takesE 73 = .ok (.aload_n 0, 1) := by decide +kernel
theorem dX7_takesE_74 : decode cX7_takesE 74 = .ok (.dup, 1) := by decide +kernel
theorem dX7_takesE_75 : decode cX7_takesE 75 = .ok (.getfield 88, 3) := by decide +kernel
theorem dX7_takesE_78 : decode cX7_takesE 78 = .ok (.iconst 1, 1) := by decide +kernel
theorem dX7_takesE_79 : decode cX7_takesE 79 = .ok (.iadd, 1) := by decide +kernel
theorem dX7_takesE_80 : decode cX7_takesE 80 = .ok (.putfield 88, 3) := by decide +kernel
theorem dX7_takesE_83 : decode cX7_takesE 83 = .ok (.aload_n 0, 1) := by decide +kernel
theorem dX7_takesE_84 : decode cX7_takesE 84 = .ok (.dup, 1) := by decide +kernel
theorem dX7_takesE_85 : decode cX7_takesE 85 = .ok (.getfield 55, 3) := by decide +kernel
theorem dX7_takesE_88 : decode cX7_takesE 88 = .ok (.iconst 1, 1) := by decide +kernel
theorem dX7_takesE_89 : decode cX7_takesE 89 = .ok (.iadd, 1) := by decide +kernel
theorem dX7_takesE_90 : decode cX7_takesE 90 = .ok (.putfield 55, 3) := by decide +kernel
theorem dX7_takesE_93 : decode cX7_takesE 93 = .ok (.goto (-71), 3) := by decide +kernel
theorem dX7_takesE_96 : decode cX7_takesE 96 = .ok (.aload_n 0, 1) := by decide +kernel
theorem dX7_takesE_97 : decode cX7_takesE 97 = .ok (.invokevirtual 265, 3) := by decide +kernel
theorem dX7_takesE_100 : decode cX7_takesE 100 = .ok (.ifCond .eq 8, 3) := by decide +kernel
theorem dX7_takesE_103 : decode cX7_takesE 103 = .ok (.iconst 0, 1) := by decide +kernel
theorem dX7_takesE_104 : decode cX7_takesE 104 = .ok (.istore_n 2, 1) := by decide +kernel
theorem dX7_takesE_105 : decode cX7_takesE 105 = .ok (.goto (-83), 3) := by decide +kernel
theorem dX7_takesE_108 : decode cX7_takesE 108 = .ok (.iconst 0, 1) := by decide +kernel
theorem dX7_takesE_109 : decode cX7_takesE 109 = .ok (.ireturn, 1) := by decide +kernel
theorem dX7_takesE_110 : decode cX7_takesE 110 = .ok (.iload_n 3, 1) := by decide +kernel
theorem dX7_takesE_111 : decode cX7_takesE 111 = .ok (.bipush 38, 2) := by decide +kernel
theorem dX7_takesE_113 : decode cX7_takesE 113 = .ok (.if_icmp .eq 9, 3) := by decide +kernel
theorem dX7_takesE_116 : decode cX7_takesE 116 = .ok (.iload_n 3, 1) := by decide +kernel
theorem dX7_takesE_117 : decode cX7_takesE 117 = .ok (.bipush 124, 2) := by decide +kernel
theorem dX7_takesE_119 : decode cX7_takesE 119 = .ok (.if_icmp .ne 43, 3) := by decide +kernel
theorem dX7_takesE_122 : decode cX7_takesE 122 = .ok (.aload_n 0, 1) := by decide +kernel
theorem dX7_takesE_123 : decode cX7_takesE 123 = .ok (.iload_n 3, 1) := by decide +kernel
theorem dX7_takesE_124 : decode cX7_takesE 124 = .ok (.invokevirtual 268, 3) := by decide +kernel
theorem dX7_takesE_127 : decode cX7_takesE 127 = .ok (.aload_n 0, 1) := by decide +kernel
theorem dX7_takesE_128 : decode cX7_takesE 128 = .ok (.getfield 82, 3) := by decide +kernel
theorem dX7_takesE_131 : decode cX7_takesE 131 = .ok (.aload_n 0, 1) := by decide +kernel
theorem dX7_takesE_132 : decode cX7_takesE 132 = .ok (.getfield 88, 3) := by decide +kernel
theorem dX7_takesE_135 : decode cX7_takesE 135 = .ok (.iload_n 3, 1) := by decide +kernel
theorem dX7_takesE_136 : decode cX7_takesE 136 = .ok (.iastore, 1) := by decide +kernel
theorem dX7_takesE_137 : decode cX7_takesE 137 = .ok (.aload_n 0, 1) := by decide +kernel
theorem dX7_takesE_138 : decode cX7_takesE 138 = .ok (.dup, 1) := by decide +kernel
theorem dX7_takesE_139 : decode cX7_takesE 139 = .ok (.getfield 88, 3) := by decide +kernel
theorem dX7_takesE_142 : decode cX7_takesE 142 = .ok (.iconst 1, 1) := by decide +kernel
theorem dX7_takesE_143 : decode cX7_takesE 143 = .ok (.iadd, 1) := by decide +kernel
theorem dX7_takesE_144 : decode cX7_takesE 144 = .ok (.putfield 88, 3) := by decide +kernel
theorem dX7_takesE_147 : decode cX7_takesE 147 = .ok (.iconst 1, 1) := by decide +kernel
theorem dX7_takesE_148 : decode cX7_takesE 148 = .ok (.istore_n 2, 1) := by decide +kernel
theorem dX7_takesE_149 : decode cX7_takesE 149 = .ok (.aload_n 0, 1) := by decide +kernel
theorem dX7_takesE_150 : decode cX7_takesE 150 = .ok (.dup, 1) := by decide +kernel
theorem dX7_takesE_151 : decode cX7_takesE 151 = .ok (.getfield 55, 3) := by decide +kernel
theorem dX7_takesE_154 : decode cX7_takesE 154 = .ok (.iconst 1, 1) := by decide +kernel
theorem dX7_takesE_155 : decode cX7_takesE 155 = .ok (.iadd, 1) := by decide +kernel
theorem dX7_takesE_156 : decode cX7_takesE 156 = .ok (.putfield 55, 3) := by decide +kernel
theorem dX7_takesE_159 : decode cX7_takesE 159 = .ok (.goto (-137), 3) := by decide +kernel
theorem dX7_takesE_162 : decode cX7_takesE 162 = .ok (.aload_n 0, 1) := by decide +kernel
theorem dX7_takesE_163 : decode cX7_takesE 163 = .ok (.bipush 124, 2) := by decide +kernel
theorem dX7_takesE_165 : decode cX7_takesE 165 = .ok (.invokevirtual 268, 3) := by decide +kernel
theorem dX7_takesE_168 : decode cX7_takesE 168 = .ok (.aload_n 0, 1) := by decide +kernel
theorem dX7_takesE_169 : decode cX7_takesE 169 = .ok (.getfield 76, 3) := by decide +kernel
theorem dX7_takesE_172 : decode cX7_takesE 172 = .ok (.iload_n 1, 1) := by decide +kernel
theorem dX7_takesE_173 : decode cX7_takesE 173 = .ok (.aload_n 0, 1) := by decide +kernel
theorem dX7_takesE_174 : decode cX7_takesE 174 = .ok (.getfield 85, 3) := by decide +kernel
theorem dX7_takesE_177 : decode cX7_takesE 177 = .ok (.iastore, 1) := by decide +kernel
theorem dX7_takesE_178 : decode cX7_takesE 178 = .ok (.aload_n 0, 1) := by decide +kernel
theorem dX7_takesE_179 : decode cX7_takesE 179 = .ok (.getfield 88, 3) := by decide +kernel
theorem dX7_takesE_182 : decode cX7_takesE 182 = .ok (.ifCond .ne 5, 3) := by decide +kernel
theorem dX7_takesE_185 : decode cX7_takesE 185 = .ok (.iconst 1, 1) := by decide +kernel
theorem dX7_takesE_186 : decode cX7_takesE 186 = .ok (.ireturn, 1) := by decide +kernel
theorem dX7_takesE_187 : decode cX7_takesE 187 = .ok (.iload_n 3, 1) := by decide +kernel
theorem dX7_takesE_188 : decode cX7_takesE 188 = .ok (.bipush 41, 2) := by decide +kernel
theorem dX7_takesE_190 : decode cX7_takesE 190 = .ok (.if_icmp .eq 5, 3) := by decide +kernel
theorem dX7_takesE_193 : decode cX7_takesE 193 = .ok (.iconst 0, 1) := by decide +kernel
theorem dX7_takesE_194 : decode cX7_takesE 194 = .ok (.ireturn, 1) := by decide +kernel
theorem dX7_takesE_195 : decode cX7_takesE 195 = .ok (.aload_n 0, 1) := by decide +kernel
theorem dX7_takesE_196 : decode cX7_takesE 196 = .ok (.dup, 1) := by decide +kernel
theorem dX7_takesE_197 : decode cX7_takesE 197 = .ok (.getfield 88, 3) := by decide +kernel
theorem dX7_takesE_200 : decode cX7_takesE 200 = .ok (.iconst 1, 1) := by decide +kernel
theorem dX7_takesE_201 : decode cX7_takesE 201 = .ok (.isub, 1) := by decide +kernel
theorem dX7_takesE_202 : decode cX7_takesE 202 = .ok (.putfield 88, 3) := by decide +kernel
theorem dX7_takesE_205 : decode cX7_takesE 205 = .ok (.aload_n 0, 1) := by decide +kernel
theorem dX7_takesE_206 : decode cX7_takesE 206 = .ok (.dup, 1) := by decide +kernel
theorem dX7_takesE_207 : decode cX7_takesE 207 = .ok (.getfield 91, 3) := by decide +kernel
theorem dX7_takesE_210 : decode cX7_takesE 210 = .ok (.iconst 1, 1) := by decide +kernel
theorem dX7_takesE_211 : decode cX7_takesE 211 = .ok (.isub, 1) := by decide +kernel
theorem dX7_takesE_212 : decode cX7_takesE 212 = .ok (.putfield 91, 3) := by decide +kernel
theorem dX7_takesE_215 : decode cX7_takesE 215 = .ok (.aload_n 0, 1) := by decide +kernel
theorem dX7_takesE_216 : decode cX7_takesE 216 = .ok (.dup, 1) := by decide +kernel
theorem dX7_takesE_217 : decode cX7_takesE 217 = .ok (.getfield 55, 3) := by decide +kernel
theorem dX7_takesE_220 : decode cX7_takesE 220 = .ok (.iconst 1, 1) := by decide +kernel
theorem dX7_takesE_221 : decode cX7_takesE 221 = .ok (.iadd, 1) := by decide +kernel
theorem dX7_takesE_222 : decode cX7_takesE 222 = .ok (.putfield 55, 3) := by decide +kernel
theorem dX7_takesE_225 : decode cX7_takesE 225 = .ok (.aload_n 0, 1) := by decide +kernel
theorem dX7_takesE_226 : decode cX7_takesE 226 = .ok (.invokevirtual 262, 3) := by decide +kernel
theorem dX7_takesE_229 : decode cX7_takesE 229 = .ok (.goto (-207), 3) := by decide +kernel
theorem dX7_takesHead_0 : decode cX7_takesHead 0 = .ok (.aload_n 0, 1) := by decide +kernel
theorem dX7_takesHead_1 : decode cX7_takesHead 1 = .ok (.invokevirtual 241, 3) := by decide +kernel
theorem dX7_takesHead_4 : decode cX7_takesHead 4 = .ok (.lookupswitch 57 #[(108, 28), (109, 42)], 28) := by decide +kernel
theorem dX7_takesHead_32 : decode cX7_takesHead 32 = .ok (.aload_n 0, 1) := by decide +kernel
theorem dX7_takesHead_33 : decode cX7_takesHead 33 = .ok (.getfield 67, 3) := by decide +kernel
theorem dX7_takesHead_36 : decode cX7_takesHead 36 = .ok (.iload_n 1, 1) := by decide +kernel
theorem dX7_takesHead_37 : decode cX7_takesHead 37 = .ok (.iconst 0, 1) := by decide +kernel
theorem dX7_takesHead_38 : decode cX7_takesHead 38 = .ok (.iastore, 1) := by decide +kernel
theorem dX7_takesHead_39 : decode cX7_takesHead 39 = .ok (.aload_n 0, 1) := by decide +kernel
theorem dX7_takesHead_40 : decode cX7_takesHead 40 = .ok (.iconst 0, 1) := by decide +kernel
theorem dX7_takesHead_41 : decode cX7_takesHead 41 = .ok (.iconst 4, 1) := by decide +kernel
theorem dX7_takesHead_42 : decode cX7_takesHead 42 = .ok (.invokevirtual 271, 3) := by decide +kernel
theorem dX7_takesHead_45 : decode cX7_takesHead 45 = .ok (.ireturn, 1) := by decide +kernel
theorem dX7_takesHead_46 : decode cX7_takesHead 46 = .ok (.aload_n 0, 1) := by decide +kernel
theorem dX7_takesHead_47 : decode cX7_takesHead 47 = .ok (.getfield 67, 3) := by decide +kernel
theorem dX7_takesHead_50 : decode cX7_takesHead 50 = .ok (.iload_n 1, 1) := by decide +kernel
theorem dX7_takesHead_51 : decode cX7_takesHead 51 = .ok (.iconst 3, 1) := by decide +kernel
theorem dX7_takesHead_52 : decode cX7_takesHead 52 = .ok (.iastore, 1) := by decide +kernel
theorem dX7_takesHead_53 : decode cX7_takesHead 53 = .ok (.aload_n 0, 1) := by decide +kernel
theorem dX7_takesHead_54 : decode cX7_takesHead 54 = .ok (.bipush 12, 2) := by decide +kernel
theorem dX7_takesHead_56 : decode cX7_takesHead 56 = .ok (.iconst 4, 1) := by decide +kernel
theorem dX7_takesHead_57 : decode cX7_takesHead 57 = .ok (.invokevirtual 271, 3) := by decide +kernel
theorem dX7_takesHead_60 : decode cX7_takesHead 60 = .ok (.ireturn, 1) := by decide +kernel
theorem dX7_takesHead_61 : decode cX7_takesHead 61 = .ok (.aload_n 0, 1) := by decide +kernel
theorem dX7_takesHead_62 : decode cX7_takesHead 62 = .ok (.getfield 67, 3) := by decide +kernel
theorem dX7_takesHead_65 : decode cX7_takesHead 65 = .ok (.iload_n 1, 1) := by decide +kernel
theorem dX7_takesHead_66 : decode cX7_takesHead 66 = .ok (.aload_n 0, 1) := by decide +kernel
theorem dX7_takesHead_67 : decode cX7_takesHead 67 = .ok (.invokevirtual 275, 3) := by decide +kernel
theorem dX7_takesHead_70 : decode cX7_takesHead 70 = .ok (.bipush 104, 2) := by decide +kernel
theorem dX7_takesHead_72 : decode cX7_takesHead 72 = .ok (.if_icmp .ne 16, 3) := by decide +kernel
theorem dX7_takesHead_75 : decode cX7_takesHead 75 = .ok (.aload_n 0, 1) := by decide +kernel
theorem dX7_takesHead_76 : decode cX7_takesHead 76 = .ok (.invokevirtual 278, 3) := by decide +kernel
theorem dX7_takesHead_79 : decode cX7_takesHead 79 = .ok (.bipush 111, 2) := by decide +kernel
theorem dX7_takesHead_81 : decode cX7_takesHead 81 = .ok (.if_icmp .ne 7, 3) := by decide +kernel
theorem dX7_takesHead_84 : decode cX7_takesHead 84 = .ok (.iconst 2, 1) := by decide +kernel
theorem dX7_takesHead_85 : decode cX7_takesHead 85 = .ok (.goto 4, 3) := by decide +kernel
theorem dX7_takesHead_88 : decode cX7_takesHead 88 = .ok (.iconst 1, 1) := by decide +kernel
theorem dX7_takesHead_89 : decode cX7_takesHead 89 = .ok (.iastore, 1) := by decide +kernel
theorem dX7_takesHead_90 : decode cX7_takesHead 90 = .ok (.aload_n 0, 1) := by decide +kernel
theorem dX7_takesHead_91 : decode cX7_takesHead 91 = .ok (.getfield 67, 3) := by decide +kernel
theorem dX7_takesHead_94 : decode cX7_takesHead 94 = .ok (.iload_n 1, 1) := by decide +kernel
theorem dX7_takesHead_95 : decode cX7_takesHead 95 = .ok (.iaload, 1) := by decide +kernel
theorem dX7_takesHead_96 : decode cX7_takesHead 96 = .ok (.iconst 2, 1) := by decide +kernel
theorem dX7_takesHead_97 : decode cX7_takesHead 97 = .ok (.if_icmp .ne 13, 3) := by decide +kernel
theorem dX7_takesHead_100 : decode cX7_takesHead 100 = .ok (.aload_n 0, 1) := by decide +kernel
theorem dX7_takesHead_101 : decode cX7_takesHead 101 = .ok (.bipush 7, 2) := by decide +kernel
theorem dX7_takesHead_103 : decode cX7_takesHead 103 = .ok (.iconst 5, 1) := by decide +kernel
theorem dX7_takesHead_104 : decode cX7_takesHead 104 = .ok (.invokevirtual 271, 3) := by decide +kernel
theorem dX7_takesHead_107 : decode cX7_takesHead 107 = .ok (.goto 9, 3) := by decide +kernel
theorem dX7_takesHead_110 : decode cX7_takesHead 110 = .ok (.aload_n 0, 1) := by decide +kernel
theorem dX7_takesHead_111 : decode cX7_takesHead 111 = .ok (.iconst 4, 1) := by decide +kernel
theorem dX7_takesHead_112 : decode cX7_takesHead 112 = .ok (.iconst 3, 1) := by decide +kernel
theorem dX7_takesHead_113 : decode cX7_takesHead 113 = .ok (.invokevirtual 271, 3) := by decide +kernel
theorem dX7_takesHead_116 : decode cX7_takesHead 116 = .ok (.ireturn, 1) := by decide +kernel
theorem dX7_takesNumber_0 : decode cX7_takesNumber 0 = .ok (.aload_n 0, 1) := by decide +kernel
theorem dX7_takesNumber_1 : decode cX7_takesNumber 1 = .ok (.invokevirtual 248, 3) := by decide +kernel
theorem dX7_takesNumber_4 : decode cX7_takesNumber 4 = .ok (.ifCond .ne 5, 3) := by decide +kernel
theorem dX7_takesNumber_7 : decode cX7_takesNumber 7 = .ok (.iconst 0, 1) := by decide +kernel
theorem dX7_takesNumber_8 : decode cX7_takesNumber 8 = .ok (.ireturn, 1) := by decide +kernel
theorem dX7_takesNumber_9 : decode cX7_takesNumber 9 = .ok (.aload_n 0, 1) := by decide +kernel
theorem dX7_takesNumber_10 : decode cX7_takesNumber 10 = .ok (.iconst 0, 1) := by decide +kernel
theorem dX7_takesNumber_11 : decode cX7_takesNumber 11 = .ok (.putfield 58, 3) := by decide +kernel
theorem dX7_takesNumber_14 : decode cX7_takesNumber 14 = .ok (.iconst 0, 1) := by decide +kernel
theorem dX7_takesNumber_15 : decode cX7_takesNumber 15 = .ok (.istore_n 1, 1) := by decide +kernel
theorem dX7_takesNumber_16 : decode cX7_takesNumber 16 = .ok (.iload_n 1, 1) := by decide +kernel
theorem dX7_takesNumber_17 : decode cX7_takesNumber 17 = .ok (.iconst 2, 1) := by decide +kernel
theorem dX7_takesNumber_18 : decode cX7_takesNumber 18 = .ok (.if_icmp .ge 45, 3) := by decide +kernel
theorem dX7_takesNumber_21 : decode cX7_takesNumber 21 = .ok (.aload_n 0, 1) := by decide +kernel
theorem dX7_takesNumber_22 : decode cX7_takesNumber 22 = .ok (.invokevirtual 248, 3) := by decide +kernel
theorem dX7_takesNumber_25 : decode cX7_takesNumber 25 = .ok (.ifCond .eq 38, 3) := by decide +kernel
theorem dX7_takesNumber_28 : decode cX7_takesNumber 28 = .ok (.aload_n 0, 1) := by decide +kernel
theorem dX7_takesNumber_29 : decode cX7_takesNumber 29 = .ok (.bipush 10, 2) := by decide +kernel
theorem dX7_takesNumber_31 : decode cX7_takesNumber 31 = .ok (.aload_n 0, 1) := by decide +kernel
theorem dX7_takesNumber_32 : decode cX7_takesNumber 32 = .ok (.getfield 58, 3) := by decide +kernel
theorem dX7_takesNumber_35 : decode cX7_takesNumber 35 = .ok (.imul, 1) := by decide +kernel
theorem dX7_takesNumber_36 : decode cX7_takesNumber 36 = .ok (.aload_n 0, 1) := by decide +kernel
theorem dX7_takesNumber_37 : decode cX7_takesNumber 37 = .ok (.invokevirtual 241, 3) := by decide +kernel
theorem dX7_takesNumber_40 : decode cX7_takesNumber 40 = .ok (.iadd, 1) := by decide +kernel
theorem dX7_takesNumber_41 : decode cX7_takesNumber 41 = .ok (.bipush 48, 2) := by decide +kernel
theorem dX7_takesNumber_43 : decode cX7_takesNumber 43 = .ok (.isub, 1) := by decide +kernel
theorem dX7_takesNumber_44 : decode cX7_takesNumber 44 = .ok (.putfield 58, 3) := by decide +kernel
theorem dX7_takesNumber_47 : decode cX7_takesNumber 47 = .ok (.aload_n 0, 1) := by decide +kernel
theorem dX7_takesNumber_48 : decode cX7_takesNumber 48 = .ok (.dup, 1) := by decide +kernel
theorem dX7_takesNumber_49 : decode cX7_takesNumber 49 = .ok (.getfield 55, 3) := by decide +kernel
theorem dX7_takesNumber_52 : decode cX7_takesNumber 52 = .ok (.iconst 1, 1) := by decide +kernel
theorem dX7_takesNumber_53 : decode cX7_takesNumber 53 = .ok (.iadd, 1) := by decide +kernel
theorem dX7_takesNumber_54 : decode cX7_takesNumber 54 = .ok (.putfield 55, 3) := by decide +kernel
theorem dX7_takesNumber_57 : decode cX7_takesNumber 57 = .ok (.iinc 1 1, 3) := by decide +kernel
theorem dX7_takesNumber_60 : decode cX7_takesNumber 60 = .ok (.goto (-44), 3) := by decide +kernel
theorem dX7_takesNumber_63 : decode cX7_takesNumber 63 = .ok (.iconst 1, 1) := by decide +kernel
theorem dX7_takesNumber_64 : decode cX7_takesNumber 64 = .ok (.ireturn, 1) := by decide +kernel
theorem dX7_takesTest_0 : decode cX7_takesTest 0 = .ok (.aload_n 0, 1) := by decide +kernel
theorem dX7_takesTest_1 : decode cX7_takesTest 1 = .ok (.aload_n 0, 1) := by decide +kernel
theorem dX7_takesTest_2 : decode cX7_takesTest 2 = .ok (.invokevirtual 241, 3) := by decide +kernel
theorem dX7_takesTest_5 : decode cX7_takesTest 5 = .ok (.invokevirtual 256, 3) := by decide +kernel
theorem dX7_takesTest_8 : decode cX7_takesTest 8 = .ok (.istore_n 1, 1) := by decide +kernel
theorem dX7_takesTest_9 : decode cX7_takesTest 9 = .ok (.iload_n 1, 1) := by decide +kernel
theorem dX7_takesTest_10 : decode cX7_takesTest 10 = .ok (.ifCond .ge 5, 3) := by decide +kernel
theorem dX7_takesTest_13 : decode cX7_takesTest 13 = .ok (.iconst 0, 1) := by decide +kernel
theorem dX7_takesTest_14 : decode cX7_takesTest 14 = .ok (.ireturn, 1) := by decide +kernel
theorem dX7_takesTest_15 : decode cX7_takesTest 15 = .ok (.aload_n 0, 1) := by decide +kernel
theorem dX7_takesTest_16 : decode cX7_takesTest 16 = .ok (.dup, 1) := by decide +kernel
theorem dX7_takesTest_17 : decode cX7_takesTest 17 = .ok (.getfield 55, 3) := by decide +kernel
theorem dX7_takesTest_20 : decode cX7_takesTest 20 = .ok (.iconst 1, 1) := by decide +kernel
theorem dX7_takesTest_21 : decode cX7_takesTest 21 = .ok (.iadd, 1) := by decide +kernel
theorem dX7_takesTest_22 : decode cX7_takesTest 22 = .ok (.putfield 55, 3) := by decide +kernel
theorem dX7_takesTest_25 : decode cX7_takesTest 25 = .ok (.aload_n 0, 1) := by decide +kernel
theorem dX7_takesTest_26 : decode cX7_takesTest 26 = .ok (.invokevirtual 241, 3) := by decide +kernel
theorem dX7_takesTest_29 : decode cX7_takesTest 29 = .ok (.istore_n 2, 1) := by decide +kernel
theorem dX7_takesTest_30 : decode cX7_takesTest 30 = .ok (.aload_n 0, 1) := by decide +kernel
theorem dX7_takesTest_31 : decode cX7_takesTest 31 = .ok (.iload_n 2, 1) := by decide +kernel
theorem dX7_takesTest_32 : decode cX7_takesTest 32 = .ok (.bipush 60, 2) := by decide +kernel
theorem dX7_takesTest_34 : decode cX7_takesTest 34 = .ok (.bipush 62, 2) := by decide +kernel
theorem dX7_takesTest_36 : decode cX7_takesTest 36 = .ok (.invokevirtual 7, 3) := by decide +kernel
theorem dX7_takesTest_39 : decode cX7_takesTest 39 = .ok (.ifCond .ne 5, 3) := by decide +kernel
theorem dX7_takesTest_42 : decode cX7_takesTest 42 = .ok (.iconst 0, 1) := by decide +kernel
theorem dX7_takesTest_43 : decode cX7_takesTest 43 = .ok (.ireturn, 1) := by decide +kernel
theorem dX7_takesTest_44 : decode cX7_takesTest 44 = .ok (.aload_n 0, 1) := by decide +kernel
theorem dX7_takesTest_45 : decode cX7_takesTest 45 = .ok (.dup, 1) := by decide +kernel
theorem dX7_takesTest_46 : decode cX7_takesTest 46 = .ok (.getfield 55, 3) := by decide +kernel
theorem dX7_takesTest_49 : decode cX7_takesTest 49 = .ok (.iconst 1, 1) := by decide +kernel
theorem dX7_takesTest_50 : decode cX7_takesTest 50 = .ok (.iadd, 1) := by decide +kernel
theorem dX7_takesTest_51 : decode cX7_takesTest 51 = .ok (.putfield 55, 3) := by decide +kernel
theorem dX7_takesTest_54 : decode cX7_takesTest 54 = .ok (.aload_n 0, 1) := by decide +kernel
theorem dX7_takesTest_55 : decode cX7_takesTest 55 = .ok (.invokevirtual 259, 3) := by decide +kernel
theorem dX7_takesTest_58 : decode cX7_takesTest 58 = .ok (.ifCond .ne 5, 3) := by decide +kernel
theorem dX7_takesTest_61 : decode cX7_takesTest 61 = .ok (.iconst 0, 1) := by decide +kernel
theorem dX7_takesTest_62 : decode cX7_takesTest 62 = .ok (.ireturn, 1) := by decide +kernel
theorem dX7_takesTest_63 : decode cX7_takesTest 63 = .ok (.aload_n 0, 1) := by decide +kernel
theorem dX7_takesTest_64 : decode cX7_takesTest 64 = .ok (.sipush 1000, 3) := by decide +kernel
theorem dX7_takesTest_67 : decode cX7_takesTest 67 = .ok (.iload_n 1, 1) := by decide +kernel
theorem dX7_takesTest_68 : decode cX7_takesTest 68 = .ok (.imul, 1) := by decide +kernel
theorem dX7_takesTest_69 : decode cX7_takesTest 69 = .ok (.bipush 100, 2) := by decide +kernel
theorem dX7_takesTest_71 : decode cX7_takesTest 71 = .ok (.iload_n 2, 1) := by decide +kernel
theorem dX7_takesTest_72 : decode cX7_takesTest 72 = .ok (.bipush 60, 2) := by decide +kernel
theorem dX7_takesTest_74 : decode cX7_takesTest 74 = .ok (.isub, 1) := by decide +kernel
theorem dX7_takesTest_75 : decode cX7_takesTest 75 = .ok (.imul, 1) := by decide +kernel
theorem dX7_takesTest_76 : decode cX7_takesTest 76 = .ok (.iadd, 1) := by decide +kernel
theorem dX7_takesTest_77 : decode cX7_takesTest 77 = .ok (.aload_n 0, 1) := by decide +kernel
theorem dX7_takesTest_78 : decode cX7_takesTest 78 = .ok (.getfield 58, 3) := by decide +kernel
theorem dX7_takesTest_81 : decode cX7_takesTest 81 = .ok (.iadd, 1) := by decide +kernel
theorem dX7_takesTest_82 : decode cX7_takesTest 82 = .ok (.invokevirtual 252, 3) := by decide +kernel
theorem dX7_takesTest_85 : decode cX7_takesTest 85 = .ok (.aload_n 0, 1) := by decide +kernel
theorem dX7_takesTest_86 : decode cX7_takesTest 86 = .ok (.invokevirtual 262, 3) := by decide +kernel
theorem dX7_takesTest_89 : decode cX7_takesTest 89 = .ok (.iconst 1, 1) := by decide +kernel
theorem dX7_takesTest_90 : decode cX7_takesTest 90 = .ok (.ireturn, 1) := by decide +kernel
theorem dX7_takesWord_0 : decode cX7_takesWord 0 = .ok (.iconst 0, 1) := by decide +kernel
theorem dX7_takesWord_1 : decode cX7_takesWord 1 = .ok (.istore_n 3, 1) := by decide +kernel
theorem dX7_takesWord_2 : decode cX7_takesWord 2 = .ok (.iload_n 3, 1) := by decide +kernel
theorem dX7_takesWord_3 : decode cX7_takesWord 3 = .ok (.iload_n 2, 1) := by decide +kernel
theorem dX7_takesWord_4 : decode cX7_takesWord 4 = .ok (.if_icmp .ge 26, 3) := by decide +kernel
theorem dX7_takesWord_7 : decode cX7_takesWord 7 = .ok (.aload_n 0, 1) := by decide +kernel
theorem dX7_takesWord_8 : decode cX7_takesWord 8 = .ok (.aload_n 0, 1) := by decide +kernel
theorem dX7_takesWord_9 : decode cX7_takesWord 9 = .ok (.getfield 94, 3) := by decide +kernel
theorem dX7_takesWord_12 : decode cX7_takesWord 12 = .ok (.iload_n 1, 1) := by decide +kernel
theorem dX7_takesWord_13 : decode cX7_takesWord 13 = .ok (.iload_n 3, 1) := by decide +kernel
theorem dX7_takesWord_14 : decode cX7_takesWord 14 = .ok (.iadd, 1) := by decide +kernel
theorem dX7_takesWord_15 : decode cX7_takesWord 15 = .ok (.iaload, 1) := by decide +kernel
theorem dX7_takesWord_16 : decode cX7_takesWord 16 = .ok (.invokevirtual 245, 3) := by decide +kernel
theorem dX7_takesWord_19 : decode cX7_takesWord 19 = .ok (.ifCond .ne 5, 3) := by decide +kernel
theorem dX7_takesWord_22 : decode cX7_takesWord 22 = .ok (.iconst 0, 1) := by decide +kernel
theorem dX7_takesWord_23 : decode cX7_takesWord 23 = .ok (.ireturn, 1) := by decide +kernel
theorem dX7_takesWord_24 : decode cX7_takesWord 24 = .ok (.iinc 3 1, 3) := by decide +kernel
theorem dX7_takesWord_27 : decode cX7_takesWord 27 = .ok (.goto (-25), 3) := by decide +kernel
theorem dX7_takesWord_30 : decode cX7_takesWord 30 = .ok (.aload_n 0, 1) := by decide +kernel
theorem dX7_takesWord_31 : decode cX7_takesWord 31 = .ok (.bipush 32, 2) := by decide +kernel
theorem dX7_takesWord_33 : decode cX7_takesWord 33 = .ok (.invokevirtual 245, 3) := by decide +kernel
theorem dX7_takesWord_36 : decode cX7_takesWord 36 = .ok (.ireturn, 1) := by decide +kernel
theorem dX7_tape_0 : decode cX7_tape 0 = .ok (.aload_n 0, 1) := by decide +kernel
theorem dX7_tape_1 : decode cX7_tape 1 = .ok (.iload_n 1, 1) := by decide +kernel
theorem dX7_tape_2 : decode cX7_tape 2 = .ok (.invokevirtual 384, 3) := by decide +kernel
theorem dX7_tape_5 : decode cX7_tape 5 = .ok (.ifCond .ne 5, 3) := by decide +kernel
theorem dX7_tape_8 : decode cX7_tape 8 = .ok (.iconst (-1), 1) := by decide +kernel
theorem dX7_tape_9 : decode cX7_tape 9 = .ok (.ireturn, 1) := by decide +kernel
theorem dX7_tape_10 : decode cX7_tape 10 = .ok (.aload_n 0, 1) := by decide +kernel
theorem dX7_tape_11 : decode cX7_tape 11 = .ok (.iload_n 2, 1) := by decide +kernel
theorem dX7_tape_12 : decode cX7_tape 12 = .ok (.iconst (-1), 1) := by decide +kernel
theorem dX7_tape_13 : decode cX7_tape 13 = .ok (.iconst 4, 1) := by decide +kernel
theorem dX7_tape_14 : decode cX7_tape 14 = .ok (.invokevirtual 7, 3) := by decide +kernel
theorem dX7_tape_17 : decode cX7_tape 17 = .ok (.ifCond .eq 13, 3) := by decide +kernel
theorem dX7_tape_20 : decode cX7_tape 20 = .ok (.iload_n 2, 1) := by decide +kernel
theorem dX7_tape_21 : decode cX7_tape 21 = .ok (.ifCond .lt 12, 3) := by decide +kernel
theorem dX7_tape_24 : decode cX7_tape 24 = .ok (.iload_n 3, 1) := by decide +kernel
theorem dX7_tape_25 : decode cX7_tape 25 = .ok (.bipush 60, 2) := by decide +kernel
theorem dX7_tape_27 : decode cX7_tape 27 = .ok (.if_icmp .le 6, 3) := by decide +kernel
theorem dX7_tape_30 : decode cX7_tape 30 = .ok (.bipush (-2), 2) := by decide +kernel
theorem dX7_tape_32 : decode cX7_tape 32 = .ok (.ireturn, 1) := by decide +kernel
theorem dX7_tape_33 : decode cX7_tape 33 = .ok (.iload_n 2, 1) := by decide +kernel
theorem dX7_tape_34 : decode cX7_tape 34 = .ok (.ifCond .lt 10, 3) := by decide +kernel
theorem dX7_tape_37 : decode cX7_tape 37 = .ok (.iload_n 3, 1) := by decide +kernel
theorem dX7_tape_38 : decode cX7_tape 38 = .ok (.ifCond .ge 6, 3) := by decide +kernel
theorem dX7_tape_41 : decode cX7_tape 41 = .ok (.bipush (-14), 2) := by decide +kernel
theorem dX7_tape_43 : decode cX7_tape 43 = .ok (.ireturn, 1) := by decide +kernel
theorem dX7_tape_44 : decode cX7_tape 44 = .ok (.aload_n 0, 1) := by decide +kernel
theorem dX7_tape_45 : decode cX7_tape 45 = .ok (.getfield 213, 3) := by decide +kernel
theorem dX7_tape_48 : decode cX7_tape 48 = .ok (.iload_n 1, 1) := by decide +kernel
theorem dX7_tape_49 : decode cX7_tape 49 = .ok (.iload_n 2, 1) := by decide +kernel
theorem dX7_tape_50 : decode cX7_tape 50 = .ok (.iastore, 1) := by decide +kernel
theorem dX7_tape_51 : decode cX7_tape 51 = .ok (.aload_n 0, 1) := by decide +kernel
theorem dX7_tape_52 : decode cX7_tape 52 = .ok (.getfield 216, 3) := by decide +kernel
theorem dX7_tape_55 : decode cX7_tape 55 = .ok (.iload_n 1, 1) := by decide +kernel
theorem dX7_tape_56 : decode cX7_tape 56 = .ok (.iload_n 2, 1) := by decide +kernel
theorem dX7_tape_57 : decode cX7_tape 57 = .ok (.ifCond .ge 7, 3) := by decide +kernel
theorem dX7_tape_60 : decode cX7_tape 60 = .ok (.iconst 0, 1) := by decide +kernel
theorem dX7_tape_61 : decode cX7_tape 61 = .ok (.goto 4, 3) := by decide +kernel
theorem dX7_tape_64 : decode cX7_tape 64 = .ok (.iload_n 3, 1) := by decide +kernel
theorem dX7_tape_65 : decode cX7_tape 65 = .ok (.iastore, 1) := by decide +kernel
theorem dX7_tape_66 : decode cX7_tape 66 = .ok (.iconst 0, 1) := by decide +kernel
theorem dX7_tape_67 : decode cX7_tape 67 = .ok (.istore 4, 2) := by decide +kernel
theorem dX7_tape_69 : decode cX7_tape 69 = .ok (.iload 4, 2) := by decide +kernel
theorem dX7_tape_71 : decode cX7_tape 71 = .ok (.bipush 60, 2) := by decide +kernel
theorem dX7_tape_73 : decode cX7_tape 73 = .ok (.if_icmp .ge 22, 3) := by decide +kernel
theorem dX7_tape_76 : decode cX7_tape 76 = .ok (.aload_n 0, 1) := by decide +kernel
theorem dX7_tape_77 : decode cX7_tape 77 = .ok (.getfield 219, 3) := by decide +kernel
theorem dX7_tape_80 : decode cX7_tape 80 = .ok (.bipush 60, 2) := by decide +kernel
theorem dX7_tape_82 : decode cX7_tape 82 = .ok (.iload_n 1, 1) := by decide +kernel
theorem dX7_tape_83 : decode cX7_tape 83 = .ok (.imul, 1) := by decide +kernel
theorem dX7_tape_84 : decode cX7_tape 84 = .ok (.iload 4, 2) := by decide +kernel
theorem dX7_tape_86 : decode cX7_tape 86 = .ok (.iadd, 1) := by decide +kernel
theorem dX7_tape_87 : decode cX7_tape 87 = .ok (.lconst 0, 1) := by decide +kernel
theorem dX7_tape_88 : decode cX7_tape 88 = .ok (.lastore, 1) := by decide +kernel
theorem dX7_tape_89 : decode cX7_tape 89 = .ok (.iinc 4 1, 3) := by decide +kernel
theorem dX7_tape_92 : decode cX7_tape 92 = .ok (.goto (-23), 3) := by decide +kernel
theorem dX7_tape_95 : decode cX7_tape 95 = .ok (.iconst 1, 1) := by decide +kernel
theorem dX7_tape_96 : decode cX7_tape 96 = .ok (.ireturn, 1) := by decide +kernel
theorem dX7_tellsAct_0 : decode cX7_tellsAct 0 = .ok (.aload_n 0, 1) := by decide +kernel
theorem dX7_tellsAct_1 : decode cX7_tellsAct 1 = .ok (.getfield 30, 3) := by decide +kernel
theorem dX7_tellsAct_4 : decode cX7_tellsAct 4 = .ok (.iload_n 1, 1) := by decide +kernel
theorem dX7_tellsAct_5 : decode cX7_tellsAct 5 = .ok (.iaload, 1) := by decide +kernel
theorem dX7_tellsAct_6 : decode cX7_tellsAct 6 = .ok (.tableswitch 67 3 6 #[30, 67, 52, 30], 30) := by decide +kernel
theorem dX7_tellsAct_36 : decode cX7_tellsAct 36 = .ok (.aload_n 0, 1) := by decide +kernel
theorem dX7_tellsAct_37 : decode cX7_tellsAct 37 = .ok (.bipush 40, 2) := by decide +kernel
theorem dX7_tellsAct_39 : decode cX7_tellsAct 39 = .ok (.invokevirtual 387, 3) := by decide +kernel
theorem dX7_tellsAct_42 : decode cX7_tellsAct 42 = .ok (.aload_n 0, 1) := by decide +kernel
theorem dX7_tellsAct_43 : decode cX7_tellsAct 43 = .ok (.iload_n 1, 1) := by decide +kernel
theorem dX7_tellsAct_44 : decode cX7_tellsAct 44 = .ok (.iload_n 2, 1) := by decide +kernel
theorem dX7_tellsAct_45 : decode cX7_tellsAct 45 = .ok (.invokevirtual 405, 3) := by decide +kernel
theorem dX7_tellsAct_48 : decode cX7_tellsAct 48 = .ok (.istore_n 3, 1) := by decide +kernel
theorem dX7_tellsAct_49 : decode cX7_tellsAct 49 = .ok (.iload_n 3, 1) := by decide +kernel
theorem dX7_tellsAct_50 : decode cX7_tellsAct 50 = .ok (.aload_n 0, 1) := by decide +kernel
theorem dX7_tellsAct_51 : decode cX7_tellsAct 51 = .ok (.iload_n 1, 1) := by decide +kernel
theorem dX7_tellsAct_52 : decode cX7_tellsAct 52 = .ok (.iconst 1, 1) := by decide +kernel
theorem dX7_tellsAct_53 : decode cX7_tellsAct 53 = .ok (.invokevirtual 402, 3) := by decide +kernel
theorem dX7_tellsAct_56 : decode cX7_tellsAct 56 = .ok (.iadd, 1) := by decide +kernel
theorem dX7_tellsAct_57 : decode cX7_tellsAct 57 = .ok (.ireturn, 1) := by decide +kernel
theorem dX7_tellsAct_58 : decode cX7_tellsAct 58 = .ok (.aload_n 0, 1) := by decide +kernel
theorem dX7_tellsAct_59 : decode cX7_tellsAct 59 = .ok (.bipush 60, 2) := by decide +kernel
theorem dX7_tellsAct_61 : decode cX7_tellsAct 61 = .ok (.invokevirtual 387, 3) := by decide +kernel
theorem dX7_tellsAct_64 : decode cX7_tellsAct 64 = .ok (.aload_n 0, 1) := by decide +kernel
theorem dX7_tellsAct_65 : decode cX7_tellsAct 65 = .ok (.iload_n 1, 1) := by decide +kernel
theorem dX7_tellsAct_66 : decode cX7_tellsAct 66 = .ok (.iload_n 2, 1) := by decide +kernel
theorem dX7_tellsAct_67 : decode cX7_tellsAct 67 = .ok (.iload_n 1, 1) := by decide +kernel
theorem dX7_tellsAct_68 : decode cX7_tellsAct 68 = .ok (.isub, 1) := by decide +kernel
theorem dX7_tellsAct_69 : decode cX7_tellsAct 69 = .ok (.invokevirtual 405, 3) := by decide +kernel
theorem dX7_tellsAct_72 : decode cX7_tellsAct 72 = .ok (.ireturn, 1) := by decide +kernel
theorem dX7_tellsAct_73 : decode cX7_tellsAct 73 = .ok (.aload_n 0, 1) := by decide +kernel
theorem dX7_tellsAct_74 : decode cX7_tellsAct 74 = .ok (.iload_n 1, 1) := by decide +kernel
theorem dX7_tellsAct_75 : decode cX7_tellsAct 75 = .ok (.iload_n 2, 1) := by decide +kernel
theorem dX7_tellsAct_76 : decode cX7_tellsAct 76 = .ok (.invokevirtual 405, 3) := by decide +kernel
theorem dX7_tellsAct_79 : decode cX7_tellsAct 79 = .ok (.ireturn, 1) := by decide +kernel
theorem dX7_third_0 : decode cX7_third 0 = .ok (.aload_n 0, 1) := by decide +kernel
theorem dX7_third_1 : decode cX7_third 1 = .ok (.getfield 55, 3) := by decide +kernel
theorem dX7_third_4 : decode cX7_third 4 = .ok (.iconst 2, 1) := by decide +kernel
theorem dX7_third_5 : decode cX7_third 5 = .ok (.iadd, 1) := by decide +kernel
theorem dX7_third_6 : decode cX7_third 6 = .ok (.aload_n 0, 1) := by decide +kernel
theorem dX7_third_7 : decode cX7_third 7 = .ok (.getfield 52, 3) := by decide +kernel
theorem dX7_third_10 : decode cX7_third 10 = .ok (.if_icmp .ge 17, 3) := by decide +kernel
theorem dX7_third_13 : decode cX7_third 13 = .ok (.aload_n 0, 1) := by decide +kernel
theorem dX7_third_14 : decode cX7_third 14 = .ok (.getfield 61, 3) := by decide +kernel
theorem dX7_third_17 : decode cX7_third 17 = .ok (.aload_n 0, 1) := by decide +kernel
theorem dX7_third_18 : decode cX7_third 18 = .ok (.getfield 55, 3) := by decide +kernel
theorem dX7_third_21 : decode cX7_third 21 = .ok (.iconst 2, 1) := by decide +kernel
theorem dX7_third_22 : decode cX7_third 22 = .ok (.iadd, 1) := by decide +kernel
theorem dX7_third_23 : decode cX7_third 23 = .ok (.iaload, 1) := by decide +kernel
theorem dX7_third_24 : decode cX7_third 24 = .ok (.goto 4, 3) := by decide +kernel
theorem dX7_third_27 : decode cX7_third 27 = .ok (.iconst (-1), 1) := by decide +kernel
theorem dX7_third_28 : decode cX7_third 28 = .ok (.ireturn, 1) := by decide +kernel
theorem dX7_told_0 : decode cX7_told 0 = .ok (.aload_n 0, 1) := by decide +kernel
theorem dX7_told_1 : decode cX7_told 1 = .ok (.iload_n 1, 1) := by decide +kernel
theorem dX7_told_2 : decode cX7_told 2 = .ok (.bipush 10, 2) := by decide +kernel
theorem dX7_told_4 : decode cX7_told 4 = .ok (.bipush 9, 2) := by decide +kernel
theorem dX7_told_6 : decode cX7_told 6 = .ok (.aload_n 0, 1) := by decide +kernel
theorem dX7_told_7 : decode cX7_told 7 = .ok (.getfield 1, 3) := by decide +kernel
theorem dX7_told_10 : decode cX7_told 10 = .ok (.iadd, 1) := by decide +kernel
theorem dX7_told_11 : decode cX7_told 11 = .ok (.invokevirtual 7, 3) := by decide +kernel
theorem dX7_told_14 : decode cX7_told 14 = .ok (.ifCond .eq 13, 3) := by decide +kernel
theorem dX7_told_17 : decode cX7_told 17 = .ok (.aload_n 0, 1) := by decide +kernel
theorem dX7_told_18 : decode cX7_told 18 = .ok (.getfield 43, 3) := by decide +kernel
theorem dX7_told_21 : decode cX7_told 21 = .ok (.iload_n 1, 1) := by decide +kernel
theorem dX7_told_22 : decode cX7_told 22 = .ok (.bipush 10, 2) := by decide +kernel
theorem dX7_told_24 : decode cX7_told 24 = .ok (.isub, 1) := by decide +kernel
theorem dX7_told_25 : decode cX7_told 25 = .ok (.iaload, 1) := by decide +kernel
theorem dX7_told_26 : decode cX7_told 26 = .ok (.ireturn, 1) := by decide +kernel
theorem dX7_told_27 : decode cX7_told 27 = .ok (.iload_n 1, 1) := by decide +kernel
theorem dX7_told_28 : decode cX7_told 28 = .ok (.tableswitch 78 0 4 #[36, 41, 46, 51, 56], 36) := by decide +kernel
theorem dX7_told_64 : decode cX7_told 64 = .ok (.aload_n 0, 1) := by decide +kernel
theorem dX7_told_65 : decode cX7_told 65 = .ok (.getfield 18, 3) := by decide +kernel
theorem dX7_told_68 : decode cX7_told 68 = .ok (.ireturn, 1) := by decide +kernel
theorem dX7_told_69 : decode cX7_told 69 = .ok (.aload_n 0, 1) := by decide +kernel
theorem dX7_told_70 : decode cX7_told 70 = .ok (.getfield 21, 3) := by decide +kernel
theorem dX7_told_73 : decode cX7_told 73 = .ok (.ireturn, 1) := by decide +kernel
theorem dX7_told_74 : decode cX7_told 74 = .ok (.aload_n 0, 1) := by decide +kernel
theorem dX7_told_75 : decode cX7_told 75 = .ok (.getfield 24, 3) := by decide +kernel
theorem dX7_told_78 : decode cX7_told 78 = .ok (.ireturn, 1) := by decide +kernel
theorem dX7_told_79 : decode cX7_told 79 = .ok (.aload_n 0, 1) := by decide +kernel
