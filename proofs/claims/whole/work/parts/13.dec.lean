theorem dX7_act_44 : decode cX7_act 44 = .ok (.iload_n 1, 1) := by decide +kernel
theorem dX7_act_45 : decode cX7_act 45 = .ok (.iload_n 3, 1) := by decide +kernel
theorem dX7_act_46 : decode cX7_act 46 = .ok (.invokevirtual 402, 3) := by decide +kernel
theorem dX7_act_49 : decode cX7_act 49 = .ok (.goto 9, 3) := by decide +kernel
theorem dX7_act_52 : decode cX7_act 52 = .ok (.aload_n 0, 1) := by decide +kernel
theorem dX7_act_53 : decode cX7_act 53 = .ok (.iload_n 1, 1) := by decide +kernel
theorem dX7_act_54 : decode cX7_act 54 = .ok (.iload_n 3, 1) := by decide +kernel
theorem dX7_act_55 : decode cX7_act 55 = .ok (.invokevirtual 408, 3) := by decide +kernel
theorem dX7_act_58 : decode cX7_act 58 = .ok (.ireturn, 1) := by decide +kernel
theorem dX7_begin_0 : decode cX7_begin 0 = .ok (.aload_n 0, 1) := by decide +kernel
theorem dX7_begin_1 : decode cX7_begin 1 = .ok (.getfield 49, 3) := by decide +kernel
theorem dX7_begin_4 : decode cX7_begin 4 = .ok (.ifCond .ge 7, 3) := by decide +kernel
theorem dX7_begin_7 : decode cX7_begin 7 = .ok (.iconst 0, 1) := by decide +kernel
theorem dX7_begin_8 : decode cX7_begin 8 = .ok (.goto 10, 3) := by decide +kernel
theorem dX7_begin_11 : decode cX7_begin 11 = .ok (.bipush 10, 2) := by decide +kernel
theorem dX7_begin_13 : decode cX7_begin 13 = .ok (.aload_n 0, 1) := by decide +kernel
theorem dX7_begin_14 : decode cX7_begin 14 = .ok (.getfield 49, 3) := by decide +kernel
theorem dX7_begin_17 : decode cX7_begin 17 = .ok (.imul, 1) := by decide +kernel
theorem dX7_begin_18 : decode cX7_begin 18 = .ok (.ireturn, 1) := by decide +kernel
theorem dX7_behind_0 : decode cX7_behind 0 = .ok (.aload_n 0, 1) := by decide +kernel
theorem dX7_behind_1 : decode cX7_behind 1 = .ok (.getfield 49, 3) := by decide +kernel
theorem dX7_behind_4 : decode cX7_behind 4 = .ok (.ifCond .ge 7, 3) := by decide +kernel
theorem dX7_behind_7 : decode cX7_behind 7 = .ok (.iconst 0, 1) := by decide +kernel
theorem dX7_behind_8 : decode cX7_behind 8 = .ok (.goto 20, 3) := by decide +kernel
theorem dX7_behind_11 : decode cX7_behind 11 = .ok (.bipush 10, 2) := by decide +kernel
theorem dX7_behind_13 : decode cX7_behind 13 = .ok (.aload_n 0, 1) := by decide +kernel
theorem dX7_behind_14 : decode cX7_behind 14 = .ok (.getfield 49, 3) := by decide +kernel
theorem dX7_behind_17 : decode cX7_behind 17 = .ok (.imul, 1) := by decide +kernel
theorem dX7_behind_18 : decode cX7_behind 18 = .ok (.aload_n 0, 1) := by decide +kernel
theorem dX7_behind_19 : decode cX7_behind 19 = .ok (.getfield 64, 3) := by decide +kernel
theorem dX7_behind_22 : decode cX7_behind 22 = .ok (.aload_n 0, 1) := by decide +kernel
theorem dX7_behind_23 : decode cX7_behind 23 = .ok (.getfield 49, 3) := by decide +kernel
theorem dX7_behind_26 : decode cX7_behind 26 = .ok (.iaload, 1) := by decide +kernel
theorem dX7_behind_27 : decode cX7_behind 27 = .ok (.iadd, 1) := by decide +kernel
theorem dX7_behind_28 : decode cX7_behind 28 = .ok (.ireturn, 1) := by decide +kernel
theorem dX7_best_0 : decode cX7_best 0 = .ok (.aload_n 0, 1) := by decide +kernel
theorem dX7_best_1 : decode cX7_best 1 = .ok (.iload_n 1, 1) := by decide +kernel
theorem dX7_best_2 : decode cX7_best 2 = .ok (.iconst (-1), 1) := by decide +kernel
theorem dX7_best_3 : decode cX7_best 3 = .ok (.iconst 4, 1) := by decide +kernel
theorem dX7_best_4 : decode cX7_best 4 = .ok (.invokevirtual 7, 3) := by decide +kernel
theorem dX7_best_7 : decode cX7_best 7 = .ok (.ifCond .ne 5, 3) := by decide +kernel
theorem dX7_best_10 : decode cX7_best 10 = .ok (.iconst (-1), 1) := by decide +kernel
theorem dX7_best_11 : decode cX7_best 11 = .ok (.ireturn, 1) := by decide +kernel
theorem dX7_best_12 : decode cX7_best 12 = .ok (.aload_n 0, 1) := by decide +kernel
theorem dX7_best_13 : decode cX7_best 13 = .ok (.getfield 1, 3) := by decide +kernel
theorem dX7_best_16 : decode cX7_best 16 = .ok (.ifCond .ne 6, 3) := by decide +kernel
theorem dX7_best_19 : decode cX7_best 19 = .ok (.bipush (-5), 2) := by decide +kernel
theorem dX7_best_21 : decode cX7_best 21 = .ok (.ireturn, 1) := by decide +kernel
theorem dX7_best_22 : decode cX7_best 22 = .ok (.aload_n 0, 1) := by decide +kernel
theorem dX7_best_23 : decode cX7_best 23 = .ok (.getfield 1, 3) := by decide +kernel
theorem dX7_best_26 : decode cX7_best 26 = .ok (.iconst 5, 1) := by decide +kernel
theorem dX7_best_27 : decode cX7_best 27 = .ok (.if_icmp .le 6, 3) := by decide +kernel
theorem dX7_best_30 : decode cX7_best 30 = .ok (.bipush (-9), 2) := by decide +kernel
theorem dX7_best_32 : decode cX7_best 32 = .ok (.ireturn, 1) := by decide +kernel
theorem dX7_best_33 : decode cX7_best 33 = .ok (.ldc_w 351, 3) := by decide +kernel
theorem dX7_best_36 : decode cX7_best 36 = .ok (.istore_n 2, 1) := by decide +kernel
theorem dX7_best_37 : decode cX7_best 37 = .ok (.aload_n 0, 1) := by decide +kernel
theorem dX7_best_38 : decode cX7_best 38 = .ok (.invokevirtual 352, 3) := by decide +kernel
theorem dX7_best_41 : decode cX7_best 41 = .ok (.iconst 0, 1) := by decide +kernel
theorem dX7_best_42 : decode cX7_best 42 = .ok (.istore_n 3, 1) := by decide +kernel
theorem dX7_best_43 : decode cX7_best 43 = .ok (.aload_n 0, 1) := by decide +kernel
theorem dX7_best_44 : decode cX7_best 44 = .ok (.iload_n 3, 1) := by decide +kernel
theorem dX7_best_45 : decode cX7_best 45 = .ok (.invokevirtual 355, 3) := by decide +kernel
theorem dX7_best_48 : decode cX7_best 48 = .ok (.ifCond .eq 57, 3) := by decide +kernel
theorem dX7_best_51 : decode cX7_best 51 = .ok (.aload_n 0, 1) := by decide +kernel
theorem dX7_best_52 : decode cX7_best 52 = .ok (.invokevirtual 345, 3) := by decide +kernel
theorem dX7_best_55 : decode cX7_best 55 = .ok (.istore 4, 2) := by decide +kernel
theorem dX7_best_57 : decode cX7_best 57 = .ok (.iload 4, 2) := by decide +kernel
theorem dX7_best_59 : decode cX7_best 59 = .ok (.iload_n 2, 1) := by decide +kernel
theorem dX7_best_60 : decode cX7_best 60 = .ok (.if_icmp .lt 6, 3) := by decide +kernel
theorem dX7_best_63 : decode cX7_best 63 = .ok (.goto 36, 3) := by decide +kernel
theorem dX7_best_66 : decode cX7_best 66 = .ok (.iload 4, 2) := by decide +kernel
theorem dX7_best_68 : decode cX7_best 68 = .ok (.istore_n 2, 1) := by decide +kernel
theorem dX7_best_69 : decode cX7_best 69 = .ok (.iconst 0, 1) := by decide +kernel
theorem dX7_best_70 : decode cX7_best 70 = .ok (.istore 5, 2) := by decide +kernel
theorem dX7_best_72 : decode cX7_best 72 = .ok (.iload 5, 2) := by decide +kernel
theorem dX7_best_74 : decode cX7_best 74 = .ok (.bipush 6, 2) := by decide +kernel
theorem dX7_best_76 : decode cX7_best 76 = .ok (.if_icmp .ge 23, 3) := by decide +kernel
theorem dX7_best_79 : decode cX7_best 79 = .ok (.aload_n 0, 1) := by decide +kernel
theorem dX7_best_80 : decode cX7_best 80 = .ok (.getfield 125, 3) := by decide +kernel
theorem dX7_best_83 : decode cX7_best 83 = .ok (.iload 5, 2) := by decide +kernel
theorem dX7_best_85 : decode cX7_best 85 = .ok (.aload_n 0, 1) := by decide +kernel
theorem dX7_best_86 : decode cX7_best 86 = .ok (.getfield 43, 3) := by decide +kernel
theorem dX7_best_89 : decode cX7_best 89 = .ok (.iload 5, 2) := by decide +kernel
theorem dX7_best_91 : decode cX7_best 91 = .ok (.iaload, 1) := by decide +kernel
theorem dX7_best_92 : decode cX7_best 92 = .ok (.iastore, 1) := by decide +kernel
theorem dX7_best_93 : decode cX7_best 93 = .ok (.iinc 5 1, 3) := by decide +kernel
theorem dX7_best_96 : decode cX7_best 96 = .ok (.goto (-24), 3) := by decide +kernel
theorem dX7_best_99 : decode cX7_best 99 = .ok (.iinc 3 1, 3) := by decide +kernel
theorem dX7_best_102 : decode cX7_best 102 = .ok (.goto (-59), 3) := by decide +kernel
theorem dX7_best_105 : decode cX7_best 105 = .ok (.aload_n 0, 1) := by decide +kernel
theorem dX7_best_106 : decode cX7_best 106 = .ok (.invokevirtual 358, 3) := by decide +kernel
theorem dX7_best_109 : decode cX7_best 109 = .ok (.iload_n 1, 1) := by decide +kernel
theorem dX7_best_110 : decode cX7_best 110 = .ok (.ifCond .ge 7, 3) := by decide +kernel
theorem dX7_best_113 : decode cX7_best 113 = .ok (.iload_n 2, 1) := by decide +kernel
theorem dX7_best_114 : decode cX7_best 114 = .ok (.goto 22, 3) := by decide +kernel
theorem dX7_best_117 : decode cX7_best 117 = .ok (.iload_n 1, 1) := by decide +kernel
theorem dX7_best_118 : decode cX7_best 118 = .ok (.aload_n 0, 1) := by decide +kernel
theorem dX7_best_119 : decode cX7_best 119 = .ok (.getfield 1, 3) := by decide +kernel
theorem dX7_best_122 : decode cX7_best 122 = .ok (.if_icmp .ge 12, 3) := by decide +kernel
theorem dX7_best_125 : decode cX7_best 125 = .ok (.aload_n 0, 1) := by decide +kernel
theorem dX7_best_126 : decode cX7_best 126 = .ok (.getfield 125, 3) := by decide +kernel
theorem dX7_best_129 : decode cX7_best 129 = .ok (.iload_n 1, 1) := by decide +kernel
theorem dX7_best_130 : decode cX7_best 130 = .ok (.iaload, 1) := by decide +kernel
theorem dX7_best_131 : decode cX7_best 131 = .ok (.goto 5, 3) := by decide +kernel
theorem dX7_best_134 : decode cX7_best 134 = .ok (.bipush (-5), 2) := by decide +kernel
theorem dX7_best_136 : decode cX7_best 136 = .ok (.ireturn, 1) := by decide +kernel
theorem dX7_body_0 : decode cX7_body 0 = .ok (.aload_n 0, 1) := by decide +kernel
theorem dX7_body_1 : decode cX7_body 1 = .ok (.getfield 207, 3) := by decide +kernel
theorem dX7_body_4 : decode cX7_body 4 = .ok (.bipush 20, 2) := by decide +kernel
theorem dX7_body_6 : decode cX7_body 6 = .ok (.if_icmp .ge 13, 3) := by decide +kernel
theorem dX7_body_9 : decode cX7_body 9 = .ok (.aload_n 0, 1) := by decide +kernel
theorem dX7_body_10 : decode cX7_body 10 = .ok (.getfield 210, 3) := by decide +kernel
theorem dX7_body_13 : decode cX7_body 13 = .ok (.aload_n 0, 1) := by decide +kernel
theorem dX7_body_14 : decode cX7_body 14 = .ok (.getfield 207, 3) := by decide +kernel
theorem dX7_body_17 : decode cX7_body 17 = .ok (.iload_n 1, 1) := by decide +kernel
theorem dX7_body_18 : decode cX7_body 18 = .ok (.iastore, 1) := by decide +kernel
theorem dX7_body_19 : decode cX7_body 19 = .ok (.aload_n 0, 1) := by decide +kernel
theorem dX7_body_20 : decode cX7_body 20 = .ok (.dup, 1) := by decide +kernel
theorem dX7_body_21 : decode cX7_body 21 = .ok (.getfield 207, 3) := by decide +kernel
theorem dX7_body_24 : decode cX7_body 24 = .ok (.iconst 1, 1) := by decide +kernel
theorem dX7_body_25 : decode cX7_body 25 = .ok (.iadd, 1) := by decide +kernel
theorem dX7_body_26 : decode cX7_body 26 = .ok (.putfield 207, 3) := by decide +kernel
theorem dX7_body_29 : decode cX7_body 29 = .ok (.return_, 1) := by decide +kernel
theorem dX7_book_0 : decode cX7_book 0 = .ok (.iload_n 1, 1) := by decide +kernel
theorem dX7_book_1 : decode cX7_book 1 = .ok (.iconst (-1), 1) := by decide +kernel
theorem dX7_book_2 : decode cX7_book 2 = .ok (.if_icmp .ne 10, 3) := by decide +kernel
theorem dX7_book_5 : decode cX7_book 5 = .ok (.aload_n 0, 1) := by decide +kernel
theorem dX7_book_6 : decode cX7_book 6 = .ok (.iconst 0, 1) := by decide +kernel
theorem dX7_book_7 : decode cX7_book 7 = .ok (.putfield 149, 3) := by decide +kernel
theorem dX7_book_10 : decode cX7_book 10 = .ok (.iconst 0, 1) := by decide +kernel
theorem dX7_book_11 : decode cX7_book 11 = .ok (.ireturn, 1) := by decide +kernel
theorem dX7_book_12 : decode cX7_book 12 = .ok (.aload_n 0, 1) := by decide +kernel
theorem dX7_book_13 : decode cX7_book 13 = .ok (.iload_n 1, 1) := by decide +kernel
theorem dX7_book_14 : decode cX7_book 14 = .ok (.invokevirtual 333, 3) := by decide +kernel
theorem dX7_book_17 : decode cX7_book 17 = .ok (.ifCond .ne 6, 3) := by decide +kernel
theorem dX7_book_20 : decode cX7_book 20 = .ok (.bipush (-2), 2) := by decide +kernel
theorem dX7_book_22 : decode cX7_book 22 = .ok (.ireturn, 1) := by decide +kernel
theorem dX7_book_23 : decode cX7_book 23 = .ok (.aload_n 0, 1) := by decide +kernel
theorem dX7_book_24 : decode cX7_book 24 = .ok (.getfield 149, 3) := by decide +kernel
theorem dX7_book_27 : decode cX7_book 27 = .ok (.bipush 8, 2) := by decide +kernel
theorem dX7_book_29 : decode cX7_book 29 = .ok (.if_icmp .ne 6, 3) := by decide +kernel
theorem dX7_book_32 : decode cX7_book 32 = .ok (.bipush (-4), 2) := by decide +kernel
theorem dX7_book_34 : decode cX7_book 34 = .ok (.ireturn, 1) := by decide +kernel
theorem dX7_book_35 : decode cX7_book 35 = .ok (.aload_n 0, 1) := by decide +kernel
theorem dX7_book_36 : decode cX7_book 36 = .ok (.getfield 152, 3) := by decide +kernel
theorem dX7_book_39 : decode cX7_book 39 = .ok (.aload_n 0, 1) := by decide +kernel
theorem dX7_book_40 : decode cX7_book 40 = .ok (.getfield 149, 3) := by decide +kernel
theorem dX7_book_43 : decode cX7_book 43 = .ok (.iload_n 1, 1) := by decide +kernel
theorem dX7_book_44 : decode cX7_book 44 = .ok (.iastore, 1) := by decide +kernel
theorem dX7_book_45 : decode cX7_book 45 = .ok (.aload_n 0, 1) := by decide +kernel
theorem dX7_book_46 : decode cX7_book 46 = .ok (.dup, 1) := by decide +kernel
theorem dX7_book_47 : decode cX7_book 47 = .ok (.getfield 149, 3) := by decide +kernel
theorem dX7_book_50 : decode cX7_book 50 = .ok (.iconst 1, 1) := by decide +kernel
theorem dX7_book_51 : decode cX7_book 51 = .ok (.iadd, 1) := by decide +kernel
theorem dX7_book_52 : decode cX7_book 52 = .ok (.putfield 149, 3) := by decide +kernel
theorem dX7_book_55 : decode cX7_book 55 = .ok (.aload_n 0, 1) := by decide +kernel
theorem dX7_book_56 : decode cX7_book 56 = .ok (.getfield 149, 3) := by decide +kernel
theorem dX7_book_59 : decode cX7_book 59 = .ok (.ireturn, 1) := by decide +kernel
theorem dX7_chance_0 : decode cX7_chance 0 = .ok (.iload_n 2, 1) := by decide +kernel
theorem dX7_chance_1 : decode cX7_chance 1 = .ok (.ifCond .eq 7, 3) := by decide +kernel
theorem dX7_chance_4 : decode cX7_chance 4 = .ok (.iload_n 3, 1) := by decide +kernel
theorem dX7_chance_5 : decode cX7_chance 5 = .ok (.ifCond .gt 15, 3) := by decide +kernel
theorem dX7_chance_8 : decode cX7_chance 8 = .ok (.iload_n 2, 1) := by decide +kernel
theorem dX7_chance_9 : decode cX7_chance 9 = .ok (.ifCond .ne 7, 3) := by decide +kernel
theorem dX7_chance_12 : decode cX7_chance 12 = .ok (.iconst 0, 1) := by decide +kernel
theorem dX7_chance_13 : decode cX7_chance 13 = .ok (.goto 6, 3) := by decide +kernel
theorem dX7_chance_16 : decode cX7_chance 16 = .ok (.ldc_w 321, 3) := by decide +kernel
theorem dX7_chance_19 : decode cX7_chance 19 = .ok (.ireturn, 1) := by decide +kernel
theorem dX7_chance_20 : decode cX7_chance 20 = .ok (.iload_n 2, 1) := by decide +kernel
theorem dX7_chance_21 : decode cX7_chance 21 = .ok (.i2l, 1) := by decide +kernel
theorem dX7_chance_22 : decode cX7_chance 22 = .ok (.aload_n 0, 1) := by decide +kernel
theorem dX7_chance_23 : decode cX7_chance 23 = .ok (.iload_n 1, 1) := by decide +kernel
theorem dX7_chance_24 : decode cX7_chance 24 = .ok (.iload_n 2, 1) := by decide +kernel
theorem dX7_chance_25 : decode cX7_chance 25 = .ok (.iload_n 3, 1) := by decide +kernel
theorem dX7_chance_26 : decode cX7_chance 26 = .ok (.iload 4, 2) := by decide +kernel
theorem dX7_chance_28 : decode cX7_chance 28 = .ok (.invokevirtual 322, 3) := by decide +kernel
theorem dX7_chance_31 : decode cX7_chance 31 = .ok (.i2l, 1) := by decide +kernel
theorem dX7_chance_32 : decode cX7_chance 32 = .ok (.lmul, 1) := by decide +kernel
theorem dX7_chance_33 : decode cX7_chance 33 = .ok (.lstore 5, 2) := by decide +kernel
theorem dX7_chance_35 : decode cX7_chance 35 = .ok (.ldc2_w 326, 3) := by decide +kernel
theorem dX7_chance_38 : decode cX7_chance 38 = .ok (.lload 5, 2) := by decide +kernel
theorem dX7_chance_40 : decode cX7_chance 40 = .ok (.lmul, 1) := by decide +kernel
theorem dX7_chance_41 : decode cX7_chance 41 = .ok (.lload 5, 2) := by decide +kernel
theorem dX7_chance_43 : decode cX7_chance 43 = .ok (.ldc2_w 328, 3) := by decide +kernel
theorem dX7_chance_46 : decode cX7_chance 46 = .ok (.iload_n 3, 1) := by decide +kernel
theorem dX7_chance_47 : decode cX7_chance 47 = .ok (.i2l, 1) := by decide +kernel
theorem dX7_chance_48 : decode cX7_chance 48 = .ok (.lmul, 1) := by decide +kernel
theorem dX7_chance_49 : decode cX7_chance 49 = .ok (.ladd, 1) := by decide +kernel
theorem dX7_chance_50 : decode cX7_chance 50 = .ok (.ldiv, 1) := by decide +kernel
theorem dX7_chance_51 : decode cX7_chance 51 = .ok (.l2i, 1) := by decide +kernel
theorem dX7_chance_52 : decode cX7_chance 52 = .ok (.ireturn, 1) := by decide +kernel
theorem dX7_coin_0 : decode cX7_coin 0 = .ok (.aload_n 0, 1) := by decide +kernel
theorem dX7_coin_1 : decode cX7_coin 1 = .ok (.iload_n 1, 1) := by decide +kernel
theorem dX7_coin_2 : decode cX7_coin 2 = .ok (.iconst 1, 1) := by decide +kernel
theorem dX7_coin_3 : decode cX7_coin 3 = .ok (.bipush 99, 2) := by decide +kernel
theorem dX7_coin_5 : decode cX7_coin 5 = .ok (.invokevirtual 7, 3) := by decide +kernel
theorem dX7_coin_8 : decode cX7_coin 8 = .ok (.ifCond .eq 24, 3) := by decide +kernel
theorem dX7_coin_11 : decode cX7_coin 11 = .ok (.aload_n 0, 1) := by decide +kernel
theorem dX7_coin_12 : decode cX7_coin 12 = .ok (.iload_n 2, 1) := by decide +kernel
theorem dX7_coin_13 : decode cX7_coin 13 = .ok (.iconst 1, 1) := by decide +kernel
theorem dX7_coin_14 : decode cX7_coin 14 = .ok (.bipush 16, 2) := by decide +kernel
theorem dX7_coin_16 : decode cX7_coin 16 = .ok (.invokevirtual 7, 3) := by decide +kernel
theorem dX7_coin_19 : decode cX7_coin 19 = .ok (.ifCond .eq 13, 3) := by decide +kernel
theorem dX7_coin_22 : decode cX7_coin 22 = .ok (.aload_n 0, 1) := by decide +kernel
theorem dX7_coin_23 : decode cX7_coin 23 = .ok (.iload_n 3, 1) := by decide +kernel
theorem dX7_coin_24 : decode cX7_coin 24 = .ok (.iconst 0, 1) := by decide +kernel
theorem dX7_coin_25 : decode cX7_coin 25 = .ok (.iconst 1, 1) := by decide +kernel
theorem dX7_coin_26 : decode cX7_coin 26 = .ok (.invokevirtual 7, 3) := by decide +kernel
theorem dX7_coin_29 : decode cX7_coin 29 = .ok (.ifCond .ne 7, 3) := by decide +kernel
theorem dX7_coin_32 : decode cX7_coin 32 = .ok (.ldc2_w 365, 3) := by decide +kernel
theorem dX7_coin_35 : decode cX7_coin 35 = .ok (.lreturn, 1) := by decide +kernel
theorem dX7_coin_36 : decode cX7_coin 36 = .ok (.lconst 0, 1) := by decide +kernel
theorem dX7_coin_37 : decode cX7_coin 37 = .ok (.lstore 4, 2) := by decide +kernel
theorem dX7_coin_39 : decode cX7_coin 39 = .ok (.lconst 1, 1) := by decide +kernel
theorem dX7_coin_40 : decode cX7_coin 40 = .ok (.lstore 6, 2) := by decide +kernel
theorem dX7_coin_42 : decode cX7_coin 42 = .ok (.lload 6, 2) := by decide +kernel
theorem dX7_coin_44 : decode cX7_coin 44 = .ok (.iload_n 2, 1) := by decide +kernel
theorem dX7_coin_45 : decode cX7_coin 45 = .ok (.i2l, 1) := by decide +kernel
theorem dX7_coin_46 : decode cX7_coin 46 = .ok (.lcmp, 1) := by decide +kernel
theorem dX7_coin_47 : decode cX7_coin 47 = .ok (.ifCond .ge 20, 3) := by decide +kernel
theorem dX7_coin_50 : decode cX7_coin 50 = .ok (.lload 6, 2) := by decide +kernel
theorem dX7_coin_52 : decode cX7_coin 52 = .ok (.ldc2_w 367, 3) := by decide +kernel
theorem dX7_coin_55 : decode cX7_coin 55 = .ok (.lmul, 1) := by decide +kernel
theorem dX7_coin_56 : decode cX7_coin 56 = .ok (.lstore 6, 2) := by decide +kernel
theorem dX7_coin_58 : decode cX7_coin 58 = .ok (.lload 4, 2) := by decide +kernel
theorem dX7_coin_60 : decode cX7_coin 60 = .ok (.lconst 1, 1) := by decide +kernel
theorem dX7_coin_61 : decode cX7_coin 61 = .ok (.ladd, 1) := by decide +kernel
theorem dX7_coin_62 : decode cX7_coin 62 = .ok (.lstore 4, 2) := by decide +kernel
theorem dX7_coin_64 : decode cX7_coin 64 = .ok (.goto (-22), 3) := by decide +kernel
theorem dX7_coin_67 : decode cX7_coin 67 = .ok (.iload_n 1, 1) := by decide +kernel
theorem dX7_coin_68 : decode cX7_coin 68 = .ok (.bipush 50, 2) := by decide +kernel
theorem dX7_coin_70 : decode cX7_coin 70 = .ok (.if_icmp .ne 18, 3) := by decide +kernel
theorem dX7_coin_73 : decode cX7_coin 73 = .ok (.aload_n 0, 1) := by decide +kernel
theorem dX7_coin_74 : decode cX7_coin 74 = .ok (.lload 4, 2) := by decide +kernel
theorem dX7_coin_76 : decode cX7_coin 76 = .ok (.lload 6, 2) := by decide +kernel
theorem dX7_coin_78 : decode cX7_coin 78 = .ok (.lmul, 1) := by decide +kernel
theorem dX7_coin_79 : decode cX7_coin 79 = .ok (.iload_n 2, 1) := by decide +kernel
theorem dX7_coin_80 : decode cX7_coin 80 = .ok (.i2l, 1) := by decide +kernel
theorem dX7_coin_81 : decode cX7_coin 81 = .ok (.iload_n 3, 1) := by decide +kernel
theorem dX7_coin_82 : decode cX7_coin 82 = .ok (.invokevirtual 369, 3) := by decide +kernel
theorem dX7_coin_85 : decode cX7_coin 85 = .ok (.goto 28, 3) := by decide +kernel
theorem dX7_coin_88 : decode cX7_coin 88 = .ok (.aload_n 0, 1) := by decide +kernel
theorem dX7_coin_89 : decode cX7_coin 89 = .ok (.ldc2_w 373, 3) := by decide +kernel
theorem dX7_coin_92 : decode cX7_coin 92 = .ok (.lload 4, 2) := by decide +kernel
theorem dX7_coin_94 : decode cX7_coin 94 = .ok (.lmul, 1) := by decide +kernel
theorem dX7_coin_95 : decode cX7_coin 95 = .ok (.lload 6, 2) := by decide +kernel
theorem dX7_coin_97 : decode cX7_coin 97 = .ok (.lmul, 1) := by decide +kernel
theorem dX7_coin_98 : decode cX7_coin 98 = .ok (.iload_n 2, 1) := by decide +kernel
theorem dX7_coin_99 : decode cX7_coin 99 = .ok (.i2l, 1) := by decide +kernel
theorem dX7_coin_100 : decode cX7_coin 100 = .ok (.iload_n 1, 1) := by decide +kernel
theorem dX7_coin_101 : decode cX7_coin 101 = .ok (.i2l, 1) := by decide +kernel
theorem dX7_coin_102 : decode cX7_coin 102 = .ok (.lmul, 1) := by decide +kernel
theorem dX7_coin_103 : decode cX7_coin 103 = .ok (.bipush 100, 2) := by decide +kernel
theorem dX7_coin_105 : decode cX7_coin 105 = .ok (.iload_n 1, 1) := by decide +kernel
theorem dX7_coin_106 : decode cX7_coin 106 = .ok (.isub, 1) := by decide +kernel
theorem dX7_coin_107 : decode cX7_coin 107 = .ok (.i2l, 1) := by decide +kernel
theorem dX7_coin_108 : decode cX7_coin 108 = .ok (.lmul, 1) := by decide +kernel
theorem dX7_coin_109 : decode cX7_coin 109 = .ok (.iload_n 3, 1) := by decide +kernel
theorem dX7_coin_110 : decode cX7_coin 110 = .ok (.invokevirtual 369, 3) := by decide +kernel
theorem dX7_coin_113 : decode cX7_coin 113 = .ok (.lreturn, 1) := by decide +kernel
theorem dX7_count_0 : decode cX7_count 0 = .ok (.iload_n 1, 1) := by decide +kernel
theorem dX7_count_1 : decode cX7_count 1 = .ok (.tableswitch 69 0 5 #[39, 44, 49, 54, 59, 64], 39) := by decide +kernel
theorem dX7_count_40 : decode cX7_count 40 = .ok (.aload_n 0, 1) := by decide +kernel
theorem dX7_count_41 : decode cX7_count 41 = .ok (.getfield 1, 3) := by decide +kernel
theorem dX7_count_44 : decode cX7_count 44 = .ok (.ireturn, 1) := by decide +kernel
theorem dX7_count_45 : decode cX7_count 45 = .ok (.aload_n 0, 1) := by decide +kernel
theorem dX7_count_46 : decode cX7_count 46 = .ok (.getfield 46, 3) := by decide +kernel
theorem dX7_count_49 : decode cX7_count 49 = .ok (.ireturn, 1) := by decide +kernel
theorem dX7_count_50 : decode cX7_count 50 = .ok (.aload_n 0, 1) := by decide +kernel
theorem dX7_count_51 : decode cX7_count 51 = .ok (.getfield 140, 3) := by decide +kernel
theorem dX7_count_54 : decode cX7_count 54 = .ok (.ireturn, 1) := by decide +kernel
theorem dX7_count_55 : decode cX7_count 55 = .ok (.aload_n 0, 1) := by decide +kernel
theorem dX7_count_56 : decode cX7_count 56 = .ok (.getfield 149, 3) := by decide +kernel
theorem dX7_count_59 : decode cX7_count 59 = .ok (.ireturn, 1) := by decide +kernel
theorem dX7_count_60 : decode cX7_count 60 = .ok (.aload_n 0, 1) := by decide +kernel
theorem dX7_count_61 : decode cX7_count 61 = .ok (.getfield 52, 3) := by decide +kernel
theorem dX7_count_64 : decode cX7_count 64 = .ok (.ireturn, 1) := by decide +kernel
theorem dX7_count_65 : decode cX7_count 65 = .ok (.aload_n 0, 1) := by decide +kernel
theorem dX7_count_66 : decode cX7_count 66 = .ok (.getfield 207, 3) := by decide +kernel
theorem dX7_count_69 : decode cX7_count 69 = .ok (.ireturn, 1) := by decide +kernel
theorem dX7_count_70 : decode cX7_count 70 = .ok (.bipush (-2), 2) := by decide +kernel
theorem dX7_count_72 : decode cX7_count 72 = .ok (.ireturn, 1) := by decide +kernel
theorem dX7_dice_0 : decode cX7_dice 0 = .ok (.aload_n 0, 1) := by decide +kernel
theorem dX7_dice_1 : decode cX7_dice 1 = .ok (.iload_n 1, 1) := by decide +kernel
theorem dX7_dice_2 : decode cX7_dice 2 = .ok (.iconst 2, 1) := by decide +kernel
theorem dX7_dice_3 : decode cX7_dice 3 = .ok (.bipush 20, 2) := by decide +kernel
theorem dX7_dice_5 : decode cX7_dice 5 = .ok (.invokevirtual 7, 3) := by decide +kernel
theorem dX7_dice_8 : decode cX7_dice 8 = .ok (.ifCond .eq 24, 3) := by decide +kernel
theorem dX7_dice_11 : decode cX7_dice 11 = .ok (.aload_n 0, 1) := by decide +kernel
theorem dX7_dice_12 : decode cX7_dice 12 = .ok (.iload_n 2, 1) := by decide +kernel
theorem dX7_dice_13 : decode cX7_dice 13 = .ok (.iconst 1, 1) := by decide +kernel
theorem dX7_dice_14 : decode cX7_dice 14 = .ok (.bipush 16, 2) := by decide +kernel
theorem dX7_dice_16 : decode cX7_dice 16 = .ok (.invokevirtual 7, 3) := by decide +kernel
theorem dX7_dice_19 : decode cX7_dice 19 = .ok (.ifCond .eq 13, 3) := by decide +kernel
theorem dX7_dice_22 : decode cX7_dice 22 = .ok (.aload_n 0, 1) := by decide +kernel
theorem dX7_dice_23 : decode cX7_dice 23 = .ok (.iload_n 3, 1) := by decide +kernel
theorem dX7_dice_24 : decode cX7_dice 24 = .ok (.iconst 0, 1) := by decide +kernel
theorem dX7_dice_25 : decode cX7_dice 25 = .ok (.iconst 1, 1) := by decide +kernel
theorem dX7_dice_26 : decode cX7_dice 26 = .ok (.invokevirtual 7, 3) := by decide +kernel
theorem dX7_dice_29 : decode cX7_dice 29 = .ok (.ifCond .ne 7, 3) := by decide +kernel
theorem dX7_dice_32 : decode cX7_dice 32 = .ok (.ldc2_w 365, 3) := by decide +kernel
theorem dX7_dice_35 : decode cX7_dice 35 = .ok (.lreturn, 1) := by decide +kernel
theorem dX7_dice_36 : decode cX7_dice 36 = .ok (.lconst 0, 1) := by decide +kernel
theorem dX7_dice_37 : decode cX7_dice 37 = .ok (.lstore 4, 2) := by decide +kernel
theorem dX7_dice_39 : decode cX7_dice 39 = .ok (.lconst 1, 1) := by decide +kernel
theorem dX7_dice_40 : decode cX7_dice 40 = .ok (.lstore 6, 2) := by decide +kernel
theorem dX7_dice_42 : decode cX7_dice 42 = .ok (.lload 6, 2) := by decide +kernel
theorem dX7_dice_44 : decode cX7_dice 44 = .ok (.iload_n 2, 1) := by decide +kernel
theorem dX7_dice_45 : decode cX7_dice 45 = .ok (.i2l, 1) := by decide +kernel
theorem dX7_dice_46 : decode cX7_dice 46 = .ok (.lcmp, 1) := by decide +kernel
theorem dX7_dice_47 : decode cX7_dice 47 = .ok (.ifCond .ge 19, 3) := by decide +kernel
theorem dX7_dice_50 : decode cX7_dice 50 = .ok (.lload 6, 2) := by decide +kernel
theorem dX7_dice_52 : decode cX7_dice 52 = .ok (.iload_n 1, 1) := by decide +kernel
theorem dX7_dice_53 : decode cX7_dice 53 = .ok (.i2l, 1) := by decide +kernel
theorem dX7_dice_54 : decode cX7_dice 54 = .ok (.lmul, 1) := by decide +kernel
theorem dX7_dice_55 : decode cX7_dice 55 = .ok (.lstore 6, 2) := by decide +kernel
theorem dX7_dice_57 : decode cX7_dice 57 = .ok (.lload 4, 2) := by decide +kernel
theorem dX7_dice_59 : decode cX7_dice 59 = .ok (.lconst 1, 1) := by decide +kernel
theorem dX7_dice_60 : decode cX7_dice 60 = .ok (.ladd, 1) := by decide +kernel
theorem dX7_dice_61 : decode cX7_dice 61 = .ok (.lstore 4, 2) := by decide +kernel
theorem dX7_dice_63 : decode cX7_dice 63 = .ok (.goto (-21), 3) := by decide +kernel
theorem dX7_dice_66 : decode cX7_dice 66 = .ok (.aload_n 0, 1) := by decide +kernel
theorem dX7_dice_67 : decode cX7_dice 67 = .ok (.lload 4, 2) := by decide +kernel
theorem dX7_dice_69 : decode cX7_dice 69 = .ok (.lload 6, 2) := by decide +kernel
theorem dX7_dice_71 : decode cX7_dice 71 = .ok (.lmul, 1) := by decide +kernel
theorem dX7_dice_72 : decode cX7_dice 72 = .ok (.lload 6, 2) := by decide +kernel
theorem dX7_dice_74 : decode cX7_dice 74 = .ok (.iload_n 2, 1) := by decide +kernel
theorem dX7_dice_75 : decode cX7_dice 75 = .ok (.i2l, 1) := by decide +kernel
theorem dX7_dice_76 : decode cX7_dice 76 = .ok (.ldiv, 1) := by decide +kernel
theorem dX7_dice_77 : decode cX7_dice 77 = .ok (.iload_n 2, 1) := by decide +kernel
theorem dX7_dice_78 : decode cX7_dice 78 = .ok (.i2l, 1) := by decide +kernel
theorem dX7_dice_79 : decode cX7_dice 79 = .ok (.lmul, 1) := by decide +kernel
theorem dX7_dice_80 : decode cX7_dice 80 = .ok (.iload_n 3, 1) := by decide +kernel
theorem dX7_dice_81 : decode cX7_dice 81 = .ok (.invokevirtual 369, 3) := by decide +kernel
theorem dX7_dice_84 : decode cX7_dice 84 = .ok (.lreturn, 1) := by decide +kernel
theorem dX7_divisor_0 : decode cX7_divisor 0 = .ok (.lload_n 1, 1) := by decide +kernel
theorem dX7_divisor_1 : decode cX7_divisor 1 = .ok (.lstore 5, 2) := by decide +kernel
theorem dX7_divisor_3 : decode cX7_divisor 3 = .ok (.lload_n 3, 1) := by decide +kernel
theorem dX7_divisor_4 : decode cX7_divisor 4 = .ok (.lstore 7, 2) := by decide +kernel
theorem dX7_divisor_6 : decode cX7_divisor 6 = .ok (.lload 7, 2) := by decide +kernel
theorem dX7_divisor_8 : decode cX7_divisor 8 = .ok (.lconst 0, 1) := by decide +kernel
theorem dX7_divisor_9 : decode cX7_divisor 9 = .ok (.lcmp, 1) := by decide +kernel
theorem dX7_divisor_10 : decode cX7_divisor 10 = .ok (.ifCond .eq 21, 3) := by decide +kernel
theorem dX7_divisor_13 : decode cX7_divisor 13 = .ok (.lload 5, 2) := by decide +kernel
theorem dX7_divisor_15 : decode cX7_divisor 15 = .ok (.lload 7, 2) := by decide +kernel
theorem dX7_divisor_17 : decode cX7_divisor 17 = .ok (.lrem, 1) := by decide +kernel
theorem dX7_divisor_18 : decode cX7_divisor 18 = .ok (.lstore 9, 2) := by decide +kernel
theorem dX7_divisor_20 : decode cX7_divisor 20 = .ok (.lload 7, 2) := by decide +kernel
theorem dX7_divisor_22 : decode cX7_divisor 22 = .ok (.lstore 5, 2) := by decide +kernel
theorem dX7_divisor_24 : decode cX7_divisor 24 = .ok (.lload 9, 2) := by decide +kernel
theorem dX7_divisor_26 : decode cX7_divisor 26 = .ok (.lstore 7, 2) := by decide +kernel
theorem dX7_divisor_28 : decode cX7_divisor 28 = .ok (.goto (-22), 3) := by decide +kernel
theorem dX7_divisor_31 : decode cX7_divisor 31 = .ok (.lload 5, 2) := by decide +kernel
theorem dX7_divisor_33 : decode cX7_divisor 33 = .ok (.lreturn, 1) := by decide +kernel
theorem dX7_draw_0 : decode cX7_draw 0 = .ok (.aload_n 0, 1) := by decide +kernel
theorem dX7_draw_1 : decode cX7_draw 1 = .ok (.iload_n 1, 1) := by decide +kernel
theorem dX7_draw_2 : decode cX7_draw 2 = .ok (.invokevirtual 333, 3) := by decide +kernel
theorem dX7_draw_5 : decode cX7_draw 5 = .ok (.ifCond .ne 6, 3) := by decide +kernel
theorem dX7_draw_8 : decode cX7_draw 8 = .ok (.bipush (-2), 2) := by decide +kernel
theorem dX7_draw_10 : decode cX7_draw 10 = .ok (.ireturn, 1) := by decide +kernel
theorem dX7_draw_11 : decode cX7_draw 11 = .ok (.aload_n 0, 1) := by decide +kernel
theorem dX7_draw_12 : decode cX7_draw 12 = .ok (.getfield 1, 3) := by decide +kernel
theorem dX7_draw_15 : decode cX7_draw 15 = .ok (.ifCond .eq 13, 3) := by decide +kernel
theorem dX7_draw_18 : decode cX7_draw 18 = .ok (.aload_n 0, 1) := by decide +kernel
theorem dX7_draw_19 : decode cX7_draw 19 = .ok (.getfield 18, 3) := by decide +kernel
theorem dX7_draw_22 : decode cX7_draw 22 = .ok (.sipush 9999, 3) := by decide +kernel
theorem dX7_draw_25 : decode cX7_draw 25 = .ok (.if_icmp .ne 6, 3) := by decide +kernel
theorem dX7_draw_28 : decode cX7_draw 28 = .ok (.bipush (-3), 2) := by decide +kernel
theorem dX7_draw_30 : decode cX7_draw 30 = .ok (.ireturn, 1) := by decide +kernel
theorem dX7_draw_31 : decode cX7_draw 31 = .ok (.aload_n 0, 1) := by decide +kernel
theorem dX7_draw_32 : decode cX7_draw 32 = .ok (.getfield 43, 3) := by decide +kernel
theorem dX7_draw_35 : decode cX7_draw 35 = .ok (.aload_n 0, 1) := by decide +kernel
theorem dX7_draw_36 : decode cX7_draw 36 = .ok (.getfield 27, 3) := by decide +kernel
theorem dX7_draw_39 : decode cX7_draw 39 = .ok (.iaload, 1) := by decide +kernel
theorem dX7_draw_40 : decode cX7_draw 40 = .ok (.istore_n 2, 1) := by decide +kernel
theorem dX7_draw_41 : decode cX7_draw 41 = .ok (.iload_n 2, 1) := by decide +kernel
theorem dX7_draw_42 : decode cX7_draw 42 = .ok (.aload_n 0, 1) := by decide +kernel
theorem dX7_draw_43 : decode cX7_draw 43 = .ok (.iload_n 1, 1) := by decide +kernel
theorem dX7_draw_44 : decode cX7_draw 44 = .ok (.invokevirtual 336, 3) := by decide +kernel
theorem dX7_draw_47 : decode cX7_draw 47 = .ok (.ifCond .eq 8, 3) := by decide +kernel
theorem dX7_draw_50 : decode cX7_draw 50 = .ok (.bipush 10, 2) := by decide +kernel
theorem dX7_draw_52 : decode cX7_draw 52 = .ok (.goto 4, 3) := by decide +kernel
theorem dX7_draw_55 : decode cX7_draw 55 = .ok (.iconst 0, 1) := by decide +kernel
theorem dX7_draw_56 : decode cX7_draw 56 = .ok (.iadd, 1) := by decide +kernel
theorem dX7_draw_57 : decode cX7_draw 57 = .ok (.istore_n 2, 1) := by decide +kernel
theorem dX7_draw_58 : decode cX7_draw 58 = .ok (.aload_n 0, 1) := by decide +kernel
theorem dX7_draw_59 : decode cX7_draw 59 = .ok (.invokevirtual 339, 3) := by decide +kernel
theorem dX7_draw_62 : decode cX7_draw 62 = .ok (.ifCond .ne 5, 3) := by decide +kernel
theorem dX7_draw_65 : decode cX7_draw 65 = .ok (.iload_n 2, 1) := by decide +kernel
theorem dX7_draw_66 : decode cX7_draw 66 = .ok (.ireturn, 1) := by decide +kernel
theorem dX7_draw_67 : decode cX7_draw 67 = .ok (.aload_n 0, 1) := by decide +kernel
theorem dX7_draw_68 : decode cX7_draw 68 = .ok (.dup, 1) := by decide +kernel
theorem dX7_draw_69 : decode cX7_draw 69 = .ok (.getfield 18, 3) := by decide +kernel
theorem dX7_draw_72 : decode cX7_draw 72 = .ok (.iconst 1, 1) := by decide +kernel
theorem dX7_draw_73 : decode cX7_draw 73 = .ok (.iadd, 1) := by decide +kernel
theorem dX7_draw_74 : decode cX7_draw 74 = .ok (.putfield 18, 3) := by decide +kernel
theorem dX7_draw_77 : decode cX7_draw 77 = .ok (.aload_n 0, 1) := by decide +kernel
theorem dX7_draw_78 : decode cX7_draw 78 = .ok (.invokevirtual 226, 3) := by decide +kernel
theorem dX7_draw_81 : decode cX7_draw 81 = .ok (.iload_n 2, 1) := by decide +kernel
theorem dX7_draw_82 : decode cX7_draw 82 = .ok (.bipush 100, 2) := by decide +kernel
theorem dX7_draw_84 : decode cX7_draw 84 = .ok (.iadd, 1) := by decide +kernel
theorem dX7_draw_85 : decode cX7_draw 85 = .ok (.ireturn, 1) := by decide +kernel
theorem dX7_drawer_0 : decode cX7_drawer 0 = .ok (.aload_n 0, 1) := by decide +kernel
theorem dX7_drawer_1 : decode cX7_drawer 1 = .ok (.iload_n 1, 1) := by decide +kernel
theorem dX7_drawer_2 : decode cX7_drawer 2 = .ok (.iconst 0, 1) := by decide +kernel
theorem dX7_drawer_3 : decode cX7_drawer 3 = .ok (.bipush 6, 2) := by decide +kernel
theorem dX7_drawer_5 : decode cX7_drawer 5 = .ok (.invokevirtual 7, 3) := by decide +kernel
theorem dX7_drawer_8 : decode cX7_drawer 8 = .ok (.ifCond .ne 5, 3) := by decide +kernel
theorem dX7_drawer_11 : decode cX7_drawer 11 = .ok (.iconst (-1), 1) := by decide +kernel
theorem dX7_drawer_12 : decode cX7_drawer 12 = .ok (.ireturn, 1) := by decide +kernel
theorem dX7_drawer_13 : decode cX7_drawer 13 = .ok (.aload_n 0, 1) := by decide +kernel
theorem dX7_drawer_14 : decode cX7_drawer 14 = .ok (.iload_n 2, 1) := by decide +kernel
theorem dX7_drawer_15 : decode cX7_drawer 15 = .ok (.iconst 0, 1) := by decide +kernel
theorem dX7_drawer_16 : decode cX7_drawer 16 = .ok (.bipush 9, 2) := by decide +kernel
theorem dX7_drawer_18 : decode cX7_drawer 18 = .ok (.invokevirtual 7, 3) := by decide +kernel
theorem dX7_drawer_21 : decode cX7_drawer 21 = .ok (.ifCond .ne 6, 3) := by decide +kernel
theorem dX7_drawer_24 : decode cX7_drawer 24 = .ok (.bipush (-2), 2) := by decide +kernel
theorem dX7_drawer_26 : decode cX7_drawer 26 = .ok (.ireturn, 1) := by decide +kernel
theorem dX7_drawer_27 : decode cX7_drawer 27 = .ok (.aload_n 0, 1) := by decide +kernel
theorem dX7_drawer_28 : decode cX7_drawer 28 = .ok (.getfield 1, 3) := by decide +kernel
theorem dX7_drawer_31 : decode cX7_drawer 31 = .ok (.bipush 6, 2) := by decide +kernel
theorem dX7_drawer_33 : decode cX7_drawer 33 = .ok (.if_icmp .ne 6, 3) := by decide +kernel
theorem dX7_drawer_36 : decode cX7_drawer 36 = .ok (.bipush (-4), 2) := by decide +kernel
theorem dX7_drawer_38 : decode cX7_drawer 38 = .ok (.ireturn, 1) := by decide +kernel
theorem dX7_drawer_39 : decode cX7_drawer 39 = .ok (.aload_n 0, 1) := by decide +kernel
theorem dX7_drawer_40 : decode cX7_drawer 40 = .ok (.getfield 30, 3) := by decide +kernel
theorem dX7_drawer_43 : decode cX7_drawer 43 = .ok (.aload_n 0, 1) := by decide +kernel
theorem dX7_drawer_44 : decode cX7_drawer 44 = .ok (.getfield 1, 3) := by decide +kernel
theorem dX7_drawer_47 : decode cX7_drawer 47 = .ok (.iload_n 1, 1) := by decide +kernel
theorem dX7_drawer_48 : decode cX7_drawer 48 = .ok (.iastore, 1) := by decide +kernel
theorem dX7_drawer_49 : decode cX7_drawer 49 = .ok (.aload_n 0, 1) := by decide +kernel
theorem dX7_drawer_50 : decode cX7_drawer 50 = .ok (.getfield 34, 3) := by decide +kernel
theorem dX7_drawer_53 : decode cX7_drawer 53 = .ok (.aload_n 0, 1) := by decide +kernel
theorem dX7_drawer_54 : decode cX7_drawer 54 = .ok (.getfield 1, 3) := by decide +kernel
theorem dX7_drawer_57 : decode cX7_drawer 57 = .ok (.iload_n 2, 1) := by decide +kernel
theorem dX7_drawer_58 : decode cX7_drawer 58 = .ok (.iastore, 1) := by decide +kernel
theorem dX7_drawer_59 : decode cX7_drawer 59 = .ok (.aload_n 0, 1) := by decide +kernel
theorem dX7_drawer_60 : decode cX7_drawer 60 = .ok (.getfield 37, 3) := by decide +kernel
theorem dX7_drawer_63 : decode cX7_drawer 63 = .ok (.aload_n 0, 1) := by decide +kernel
theorem dX7_drawer_64 : decode cX7_drawer 64 = .ok (.getfield 1, 3) := by decide +kernel
theorem dX7_drawer_67 : decode cX7_drawer 67 = .ok (.iconst 0, 1) := by decide +kernel
theorem dX7_drawer_68 : decode cX7_drawer 68 = .ok (.iastore, 1) := by decide +kernel
theorem dX7_drawer_69 : decode cX7_drawer 69 = .ok (.aload_n 0, 1) := by decide +kernel
theorem dX7_drawer_70 : decode cX7_drawer 70 = .ok (.getfield 43, 3) := by decide +kernel
theorem dX7_drawer_73 : decode cX7_drawer 73 = .ok (.aload_n 0, 1) := by decide +kernel
theorem dX7_drawer_74 : decode cX7_drawer 74 = .ok (.getfield 1, 3) := by decide +kernel
theorem dX7_drawer_77 : decode cX7_drawer 77 = .ok (.aload_n 0, 1) := by decide +kernel
theorem dX7_drawer_78 : decode cX7_drawer 78 = .ok (.getfield 1, 3) := by decide +kernel
theorem dX7_drawer_81 : decode cX7_drawer 81 = .ok (.iastore, 1) := by decide +kernel
theorem dX7_drawer_82 : decode cX7_drawer 82 = .ok (.iconst 0, 1) := by decide +kernel
theorem dX7_drawer_83 : decode cX7_drawer 83 = .ok (.istore_n 3, 1) := by decide +kernel
theorem dX7_drawer_84 : decode cX7_drawer 84 = .ok (.iload_n 3, 1) := by decide +kernel
theorem dX7_drawer_85 : decode cX7_drawer 85 = .ok (.iconst 4, 1) := by decide +kernel
theorem dX7_drawer_86 : decode cX7_drawer 86 = .ok (.if_icmp .ge 23, 3) := by decide +kernel
theorem dX7_drawer_89 : decode cX7_drawer 89 = .ok (.aload_n 0, 1) := by decide +kernel
theorem dX7_drawer_90 : decode cX7_drawer 90 = .ok (.getfield 40, 3) := by decide +kernel
theorem dX7_drawer_93 : decode cX7_drawer 93 = .ok (.iconst 4, 1) := by decide +kernel
theorem dX7_drawer_94 : decode cX7_drawer 94 = .ok (.aload_n 0, 1) := by decide +kernel
theorem dX7_drawer_95 : decode cX7_drawer 95 = .ok (.getfield 1, 3) := by decide +kernel
theorem dX7_drawer_98 : decode cX7_drawer 98 = .ok (.imul, 1) := by decide +kernel
theorem dX7_drawer_99 : decode cX7_drawer 99 = .ok (.iload_n 3, 1) := by decide +kernel
theorem dX7_drawer_100 : decode cX7_drawer 100 = .ok (.iadd, 1) := by decide +kernel
theorem dX7_drawer_101 : decode cX7_drawer 101 = .ok (.iconst 5, 1) := by decide +kernel
theorem dX7_drawer_102 : decode cX7_drawer 102 = .ok (.iastore, 1) := by decide +kernel
theorem dX7_drawer_103 : decode cX7_drawer 103 = .ok (.iinc 3 1, 3) := by decide +kernel
theorem dX7_drawer_106 : decode cX7_drawer 106 = .ok (.goto (-22), 3) := by decide +kernel
theorem dX7_drawer_109 : decode cX7_drawer 109 = .ok (.aload_n 0, 1) := by decide +kernel
theorem dX7_drawer_110 : decode cX7_drawer 110 = .ok (.dup, 1) := by decide +kernel
theorem dX7_drawer_111 : decode cX7_drawer 111 = .ok (.getfield 1, 3) := by decide +kernel
theorem dX7_drawer_114 : decode cX7_drawer 114 = .ok (.iconst 1, 1) := by decide +kernel
theorem dX7_drawer_115 : decode cX7_drawer 115 = .ok (.iadd, 1) := by decide +kernel
theorem dX7_drawer_116 : decode cX7_drawer 116 = .ok (.putfield 1, 3) := by decide +kernel
theorem dX7_drawer_119 : decode cX7_drawer 119 = .ok (.aload_n 0, 1) := by decide +kernel
theorem dX7_drawer_120 : decode cX7_drawer 120 = .ok (.invokevirtual 226, 3) := by decide +kernel
theorem dX7_drawer_123 : decode cX7_drawer 123 = .ok (.aload_n 0, 1) := by decide +kernel
theorem dX7_drawer_124 : decode cX7_drawer 124 = .ok (.getfield 1, 3) := by decide +kernel
theorem dX7_drawer_127 : decode cX7_drawer 127 = .ok (.iconst 1, 1) := by decide +kernel
theorem dX7_drawer_128 : decode cX7_drawer 128 = .ok (.isub, 1) := by decide +kernel
theorem dX7_drawer_129 : decode cX7_drawer 129 = .ok (.ireturn, 1) := by decide +kernel
theorem dX7_drawerDraws_0 : decode cX7_drawerDraws 0 = .ok (.aload_n 0, 1) := by decide +kernel
theorem dX7_drawerDraws_1 : decode cX7_drawerDraws 1 = .ok (.bipush 10, 2) := by decide +kernel
theorem dX7_drawerDraws_3 : decode cX7_drawerDraws 3 = .ok (.invokevirtual 387, 3) := by decide +kernel
theorem dX7_drawerDraws_6 : decode cX7_drawerDraws 6 = .ok (.iload_n 2, 1) := by decide +kernel
theorem dX7_drawerDraws_7 : decode cX7_drawerDraws 7 = .ok (.iload_n 1, 1) := by decide +kernel
theorem dX7_drawerDraws_8 : decode cX7_drawerDraws 8 = .ok (.iadd, 1) := by decide +kernel
theorem dX7_drawerDraws_9 : decode cX7_drawerDraws 9 = .ok (.ireturn, 1) := by decide +kernel
theorem dX7_drawerShows_0 : decode cX7_drawerShows 0 = .ok (.aload_n 0, 1) := by decide +kernel
theorem dX7_drawerShows_1 : decode cX7_drawerShows 1 = .ok (.bipush 11, 2) := by decide +kernel
theorem dX7_drawerShows_3 : decode cX7_drawerShows 3 = .ok (.invokevirtual 387, 3) := by decide +kernel
theorem dX7_drawerShows_6 : decode cX7_drawerShows 6 = .ok (.aload_n 0, 1) := by decide +kernel
theorem dX7_drawerShows_7 : decode cX7_drawerShows 7 = .ok (.iload_n 1, 1) := by decide +kernel
theorem dX7_drawerShows_8 : decode cX7_drawerShows 8 = .ok (.iload_n 2, 1) := by decide +kernel
theorem dX7_drawerShows_9 : decode cX7_drawerShows 9 = .ok (.invokevirtual 393, 3) := by decide +kernel
theorem dX7_drawerShows_12 : decode cX7_drawerShows 12 = .ok (.aload_n 0, 1) := by decide +kernel
theorem dX7_drawerShows_13 : decode cX7_drawerShows 13 = .ok (.getfield 34, 3) := by decide +kernel
theorem dX7_drawerShows_16 : decode cX7_drawerShows 16 = .ok (.iload_n 1, 1) := by decide +kernel
theorem dX7_drawerShows_17 : decode cX7_drawerShows 17 = .ok (.iaload, 1) := by decide +kernel
theorem dX7_drawerShows_18 : decode cX7_drawerShows 18 = .ok (.isub, 1) := by decide +kernel
theorem dX7_drawerShows_19 : decode cX7_drawerShows 19 = .ok (.ireturn, 1) := by decide +kernel
theorem dX7_drawerTells_0 : decode cX7_drawerTells 0 = .ok (.aload_n 0, 1) := by decide +kernel
theorem dX7_drawerTells_1 : decode cX7_drawerTells 1 = .ok (.bipush 12, 2) := by decide +kernel
theorem dX7_drawerTells_3 : decode cX7_drawerTells 3 = .ok (.invokevirtual 387, 3) := by decide +kernel
theorem dX7_drawerTells_6 : decode cX7_drawerTells 6 = .ok (.aload_n 0, 1) := by decide +kernel
theorem dX7_drawerTells_7 : decode cX7_drawerTells 7 = .ok (.iload_n 1, 1) := by decide +kernel
theorem dX7_drawerTells_8 : decode cX7_drawerTells 8 = .ok (.iload_n 2, 1) := by decide +kernel
theorem dX7_drawerTells_9 : decode cX7_drawerTells 9 = .ok (.invokevirtual 402, 3) := by decide +kernel
theorem dX7_drawerTells_12 : decode cX7_drawerTells 12 = .ok (.iconst 2, 1) := by decide +kernel
theorem dX7_drawerTells_13 : decode cX7_drawerTells 13 = .ok (.imul, 1) := by decide +kernel
theorem dX7_drawerTells_14 : decode cX7_drawerTells 14 = .ok (.ireturn, 1) := by decide +kernel
theorem dX7_drawsAct_0 : decode cX7_drawsAct 0 = .ok (.aload_n 0, 1) := by decide +kernel
theorem dX7_drawsAct_1 : decode cX7_drawsAct 1 = .ok (.getfield 30, 3) := by decide +kernel
theorem dX7_drawsAct_4 : decode cX7_drawsAct 4 = .ok (.iload_n 1, 1) := by decide +kernel
theorem dX7_drawsAct_5 : decode cX7_drawsAct 5 = .ok (.iaload, 1) := by decide +kernel
theorem dX7_drawsAct_6 : decode cX7_drawsAct 6 = .ok (.tableswitch 83 2 6 #[34, 83, 49, 34, 63], 34) := by decide +kernel
theorem dX7_drawsAct_40 : decode cX7_drawsAct 40 = .ok (.aload_n 0, 1) := by decide +kernel
theorem dX7_drawsAct_41 : decode cX7_drawsAct 41 = .ok (.bipush 30, 2) := by decide +kernel
theorem dX7_drawsAct_43 : decode cX7_drawsAct 43 = .ok (.invokevirtual 387, 3) := by decide +kernel
theorem dX7_drawsAct_46 : decode cX7_drawsAct 46 = .ok (.aload_n 0, 1) := by decide +kernel
theorem dX7_drawsAct_47 : decode cX7_drawsAct 47 = .ok (.iload_n 1, 1) := by decide +kernel
theorem dX7_drawsAct_48 : decode cX7_drawsAct 48 = .ok (.iload_n 2, 1) := by decide +kernel
theorem dX7_drawsAct_49 : decode cX7_drawsAct 49 = .ok (.iconst 3, 1) := by decide +kernel
theorem dX7_drawsAct_50 : decode cX7_drawsAct 50 = .ok (.imul, 1) := by decide +kernel
theorem dX7_drawsAct_51 : decode cX7_drawsAct 51 = .ok (.invokevirtual 390, 3) := by decide +kernel
theorem dX7_drawsAct_54 : decode cX7_drawsAct 54 = .ok (.ireturn, 1) := by decide +kernel
theorem dX7_drawsAct_55 : decode cX7_drawsAct 55 = .ok (.aload_n 0, 1) := by decide +kernel
theorem dX7_drawsAct_56 : decode cX7_drawsAct 56 = .ok (.bipush 50, 2) := by decide +kernel
theorem dX7_drawsAct_58 : decode cX7_drawsAct 58 = .ok (.invokevirtual 387, 3) := by decide +kernel
theorem dX7_drawsAct_61 : decode cX7_drawsAct 61 = .ok (.aload_n 0, 1) := by decide +kernel
theorem dX7_drawsAct_62 : decode cX7_drawsAct 62 = .ok (.iload_n 1, 1) := by decide +kernel
theorem dX7_drawsAct_63 : decode cX7_drawsAct 63 = .ok (.iload_n 2, 1) := by decide +kernel
theorem dX7_drawsAct_64 : decode cX7_drawsAct 64 = .ok (.invokevirtual 390, 3) := by decide +kernel
theorem dX7_drawsAct_67 : decode cX7_drawsAct 67 = .ok (.ineg, 1) := by decide +kernel
theorem dX7_drawsAct_68 : decode cX7_drawsAct 68 = .ok (.ireturn, 1) := by decide +kernel
theorem dX7_drawsAct_69 : decode cX7_drawsAct 69 = .ok (.aload_n 0, 1) := by decide +kernel
theorem dX7_drawsAct_70 : decode cX7_drawsAct 70 = .ok (.bipush 71, 2) := by decide +kernel
theorem dX7_drawsAct_72 : decode cX7_drawsAct 72 = .ok (.invokevirtual 387, 3) := by decide +kernel
theorem dX7_drawsAct_75 : decode cX7_drawsAct 75 = .ok (.aload_n 0, 1) := by decide +kernel
theorem dX7_drawsAct_76 : decode cX7_drawsAct 76 = .ok (.iload_n 1, 1) := by decide +kernel
theorem dX7_drawsAct_77 : decode cX7_drawsAct 77 = .ok (.iload_n 2, 1) := by decide +kernel
theorem dX7_drawsAct_78 : decode cX7_drawsAct 78 = .ok (.invokevirtual 390, 3) := by decide +kernel
theorem dX7_drawsAct_81 : decode cX7_drawsAct 81 = .ok (.aload_n 0, 1) := by decide +kernel
theorem dX7_drawsAct_82 : decode cX7_drawsAct 82 = .ok (.getfield 34, 3) := by decide +kernel
theorem dX7_drawsAct_85 : decode cX7_drawsAct 85 = .ok (.iload_n 1, 1) := by decide +kernel
theorem dX7_drawsAct_86 : decode cX7_drawsAct 86 = .ok (.iaload, 1) := by decide +kernel
theorem dX7_drawsAct_87 : decode cX7_drawsAct 87 = .ok (.ixor, 1) := by decide +kernel
theorem dX7_drawsAct_88 : decode cX7_drawsAct 88 = .ok (.ireturn, 1) := by decide +kernel
theorem dX7_drawsAct_89 : decode cX7_drawsAct 89 = .ok (.aload_n 0, 1) := by decide +kernel
theorem dX7_drawsAct_90 : decode cX7_drawsAct 90 = .ok (.iload_n 1, 1) := by decide +kernel
theorem dX7_drawsAct_91 : decode cX7_drawsAct 91 = .ok (.iload_n 2, 1) := by decide +kernel
theorem dX7_drawsAct_92 : decode cX7_drawsAct 92 = .ok (.invokevirtual 390, 3) := by decide +kernel
theorem dX7_drawsAct_95 : decode cX7_drawsAct 95 = .ok (.ireturn, 1) := by decide +kernel
theorem dX7_emits_0 : decode cX7_emits 0 = .ok (.aload_n 0, 1) := by decide +kernel
theorem dX7_emits_1 : decode cX7_emits 1 = .ok (.getfield 79, 3) := by decide +kernel
theorem dX7_emits_4 : decode cX7_emits 4 = .ok (.aload_n 0, 1) := by decide +kernel
theorem dX7_emits_5 : decode cX7_emits 5 = .ok (.getfield 85, 3) := by decide +kernel
theorem dX7_emits_8 : decode cX7_emits 8 = .ok (.iload_n 1, 1) := by decide +kernel
theorem dX7_emits_9 : decode cX7_emits 9 = .ok (.iastore, 1) := by decide +kernel
theorem dX7_emits_10 : decode cX7_emits 10 = .ok (.aload_n 0, 1) := by decide +kernel
theorem dX7_emits_11 : decode cX7_emits 11 = .ok (.dup, 1) := by decide +kernel
theorem dX7_emits_12 : decode cX7_emits 12 = .ok (.getfield 85, 3) := by decide +kernel
theorem dX7_emits_15 : decode cX7_emits 15 = .ok (.iconst 1, 1) := by decide +kernel
theorem dX7_emits_16 : decode cX7_emits 16 = .ok (.iadd, 1) := by decide +kernel
theorem dX7_emits_17 : decode cX7_emits 17 = .ok (.putfield 85, 3) := by decide +kernel
theorem dX7_emits_20 : decode cX7_emits 20 = .ok (.return_, 1) := by decide +kernel
theorem dX7_enough_0 : decode cX7_enough 0 = .ok (.aload_n 0, 1) := by decide +kernel
theorem dX7_enough_1 : decode cX7_enough 1 = .ok (.iload_n 1, 1) := by decide +kernel
theorem dX7_enough_2 : decode cX7_enough 2 = .ok (.invokevirtual 229, 3) := by decide +kernel
theorem dX7_enough_5 : decode cX7_enough 5 = .ok (.ifCond .ne 5, 3) := by decide +kernel
theorem dX7_enough_8 : decode cX7_enough 8 = .ok (.iconst (-1), 1) := by decide +kernel
theorem dX7_enough_9 : decode cX7_enough 9 = .ok (.ireturn, 1) := by decide +kernel
theorem dX7_enough_10 : decode cX7_enough 10 = .ok (.aload_n 0, 1) := by decide +kernel
theorem dX7_enough_11 : decode cX7_enough 11 = .ok (.iload_n 2, 1) := by decide +kernel
theorem dX7_enough_12 : decode cX7_enough 12 = .ok (.iconst 0, 1) := by decide +kernel
theorem dX7_enough_13 : decode cX7_enough 13 = .ok (.ldc_w 321, 3) := by decide +kernel
theorem dX7_enough_16 : decode cX7_enough 16 = .ok (.invokevirtual 7, 3) := by decide +kernel
theorem dX7_enough_19 : decode cX7_enough 19 = .ok (.ifCond .ne 6, 3) := by decide +kernel
theorem dX7_enough_22 : decode cX7_enough 22 = .ok (.bipush (-2), 2) := by decide +kernel
theorem dX7_enough_24 : decode cX7_enough 24 = .ok (.ireturn, 1) := by decide +kernel
theorem dX7_enough_25 : decode cX7_enough 25 = .ok (.bipush (-5), 2) := by decide +kernel
theorem dX7_enough_27 : decode cX7_enough 27 = .ok (.istore_n 3, 1) := by decide +kernel
theorem dX7_enough_28 : decode cX7_enough 28 = .ok (.aload_n 0, 1) := by decide +kernel
theorem dX7_enough_29 : decode cX7_enough 29 = .ok (.iconst 0, 1) := by decide +kernel
theorem dX7_enough_30 : decode cX7_enough 30 = .ok (.putfield 119, 3) := by decide +kernel
theorem dX7_enough_33 : decode cX7_enough 33 = .ok (.aload_n 0, 1) := by decide +kernel
theorem dX7_enough_34 : decode cX7_enough 34 = .ok (.getfield 119, 3) := by decide +kernel
theorem dX7_enough_37 : decode cX7_enough 37 = .ok (.bipush 21, 2) := by decide +kernel
theorem dX7_enough_39 : decode cX7_enough 39 = .ok (.if_icmp .ge 44, 3) := by decide +kernel
theorem dX7_enough_42 : decode cX7_enough 42 = .ok (.iload_n 3, 1) := by decide +kernel
theorem dX7_enough_43 : decode cX7_enough 43 = .ok (.ifCond .ge 40, 3) := by decide +kernel
theorem dX7_enough_46 : decode cX7_enough 46 = .ok (.aload_n 0, 1) := by decide +kernel
theorem dX7_enough_47 : decode cX7_enough 47 = .ok (.invokevirtual 342, 3) := by decide +kernel
theorem dX7_enough_50 : decode cX7_enough 50 = .ok (.aload_n 0, 1) := by decide +kernel
theorem dX7_enough_51 : decode cX7_enough 51 = .ok (.getfield 110, 3) := by decide +kernel
theorem dX7_enough_54 : decode cX7_enough 54 = .ok (.iload_n 1, 1) := by decide +kernel
theorem dX7_enough_55 : decode cX7_enough 55 = .ok (.iaload, 1) := by decide +kernel
theorem dX7_enough_56 : decode cX7_enough 56 = .ok (.iload_n 2, 1) := by decide +kernel
theorem dX7_enough_57 : decode cX7_enough 57 = .ok (.if_icmp .gt 10, 3) := by decide +kernel
theorem dX7_enough_60 : decode cX7_enough 60 = .ok (.aload_n 0, 1) := by decide +kernel
theorem dX7_enough_61 : decode cX7_enough 61 = .ok (.getfield 119, 3) := by decide +kernel
theorem dX7_enough_64 : decode cX7_enough 64 = .ok (.goto 5, 3) := by decide +kernel
theorem dX7_enough_67 : decode cX7_enough 67 = .ok (.bipush (-5), 2) := by decide +kernel
theorem dX7_enough_69 : decode cX7_enough 69 = .ok (.istore_n 3, 1) := by decide +kernel
theorem dX7_enough_70 : decode cX7_enough 70 = .ok (.aload_n 0, 1) := by decide +kernel
theorem dX7_enough_71 : decode cX7_enough 71 = .ok (.dup, 1) := by decide +kernel
theorem dX7_enough_72 : decode cX7_enough 72 = .ok (.getfield 119, 3) := by decide +kernel
theorem dX7_enough_75 : decode cX7_enough 75 = .ok (.iconst 1, 1) := by decide +kernel
theorem dX7_enough_76 : decode cX7_enough 76 = .ok (.iadd, 1) := by decide +kernel
theorem dX7_enough_77 : decode cX7_enough 77 = .ok (.putfield 119, 3) := by decide +kernel
theorem dX7_enough_80 : decode cX7_enough 80 = .ok (.goto (-47), 3) := by decide +kernel
theorem dX7_enough_83 : decode cX7_enough 83 = .ok (.aload_n 0, 1) := by decide +kernel
theorem dX7_enough_84 : decode cX7_enough 84 = .ok (.iconst 0, 1) := by decide +kernel
theorem dX7_enough_85 : decode cX7_enough 85 = .ok (.putfield 119, 3) := by decide +kernel
theorem dX7_enough_88 : decode cX7_enough 88 = .ok (.iload_n 3, 1) := by decide +kernel
theorem dX7_enough_89 : decode cX7_enough 89 = .ok (.ireturn, 1) := by decide +kernel
theorem dX7_even_0 : decode cX7_even 0 = .ok (.aload_n 0, 1) := by decide +kernel
theorem dX7_even_1 : decode cX7_even 1 = .ok (.getfield 1, 3) := by decide +kernel
theorem dX7_even_4 : decode cX7_even 4 = .ok (.ifCond .ne 8, 3) := by decide +kernel
theorem dX7_even_7 : decode cX7_even 7 = .ok (.bipush (-5), 2) := by decide +kernel
theorem dX7_even_9 : decode cX7_even 9 = .ok (.goto 7, 3) := by decide +kernel
theorem dX7_even_12 : decode cX7_even 12 = .ok (.aload_n 0, 1) := by decide +kernel
theorem dX7_even_13 : decode cX7_even 13 = .ok (.invokevirtual 345, 3) := by decide +kernel
theorem dX7_even_16 : decode cX7_even 16 = .ok (.ireturn, 1) := by decide +kernel
theorem dX7_evenNow_0 : decode cX7_evenNow 0 = .ok (.aload_n 0, 1) := by decide +kernel
theorem dX7_evenNow_1 : decode cX7_evenNow 1 = .ok (.invokevirtual 342, 3) := by decide +kernel
theorem dX7_evenNow_4 : decode cX7_evenNow 4 = .ok (.ldc_w 321, 3) := by decide +kernel
theorem dX7_evenNow_7 : decode cX7_evenNow 7 = .ok (.istore_n 1, 1) := by decide +kernel
theorem dX7_evenNow_8 : decode cX7_evenNow 8 = .ok (.iconst 0, 1) := by decide +kernel
theorem dX7_evenNow_9 : decode cX7_evenNow 9 = .ok (.istore_n 2, 1) := by decide +kernel
theorem dX7_evenNow_10 : decode cX7_evenNow 10 = .ok (.iconst 0, 1) := by decide +kernel
theorem dX7_evenNow_11 : decode cX7_evenNow 11 = .ok (.istore_n 3, 1) := by decide +kernel
theorem dX7_evenNow_12 : decode cX7_evenNow 12 = .ok (.iload_n 3, 1) := by decide +kernel
theorem dX7_evenNow_13 : decode cX7_evenNow 13 = .ok (.aload_n 0, 1) := by decide +kernel
theorem dX7_evenNow_14 : decode cX7_evenNow 14 = .ok (.getfield 1, 3) := by decide +kernel
theorem dX7_evenNow_17 : decode cX7_evenNow 17 = .ok (.if_icmp .ge 51, 3) := by decide +kernel
theorem dX7_evenNow_20 : decode cX7_evenNow 20 = .ok (.aload_n 0, 1) := by decide +kernel
theorem dX7_evenNow_21 : decode cX7_evenNow 21 = .ok (.getfield 110, 3) := by decide +kernel
theorem dX7_evenNow_24 : decode cX7_evenNow 24 = .ok (.iload_n 3, 1) := by decide +kernel
theorem dX7_evenNow_25 : decode cX7_evenNow 25 = .ok (.iaload, 1) := by decide +kernel
theorem dX7_evenNow_26 : decode cX7_evenNow 26 = .ok (.iload_n 1, 1) := by decide +kernel
theorem dX7_evenNow_27 : decode cX7_evenNow 27 = .ok (.if_icmp .ge 12, 3) := by decide +kernel
theorem dX7_evenNow_30 : decode cX7_evenNow 30 = .ok (.aload_n 0, 1) := by decide +kernel
theorem dX7_evenNow_31 : decode cX7_evenNow 31 = .ok (.getfield 110, 3) := by decide +kernel
theorem dX7_evenNow_34 : decode cX7_evenNow 34 = .ok (.iload_n 3, 1) := by decide +kernel
theorem dX7_evenNow_35 : decode cX7_evenNow 35 = .ok (.iaload, 1) := by decide +kernel
theorem dX7_evenNow_36 : decode cX7_evenNow 36 = .ok (.goto 4, 3) := by decide +kernel
theorem dX7_evenNow_39 : decode cX7_evenNow 39 = .ok (.iload_n 1, 1) := by decide +kernel
theorem dX7_evenNow_40 : decode cX7_evenNow 40 = .ok (.istore_n 1, 1) := by decide +kernel
theorem dX7_evenNow_41 : decode cX7_evenNow 41 = .ok (.aload_n 0, 1) := by decide +kernel
theorem dX7_evenNow_42 : decode cX7_evenNow 42 = .ok (.getfield 110, 3) := by decide +kernel
theorem dX7_evenNow_45 : decode cX7_evenNow 45 = .ok (.iload_n 3, 1) := by decide +kernel
theorem dX7_evenNow_46 : decode cX7_evenNow 46 = .ok (.iaload, 1) := by decide +kernel
theorem dX7_evenNow_47 : decode cX7_evenNow 47 = .ok (.iload_n 2, 1) := by decide +kernel
theorem dX7_evenNow_48 : decode cX7_evenNow 48 = .ok (.if_icmp .le 12, 3) := by decide +kernel
theorem dX7_evenNow_51 : decode cX7_evenNow 51 = .ok (.aload_n 0, 1) := by decide +kernel
theorem dX7_evenNow_52 : decode cX7_evenNow 52 = .ok (.getfield 110, 3) := by decide +kernel
theorem dX7_evenNow_55 : decode cX7_evenNow 55 = .ok (.iload_n 3, 1) := by decide +kernel
theorem dX7_evenNow_56 : decode cX7_evenNow 56 = .ok (.iaload, 1) := by decide +kernel
theorem dX7_evenNow_57 : decode cX7_evenNow 57 = .ok (.goto 4, 3) := by decide +kernel
theorem dX7_evenNow_60 : decode cX7_evenNow 60 = .ok (.iload_n 2, 1) := by decide +kernel
theorem dX7_evenNow_61 : decode cX7_evenNow 61 = .ok (.istore_n 2, 1) := by decide +kernel
theorem dX7_evenNow_62 : decode cX7_evenNow 62 = .ok (.iinc 3 1, 3) := by decide +kernel
theorem dX7_evenNow_65 : decode cX7_evenNow 65 = .ok (.goto (-53), 3) := by decide +kernel
theorem dX7_evenNow_68 : decode cX7_evenNow 68 = .ok (.iload_n 2, 1) := by decide +kernel
theorem dX7_evenNow_69 : decode cX7_evenNow 69 = .ok (.iload_n 1, 1) := by decide +kernel
theorem dX7_evenNow_70 : decode cX7_evenNow 70 = .ok (.isub, 1) := by decide +kernel
theorem dX7_evenNow_71 : decode cX7_evenNow 71 = .ok (.ireturn, 1) := by decide +kernel
theorem dX7_factOf_0 : decode cX7_factOf 0 = .ok (.iload_n 1, 1) := by decide +kernel
theorem dX7_factOf_1 : decode cX7_factOf 1 = .ok (.tableswitch 64 0 4 #[35, 37, 44, 54, 59], 35) := by decide +kernel
theorem dX7_factOf_36 : decode cX7_factOf 36 = .ok (.iload_n 2, 1) := by decide +kernel
theorem dX7_factOf_37 : decode cX7_factOf 37 = .ok (.ireturn, 1) := by decide +kernel
theorem dX7_factOf_38 : decode cX7_factOf 38 = .ok (.aload_n 0, 1) := by decide +kernel
theorem dX7_factOf_39 : decode cX7_factOf 39 = .ok (.getfield 30, 3) := by decide +kernel
theorem dX7_factOf_42 : decode cX7_factOf 42 = .ok (.iload_n 2, 1) := by decide +kernel
theorem dX7_factOf_43 : decode cX7_factOf 43 = .ok (.iaload, 1) := by decide +kernel
theorem dX7_factOf_44 : decode cX7_factOf 44 = .ok (.ireturn, 1) := by decide +kernel
theorem dX7_factOf_45 : decode cX7_factOf 45 = .ok (.aload_n 0, 1) := by decide +kernel
theorem dX7_factOf_46 : decode cX7_factOf 46 = .ok (.getfield 37, 3) := by decide +kernel
theorem dX7_factOf_49 : decode cX7_factOf 49 = .ok (.iload_n 2, 1) := by decide +kernel
theorem dX7_factOf_50 : decode cX7_factOf 50 = .ok (.iaload, 1) := by decide +kernel
theorem dX7_factOf_51 : decode cX7_factOf 51 = .ok (.bipush 10, 2) := by decide +kernel
theorem dX7_factOf_53 : decode cX7_factOf 53 = .ok (.irem, 1) := by decide +kernel
theorem dX7_factOf_54 : decode cX7_factOf 54 = .ok (.ireturn, 1) := by decide +kernel
theorem dX7_factOf_55 : decode cX7_factOf 55 = .ok (.aload_n 0, 1) := by decide +kernel
theorem dX7_factOf_56 : decode cX7_factOf 56 = .ok (.getfield 101, 3) := by decide +kernel
theorem dX7_factOf_59 : decode cX7_factOf 59 = .ok (.ireturn, 1) := by decide +kernel
theorem dX7_factOf_60 : decode cX7_factOf 60 = .ok (.aload_n 0, 1) := by decide +kernel
theorem dX7_factOf_61 : decode cX7_factOf 61 = .ok (.getfield 104, 3) := by decide +kernel
theorem dX7_factOf_64 : decode cX7_factOf 64 = .ok (.ireturn, 1) := by decide +kernel
theorem dX7_factOf_65 : decode cX7_factOf 65 = .ok (.aload_n 0, 1) := by decide +kernel
theorem dX7_factOf_66 : decode cX7_factOf 66 = .ok (.getfield 107, 3) := by decide +kernel
theorem dX7_factOf_69 : decode cX7_factOf 69 = .ok (.ireturn, 1) := by decide +kernel
theorem dX7_feed_0 : decode cX7_feed 0 = .ok (.aload_n 0, 1) := by decide +kernel
theorem dX7_feed_1 : decode cX7_feed 1 = .ok (.iload_n 1, 1) := by decide +kernel
theorem dX7_feed_2 : decode cX7_feed 2 = .ok (.iconst 0, 1) := by decide +kernel
theorem dX7_feed_3 : decode cX7_feed 3 = .ok (.bipush 127, 2) := by decide +kernel
theorem dX7_feed_5 : decode cX7_feed 5 = .ok (.invokevirtual 7, 3) := by decide +kernel
theorem dX7_feed_8 : decode cX7_feed 8 = .ok (.ifCond .ne 6, 3) := by decide +kernel
theorem dX7_feed_11 : decode cX7_feed 11 = .ok (.bipush (-2), 2) := by decide +kernel
theorem dX7_feed_13 : decode cX7_feed 13 = .ok (.ireturn, 1) := by decide +kernel
theorem dX7_feed_14 : decode cX7_feed 14 = .ok (.aload_n 0, 1) := by decide +kernel
theorem dX7_feed_15 : decode cX7_feed 15 = .ok (.getfield 52, 3) := by decide +kernel
theorem dX7_feed_18 : decode cX7_feed 18 = .ok (.bipush 100, 2) := by decide +kernel
theorem dX7_feed_20 : decode cX7_feed 20 = .ok (.if_icmp .ne 6, 3) := by decide +kernel
theorem dX7_feed_23 : decode cX7_feed 23 = .ok (.bipush (-4), 2) := by decide +kernel
theorem dX7_feed_25 : decode cX7_feed 25 = .ok (.ireturn, 1) := by decide +kernel
theorem dX7_feed_26 : decode cX7_feed 26 = .ok (.aload_n 0, 1) := by decide +kernel
theorem dX7_feed_27 : decode cX7_feed 27 = .ok (.getfield 61, 3) := by decide +kernel
theorem dX7_feed_30 : decode cX7_feed 30 = .ok (.aload_n 0, 1) := by decide +kernel
theorem dX7_feed_31 : decode cX7_feed 31 = .ok (.getfield 52, 3) := by decide +kernel
theorem dX7_feed_34 : decode cX7_feed 34 = .ok (.iload_n 1, 1) := by decide +kernel
theorem dX7_feed_35 : decode cX7_feed 35 = .ok (.iastore, 1) := by decide +kernel
theorem dX7_feed_36 : decode cX7_feed 36 = .ok (.aload_n 0, 1) := by decide +kernel
theorem dX7_feed_37 : decode cX7_feed 37 = .ok (.dup, 1) := by decide +kernel
theorem dX7_feed_38 : decode cX7_feed 38 = .ok (.getfield 52, 3) := by decide +kernel
theorem dX7_feed_41 : decode cX7_feed 41 = .ok (.iconst 1, 1) := by decide +kernel
theorem dX7_feed_42 : decode cX7_feed 42 = .ok (.iadd, 1) := by decide +kernel
theorem dX7_feed_43 : decode cX7_feed 43 = .ok (.putfield 52, 3) := by decide +kernel
theorem dX7_feed_46 : decode cX7_feed 46 = .ok (.aload_n 0, 1) := by decide +kernel
theorem dX7_feed_47 : decode cX7_feed 47 = .ok (.getfield 52, 3) := by decide +kernel
theorem dX7_feed_50 : decode cX7_feed 50 = .ok (.ireturn, 1) := by decide +kernel
theorem dX7_fits_0 : decode cX7_fits 0 = .ok (.iconst 0, 1) := by decide +kernel
theorem dX7_fits_1 : decode cX7_fits 1 = .ok (.istore_n 1, 1) := by decide +kernel
theorem dX7_fits_2 : decode cX7_fits 2 = .ok (.iconst 1, 1) := by decide +kernel
theorem dX7_fits_3 : decode cX7_fits 3 = .ok (.istore_n 2, 1) := by decide +kernel
theorem dX7_fits_4 : decode cX7_fits 4 = .ok (.iload_n 2, 1) := by decide +kernel
theorem dX7_fits_5 : decode cX7_fits 5 = .ok (.iconst 4, 1) := by decide +kernel
theorem dX7_fits_6 : decode cX7_fits 6 = .ok (.if_icmp .ge 27, 3) := by decide +kernel
theorem dX7_fits_9 : decode cX7_fits 9 = .ok (.iload_n 1, 1) := by decide +kernel
theorem dX7_fits_10 : decode cX7_fits 10 = .ok (.aload_n 0, 1) := by decide +kernel
theorem dX7_fits_11 : decode cX7_fits 11 = .ok (.iload_n 2, 1) := by decide +kernel
theorem dX7_fits_12 : decode cX7_fits 12 = .ok (.invokevirtual 381, 3) := by decide +kernel
theorem dX7_fits_15 : decode cX7_fits 15 = .ok (.ifCond .eq 9, 3) := by decide +kernel
theorem dX7_fits_18 : decode cX7_fits 18 = .ok (.iconst 1, 1) := by decide +kernel
theorem dX7_fits_19 : decode cX7_fits 19 = .ok (.iload_n 2, 1) := by decide +kernel
theorem dX7_fits_20 : decode cX7_fits 20 = .ok (.ishl, 1) := by decide +kernel
theorem dX7_fits_21 : decode cX7_fits 21 = .ok (.goto 4, 3) := by decide +kernel
theorem dX7_fits_24 : decode cX7_fits 24 = .ok (.iconst 0, 1) := by decide +kernel
theorem dX7_fits_25 : decode cX7_fits 25 = .ok (.ior, 1) := by decide +kernel
theorem dX7_fits_26 : decode cX7_fits 26 = .ok (.istore_n 1, 1) := by decide +kernel
theorem dX7_fits_27 : decode cX7_fits 27 = .ok (.iinc 2 1, 3) := by decide +kernel
theorem dX7_fits_30 : decode cX7_fits 30 = .ok (.goto (-26), 3) := by decide +kernel
theorem dX7_fits_33 : decode cX7_fits 33 = .ok (.iload_n 1, 1) := by decide +kernel
theorem dX7_fits_34 : decode cX7_fits 34 = .ok (.ireturn, 1) := by decide +kernel
theorem dX7_goDraw_0 : decode cX7_goDraw 0 = .ok (.aload_n 0, 1) := by decide +kernel
theorem dX7_goDraw_1 : decode cX7_goDraw 1 = .ok (.getfield 43, 3) := by decide +kernel
theorem dX7_goDraw_4 : decode cX7_goDraw 4 = .ok (.aload_n 0, 1) := by decide +kernel
theorem dX7_goDraw_5 : decode cX7_goDraw 5 = .ok (.getfield 27, 3) := by decide +kernel
theorem dX7_goDraw_8 : decode cX7_goDraw 8 = .ok (.iaload, 1) := by decide +kernel
theorem dX7_goDraw_9 : decode cX7_goDraw 9 = .ok (.istore_n 2, 1) := by decide +kernel
theorem dX7_goDraw_10 : decode cX7_goDraw 10 = .ok (.iload_n 1, 1) := by decide +kernel
theorem dX7_goDraw_11 : decode cX7_goDraw 11 = .ok (.aload_n 0, 1) := by decide +kernel
theorem dX7_goDraw_12 : decode cX7_goDraw 12 = .ok (.iload_n 2, 1) := by decide +kernel
theorem dX7_goDraw_13 : decode cX7_goDraw 13 = .ok (.aload_n 0, 1) := by decide +kernel
theorem dX7_goDraw_14 : decode cX7_goDraw 14 = .ok (.getfield 21, 3) := by decide +kernel
theorem dX7_goDraw_17 : decode cX7_goDraw 17 = .ok (.aload_n 0, 1) := by decide +kernel
theorem dX7_goDraw_18 : decode cX7_goDraw 18 = .ok (.getfield 24, 3) := by decide +kernel
theorem dX7_goDraw_21 : decode cX7_goDraw 21 = .ok (.aload_n 0, 1) := by decide +kernel
theorem dX7_goDraw_22 : decode cX7_goDraw 22 = .ok (.getfield 27, 3) := by decide +kernel
theorem dX7_goDraw_25 : decode cX7_goDraw 25 = .ok (.invokevirtual 330, 3) := by decide +kernel
theorem dX7_goDraw_28 : decode cX7_goDraw 28 = .ok (.if_icmp .ge 7, 3) := by decide +kernel
theorem dX7_goDraw_31 : decode cX7_goDraw 31 = .ok (.iconst 1, 1) := by decide +kernel
theorem dX7_goDraw_32 : decode cX7_goDraw 32 = .ok (.goto 4, 3) := by decide +kernel
theorem dX7_goDraw_35 : decode cX7_goDraw 35 = .ok (.iconst 0, 1) := by decide +kernel
theorem dX7_goDraw_36 : decode cX7_goDraw 36 = .ok (.istore_n 3, 1) := by decide +kernel
theorem dX7_goDraw_37 : decode cX7_goDraw 37 = .ok (.iload_n 3, 1) := by decide +kernel
theorem dX7_goDraw_38 : decode cX7_goDraw 38 = .ok (.ifCond .eq 48, 3) := by decide +kernel
theorem dX7_goDraw_41 : decode cX7_goDraw 41 = .ok (.aload_n 0, 1) := by decide +kernel
theorem dX7_goDraw_42 : decode cX7_goDraw 42 = .ok (.dup, 1) := by decide +kernel
theorem dX7_goDraw_43 : decode cX7_goDraw 43 = .ok (.getfield 21, 3) := by decide +kernel
theorem dX7_goDraw_46 : decode cX7_goDraw 46 = .ok (.iconst 1, 1) := by decide +kernel
theorem dX7_goDraw_47 : decode cX7_goDraw 47 = .ok (.isub, 1) := by decide +kernel
theorem dX7_goDraw_48 : decode cX7_goDraw 48 = .ok (.putfield 21, 3) := by decide +kernel
theorem dX7_goDraw_51 : decode cX7_goDraw 51 = .ok (.aload_n 0, 1) := by decide +kernel
theorem dX7_goDraw_52 : decode cX7_goDraw 52 = .ok (.getfield 37, 3) := by decide +kernel
theorem dX7_goDraw_55 : decode cX7_goDraw 55 = .ok (.iload_n 2, 1) := by decide +kernel
theorem dX7_goDraw_56 : decode cX7_goDraw 56 = .ok (.aload_n 0, 1) := by decide +kernel
theorem dX7_goDraw_57 : decode cX7_goDraw 57 = .ok (.getfield 37, 3) := by decide +kernel
theorem dX7_goDraw_60 : decode cX7_goDraw 60 = .ok (.iload_n 2, 1) := by decide +kernel
theorem dX7_goDraw_61 : decode cX7_goDraw 61 = .ok (.iaload, 1) := by decide +kernel
theorem dX7_goDraw_62 : decode cX7_goDraw 62 = .ok (.sipush 999, 3) := by decide +kernel
theorem dX7_goDraw_65 : decode cX7_goDraw 65 = .ok (.if_icmp .ge 14, 3) := by decide +kernel
theorem dX7_goDraw_68 : decode cX7_goDraw 68 = .ok (.aload_n 0, 1) := by decide +kernel
theorem dX7_goDraw_69 : decode cX7_goDraw 69 = .ok (.getfield 37, 3) := by decide +kernel
theorem dX7_goDraw_72 : decode cX7_goDraw 72 = .ok (.iload_n 2, 1) := by decide +kernel
theorem dX7_goDraw_73 : decode cX7_goDraw 73 = .ok (.iaload, 1) := by decide +kernel
theorem dX7_goDraw_74 : decode cX7_goDraw 74 = .ok (.iconst 1, 1) := by decide +kernel
theorem dX7_goDraw_75 : decode cX7_goDraw 75 = .ok (.iadd, 1) := by decide +kernel
theorem dX7_goDraw_76 : decode cX7_goDraw 76 = .ok (.goto 6, 3) := by decide +kernel
theorem dX7_goDraw_79 : decode cX7_goDraw 79 = .ok (.sipush 999, 3) := by decide +kernel
theorem dX7_goDraw_82 : decode cX7_goDraw 82 = .ok (.iastore, 1) := by decide +kernel
theorem dX7_goDraw_83 : decode cX7_goDraw 83 = .ok (.goto 13, 3) := by decide +kernel
theorem dX7_goDraw_86 : decode cX7_goDraw 86 = .ok (.aload_n 0, 1) := by decide +kernel
theorem dX7_goDraw_87 : decode cX7_goDraw 87 = .ok (.dup, 1) := by decide +kernel
theorem dX7_goDraw_88 : decode cX7_goDraw 88 = .ok (.getfield 24, 3) := by decide +kernel
theorem dX7_goDraw_91 : decode cX7_goDraw 91 = .ok (.iconst 1, 1) := by decide +kernel
theorem dX7_goDraw_92 : decode cX7_goDraw 92 = .ok (.isub, 1) := by decide +kernel
theorem dX7_goDraw_93 : decode cX7_goDraw 93 = .ok (.putfield 24, 3) := by decide +kernel
theorem dX7_goDraw_96 : decode cX7_goDraw 96 = .ok (.aload_n 0, 1) := by decide +kernel
theorem dX7_goDraw_97 : decode cX7_goDraw 97 = .ok (.dup, 1) := by decide +kernel
theorem dX7_goDraw_98 : decode cX7_goDraw 98 = .ok (.getfield 27, 3) := by decide +kernel
theorem dX7_goDraw_101 : decode cX7_goDraw 101 = .ok (.iconst 1, 1) := by decide +kernel
theorem dX7_goDraw_102 : decode cX7_goDraw 102 = .ok (.iadd, 1) := by decide +kernel
theorem dX7_goDraw_103 : decode cX7_goDraw 103 = .ok (.putfield 27, 3) := by decide +kernel
theorem dX7_goDraw_106 : decode cX7_goDraw 106 = .ok (.iload_n 3, 1) := by decide +kernel
theorem dX7_goDraw_107 : decode cX7_goDraw 107 = .ok (.ireturn, 1) := by decide +kernel
theorem dX7_goesText_0 : decode cX7_goesText 0 = .ok (.aload_n 0, 1) := by decide +kernel
theorem dX7_goesText_1 : decode cX7_goesText 1 = .ok (.iconst 0, 1) := by decide +kernel
theorem dX7_goesText_2 : decode cX7_goesText 2 = .ok (.putfield 55, 3) := by decide +kernel
theorem dX7_goesText_5 : decode cX7_goesText 5 = .ok (.aload_n 0, 1) := by decide +kernel
theorem dX7_goesText_6 : decode cX7_goesText 6 = .ok (.bipush 100, 2) := by decide +kernel
theorem dX7_goesText_8 : decode cX7_goesText 8 = .ok (.iload_n 1, 1) := by decide +kernel
theorem dX7_goesText_9 : decode cX7_goesText 9 = .ok (.imul, 1) := by decide +kernel
theorem dX7_goesText_10 : decode cX7_goesText 10 = .ok (.putfield 85, 3) := by decide +kernel
theorem dX7_goesText_13 : decode cX7_goesText 13 = .ok (.iconst 0, 1) := by decide +kernel
theorem dX7_goesText_14 : decode cX7_goesText 14 = .ok (.istore_n 2, 1) := by decide +kernel
theorem dX7_goesText_15 : decode cX7_goesText 15 = .ok (.aload_n 0, 1) := by decide +kernel
theorem dX7_goesText_16 : decode cX7_goesText 16 = .ok (.bipush 10, 2) := by decide +kernel
theorem dX7_goesText_18 : decode cX7_goesText 18 = .ok (.iload_n 1, 1) := by decide +kernel
theorem dX7_goesText_19 : decode cX7_goesText 19 = .ok (.imul, 1) := by decide +kernel
theorem dX7_goesText_20 : decode cX7_goesText 20 = .ok (.iload_n 2, 1) := by decide +kernel
theorem dX7_goesText_21 : decode cX7_goesText 21 = .ok (.iadd, 1) := by decide +kernel
theorem dX7_goesText_22 : decode cX7_goesText 22 = .ok (.invokevirtual 287, 3) := by decide +kernel
theorem dX7_goesText_25 : decode cX7_goesText 25 = .ok (.ifCond .ne 5, 3) := by decide +kernel
theorem dX7_goesText_28 : decode cX7_goesText 28 = .ok (.iconst 0, 1) := by decide +kernel
theorem dX7_goesText_29 : decode cX7_goesText 29 = .ok (.ireturn, 1) := by decide +kernel
theorem dX7_goesText_30 : decode cX7_goesText 30 = .ok (.iinc 2 1, 3) := by decide +kernel
theorem dX7_goesText_33 : decode cX7_goesText 33 = .ok (.aload_n 0, 1) := by decide +kernel
theorem dX7_goesText_34 : decode cX7_goesText 34 = .ok (.getfield 64, 3) := by decide +kernel
theorem dX7_goesText_37 : decode cX7_goesText 37 = .ok (.iload_n 1, 1) := by decide +kernel
theorem dX7_goesText_38 : decode cX7_goesText 38 = .ok (.iload_n 2, 1) := by decide +kernel
theorem dX7_goesText_39 : decode cX7_goesText 39 = .ok (.iastore, 1) := by decide +kernel
theorem dX7_goesText_40 : decode cX7_goesText 40 = .ok (.aload_n 0, 1) := by decide +kernel
theorem dX7_goesText_41 : decode cX7_goesText 41 = .ok (.getfield 55, 3) := by decide +kernel
theorem dX7_goesText_44 : decode cX7_goesText 44 = .ok (.aload_n 0, 1) := by decide +kernel
theorem dX7_goesText_45 : decode cX7_goesText 45 = .ok (.getfield 52, 3) := by decide +kernel
theorem dX7_goesText_48 : decode cX7_goesText 48 = .ok (.if_icmp .ne 5, 3) := by decide +kernel
theorem dX7_goesText_51 : decode cX7_goesText 51 = .ok (.iconst 1, 1) := by decide +kernel
theorem dX7_goesText_52 : decode cX7_goesText 52 = .ok (.ireturn, 1) := by decide +kernel
theorem dX7_goesText_53 : decode cX7_goesText 53 = .ok (.iload_n 2, 1) := by decide +kernel
theorem dX7_goesText_54 : decode cX7_goesText 54 = .ok (.bipush 10, 2) := by decide +kernel
theorem dX7_goesText_56 : decode cX7_goesText 56 = .ok (.if_icmp .eq 12, 3) := by decide +kernel
theorem dX7_goesText_59 : decode cX7_goesText 59 = .ok (.aload_n 0, 1) := by decide +kernel
theorem dX7_goesText_60 : decode cX7_goesText 60 = .ok (.bipush 59, 2) := by decide +kernel
theorem dX7_goesText_62 : decode cX7_goesText 62 = .ok (.invokevirtual 245, 3) := by decide +kernel
theorem dX7_goesText_65 : decode cX7_goesText 65 = .ok (.ifCond .ne (-50), 3) := by decide +kernel
theorem dX7_goesText_68 : decode cX7_goesText 68 = .ok (.iconst 0, 1) := by decide +kernel
theorem dX7_goesText_69 : decode cX7_goesText 69 = .ok (.ireturn, 1) := by decide +kernel
theorem dX7_has_0 : decode cX7_has 0 = .ok (.iload_n 1, 1) := by decide +kernel
theorem dX7_has_1 : decode cX7_has 1 = .ok (.iload_n 2, 1) := by decide +kernel
theorem dX7_has_2 : decode cX7_has 2 = .ok (.ishr, 1) := by decide +kernel
theorem dX7_has_3 : decode cX7_has 3 = .ok (.iconst 1, 1) := by decide +kernel
theorem dX7_has_4 : decode cX7_has 4 = .ok (.iand, 1) := by decide +kernel
theorem dX7_has_5 : decode cX7_has 5 = .ok (.iconst 1, 1) := by decide +kernel
theorem dX7_has_6 : decode cX7_has 6 = .ok (.if_icmp .ne 7, 3) := by decide +kernel
theorem dX7_has_9 : decode cX7_has 9 = .ok (.iconst 1, 1) := by decide +kernel
theorem dX7_has_10 : decode cX7_has 10 = .ok (.goto 4, 3) := by decide +kernel
theorem dX7_has_13 : decode cX7_has 13 = .ok (.iconst 0, 1) := by decide +kernel
theorem dX7_has_14 : decode cX7_has 14 = .ok (.ireturn, 1) := by decide +kernel
theorem dX7_holds_0 : decode cX7_holds 0 = .ok (.iconst 0, 1) := by decide +kernel
theorem dX7_holds_1 : decode cX7_holds 1 = .ok (.istore_n 3, 1) := by decide +kernel
theorem dX7_holds_2 : decode cX7_holds 2 = .ok (.aload_n 0, 1) := by decide +kernel
theorem dX7_holds_3 : decode cX7_holds 3 = .ok (.getfield 73, 3) := by decide +kernel
theorem dX7_holds_6 : decode cX7_holds 6 = .ok (.iload_n 1, 1) := by decide +kernel
theorem dX7_holds_7 : decode cX7_holds 7 = .ok (.iaload, 1) := by decide +kernel
theorem dX7_holds_8 : decode cX7_holds 8 = .ok (.istore 4, 2) := by decide +kernel
theorem dX7_holds_10 : decode cX7_holds 10 = .ok (.iload 4, 2) := by decide +kernel
theorem dX7_holds_12 : decode cX7_holds 12 = .ok (.aload_n 0, 1) := by decide +kernel
theorem dX7_holds_13 : decode cX7_holds 13 = .ok (.getfield 76, 3) := by decide +kernel
theorem dX7_holds_16 : decode cX7_holds 16 = .ok (.iload_n 1, 1) := by decide +kernel
theorem dX7_holds_17 : decode cX7_holds 17 = .ok (.iaload, 1) := by decide +kernel
theorem dX7_holds_18 : decode cX7_holds 18 = .ok (.if_icmp .ge 225, 3) := by decide +kernel
theorem dX7_holds_21 : decode cX7_holds 21 = .ok (.aload_n 0, 1) := by decide +kernel
theorem dX7_holds_22 : decode cX7_holds 22 = .ok (.getfield 79, 3) := by decide +kernel
theorem dX7_holds_25 : decode cX7_holds 25 = .ok (.iload 4, 2) := by decide +kernel
theorem dX7_holds_27 : decode cX7_holds 27 = .ok (.iaload, 1) := by decide +kernel
theorem dX7_holds_28 : decode cX7_holds 28 = .ok (.istore 5, 2) := by decide +kernel
theorem dX7_holds_30 : decode cX7_holds 30 = .ok (.iload 5, 2) := by decide +kernel
theorem dX7_holds_32 : decode cX7_holds 32 = .ok (.bipush (-33), 2) := by decide +kernel
theorem dX7_holds_34 : decode cX7_holds 34 = .ok (.if_icmp .ne 30, 3) := by decide +kernel
theorem dX7_holds_37 : decode cX7_holds 37 = .ok (.aload_n 0, 1) := by decide +kernel
theorem dX7_holds_38 : decode cX7_holds 38 = .ok (.getfield 97, 3) := by decide +kernel
theorem dX7_holds_41 : decode cX7_holds 41 = .ok (.iload_n 3, 1) := by decide +kernel
theorem dX7_holds_42 : decode cX7_holds 42 = .ok (.iconst 1, 1) := by decide +kernel
theorem dX7_holds_43 : decode cX7_holds 43 = .ok (.isub, 1) := by decide +kernel
theorem dX7_holds_44 : decode cX7_holds 44 = .ok (.aload_n 0, 1) := by decide +kernel
theorem dX7_holds_45 : decode cX7_holds 45 = .ok (.getfield 97, 3) := by decide +kernel
theorem dX7_holds_48 : decode cX7_holds 48 = .ok (.iload_n 3, 1) := by decide +kernel
theorem dX7_holds_49 : decode cX7_holds 49 = .ok (.iconst 1, 1) := by decide +kernel
theorem dX7_holds_50 : decode cX7_holds 50 = .ok (.isub, 1) := by decide +kernel
theorem dX7_holds_51 : decode cX7_holds 51 = .ok (.baload, 1) := by decide +kernel
theorem dX7_holds_52 : decode cX7_holds 52 = .ok (.ifCond .ne 7, 3) := by decide +kernel
theorem dX7_holds_55 : decode cX7_holds 55 = .ok (.iconst 1, 1) := by decide +kernel
theorem dX7_holds_56 : decode cX7_holds 56 = .ok (.goto 4, 3) := by decide +kernel
theorem dX7_holds_59 : decode cX7_holds 59 = .ok (.iconst 0, 1) := by decide +kernel
theorem dX7_holds_60 : decode cX7_holds 60 = .ok (.bastore, 1) := by decide +kernel
theorem dX7_holds_61 : decode cX7_holds 61 = .ok (.goto 176, 3) := by decide +kernel
theorem dX7_holds_64 : decode cX7_holds 64 = .ok (.iload 5, 2) := by decide +kernel
theorem dX7_holds_66 : decode cX7_holds 66 = .ok (.ifCond .ge 77, 3) := by decide +kernel
theorem dX7_holds_69 : decode cX7_holds 69 = .ok (.iinc 3 (-1), 3) := by decide +kernel
theorem dX7_holds_72 : decode cX7_holds 72 = .ok (.aload_n 0, 1) := by decide +kernel
theorem dX7_holds_73 : decode cX7_holds 73 = .ok (.getfield 97, 3) := by decide +kernel
theorem dX7_holds_76 : decode cX7_holds 76 = .ok (.iload_n 3, 1) := by decide +kernel
theorem dX7_holds_77 : decode cX7_holds 77 = .ok (.iconst 1, 1) := by decide +kernel
theorem dX7_holds_78 : decode cX7_holds 78 = .ok (.isub, 1) := by decide +kernel
theorem dX7_holds_79 : decode cX7_holds 79 = .ok (.iload 5, 2) := by decide +kernel
theorem dX7_holds_81 : decode cX7_holds 81 = .ok (.bipush (-38), 2) := by decide +kernel
theorem dX7_holds_83 : decode cX7_holds 83 = .ok (.if_icmp .ne 31, 3) := by decide +kernel
theorem dX7_holds_86 : decode cX7_holds 86 = .ok (.aload_n 0, 1) := by decide +kernel
theorem dX7_holds_87 : decode cX7_holds 87 = .ok (.getfield 97, 3) := by decide +kernel
theorem dX7_holds_90 : decode cX7_holds 90 = .ok (.iload_n 3, 1) := by decide +kernel
theorem dX7_holds_91 : decode cX7_holds 91 = .ok (.iconst 1, 1) := by decide +kernel
theorem dX7_holds_92 : decode cX7_holds 92 = .ok (.isub, 1) := by decide +kernel
theorem dX7_holds_93 : decode cX7_holds 93 = .ok (.baload, 1) := by decide +kernel
theorem dX7_holds_94 : decode cX7_holds 94 = .ok (.ifCond .eq 16, 3) := by decide +kernel
theorem dX7_holds_97 : decode cX7_holds 97 = .ok (.aload_n 0, 1) := by decide +kernel
theorem dX7_holds_98 : decode cX7_holds 98 = .ok (.getfield 97, 3) := by decide +kernel
theorem dX7_holds_101 : decode cX7_holds 101 = .ok (.iload_n 3, 1) := by decide +kernel
theorem dX7_holds_102 : decode cX7_holds 102 = .ok (.baload, 1) := by decide +kernel
theorem dX7_holds_103 : decode cX7_holds 103 = .ok (.ifCond .eq 7, 3) := by decide +kernel
theorem dX7_holds_106 : decode cX7_holds 106 = .ok (.iconst 1, 1) := by decide +kernel
theorem dX7_holds_107 : decode cX7_holds 107 = .ok (.goto 32, 3) := by decide +kernel
theorem dX7_holds_110 : decode cX7_holds 110 = .ok (.iconst 0, 1) := by decide +kernel
theorem dX7_holds_111 : decode cX7_holds 111 = .ok (.goto 28, 3) := by decide +kernel
theorem dX7_holds_114 : decode cX7_holds 114 = .ok (.aload_n 0, 1) := by decide +kernel
theorem dX7_holds_115 : decode cX7_holds 115 = .ok (.getfield 97, 3) := by decide +kernel
theorem dX7_holds_118 : decode cX7_holds 118 = .ok (.iload_n 3, 1) := by decide +kernel
theorem dX7_holds_119 : decode cX7_holds 119 = .ok (.iconst 1, 1) := by decide +kernel
theorem dX7_holds_120 : decode cX7_holds 120 = .ok (.isub, 1) := by decide +kernel
theorem dX7_holds_121 : decode cX7_holds 121 = .ok (.baload, 1) := by decide +kernel
theorem dX7_holds_122 : decode cX7_holds 122 = .ok (.ifCond .ne 12, 3) := by decide +kernel
theorem dX7_holds_125 : decode cX7_holds 125 = .ok (.aload_n 0, 1) := by decide +kernel
theorem dX7_holds_126 : decode cX7_holds 126 = .ok (.getfield 97, 3) := by decide +kernel
theorem dX7_holds_129 : decode cX7_holds 129 = .ok (.iload_n 3, 1) := by decide +kernel
theorem dX7_holds_130 : decode cX7_holds 130 = .ok (.baload, 1) := by decide +kernel
theorem dX7_holds_131 : decode cX7_holds 131 = .ok (.ifCond .eq 7, 3) := by decide +kernel
theorem dX7_holds_134 : decode cX7_holds 134 = .ok (.iconst 1, 1) := by decide +kernel
theorem dX7_holds_135 : decode cX7_holds 135 = .ok (.goto 4, 3) := by decide +kernel
theorem dX7_holds_138 : decode cX7_holds 138 = .ok (.iconst 0, 1) := by decide +kernel
theorem dX7_holds_139 : decode cX7_holds 139 = .ok (.bastore, 1) := by decide +kernel
theorem dX7_holds_140 : decode cX7_holds 140 = .ok (.goto 97, 3) := by decide +kernel
theorem dX7_holds_143 : decode cX7_holds 143 = .ok (.aload_n 0, 1) := by decide +kernel
theorem dX7_holds_144 : decode cX7_holds 144 = .ok (.iload 5, 2) := by decide +kernel
theorem dX7_holds_146 : decode cX7_holds 146 = .ok (.sipush 1000, 3) := by decide +kernel
theorem dX7_holds_149 : decode cX7_holds 149 = .ok (.idiv, 1) := by decide +kernel
theorem dX7_holds_150 : decode cX7_holds 150 = .ok (.iload_n 2, 1) := by decide +kernel
theorem dX7_holds_151 : decode cX7_holds 151 = .ok (.invokevirtual 309, 3) := by decide +kernel
theorem dX7_holds_154 : decode cX7_holds 154 = .ok (.istore 6, 2) := by decide +kernel
theorem dX7_holds_156 : decode cX7_holds 156 = .ok (.iload 5, 2) := by decide +kernel
theorem dX7_holds_158 : decode cX7_holds 158 = .ok (.bipush 100, 2) := by decide +kernel
theorem dX7_holds_160 : decode cX7_holds 160 = .ok (.idiv, 1) := by decide +kernel
theorem dX7_holds_161 : decode cX7_holds 161 = .ok (.bipush 10, 2) := by decide +kernel
theorem dX7_holds_163 : decode cX7_holds 163 = .ok (.irem, 1) := by decide +kernel
theorem dX7_holds_164 : decode cX7_holds 164 = .ok (.istore 7, 2) := by decide +kernel
theorem dX7_holds_166 : decode cX7_holds 166 = .ok (.aload_n 0, 1) := by decide +kernel
theorem dX7_holds_167 : decode cX7_holds 167 = .ok (.getfield 97, 3) := by decide +kernel
theorem dX7_holds_170 : decode cX7_holds 170 = .ok (.iload_n 3, 1) := by decide +kernel
theorem dX7_holds_171 : decode cX7_holds 171 = .ok (.iload 7, 2) := by decide +kernel
theorem dX7_holds_173 : decode cX7_holds 173 = .ok (.ifCond .ne 21, 3) := by decide +kernel
theorem dX7_holds_176 : decode cX7_holds 176 = .ok (.iload 6, 2) := by decide +kernel
theorem dX7_holds_178 : decode cX7_holds 178 = .ok (.iload 5, 2) := by decide +kernel
theorem dX7_holds_180 : decode cX7_holds 180 = .ok (.bipush 100, 2) := by decide +kernel
theorem dX7_holds_182 : decode cX7_holds 182 = .ok (.irem, 1) := by decide +kernel
theorem dX7_holds_183 : decode cX7_holds 183 = .ok (.if_icmp .ge 7, 3) := by decide +kernel
theorem dX7_holds_186 : decode cX7_holds 186 = .ok (.iconst 1, 1) := by decide +kernel
theorem dX7_holds_187 : decode cX7_holds 187 = .ok (.goto 46, 3) := by decide +kernel
theorem dX7_holds_190 : decode cX7_holds 190 = .ok (.iconst 0, 1) := by decide +kernel
theorem dX7_holds_191 : decode cX7_holds 191 = .ok (.goto 42, 3) := by decide +kernel
theorem dX7_holds_194 : decode cX7_holds 194 = .ok (.iload 7, 2) := by decide +kernel
theorem dX7_holds_196 : decode cX7_holds 196 = .ok (.iconst 1, 1) := by decide +kernel
theorem dX7_holds_197 : decode cX7_holds 197 = .ok (.if_icmp .ne 21, 3) := by decide +kernel
theorem dX7_holds_200 : decode cX7_holds 200 = .ok (.iload 6, 2) := by decide +kernel
theorem dX7_holds_202 : decode cX7_holds 202 = .ok (.iload 5, 2) := by decide +kernel
theorem dX7_holds_204 : decode cX7_holds 204 = .ok (.bipush 100, 2) := by decide +kernel
theorem dX7_holds_206 : decode cX7_holds 206 = .ok (.irem, 1) := by decide +kernel
theorem dX7_holds_207 : decode cX7_holds 207 = .ok (.if_icmp .ne 7, 3) := by decide +kernel
theorem dX7_holds_210 : decode cX7_holds 210 = .ok (.iconst 1, 1) := by decide +kernel
theorem dX7_holds_211 : decode cX7_holds 211 = .ok (.goto 22, 3) := by decide +kernel
theorem dX7_holds_214 : decode cX7_holds 214 = .ok (.iconst 0, 1) := by decide +kernel
theorem dX7_holds_215 : decode cX7_holds 215 = .ok (.goto 18, 3) := by decide +kernel
theorem dX7_holds_218 : decode cX7_holds 218 = .ok (.iload 6, 2) := by decide +kernel
theorem dX7_holds_220 : decode cX7_holds 220 = .ok (.iload 5, 2) := by decide +kernel
theorem dX7_holds_222 : decode cX7_holds 222 = .ok (.bipush 100, 2) := by decide +kernel
theorem dX7_holds_224 : decode cX7_holds 224 = .ok (.irem, 1) := by decide +kernel
theorem dX7_holds_225 : decode cX7_holds 225 = .ok (.if_icmp .le 7, 3) := by decide +kernel
theorem dX7_holds_228 : decode cX7_holds 228 = .ok (.iconst 1, 1) := by decide +kernel
theorem dX7_holds_229 : decode cX7_holds 229 = .ok (.goto 4, 3) := by decide +kernel
theorem dX7_holds_232 : decode cX7_holds 232 = .ok (.iconst 0, 1) := by decide +kernel
theorem dX7_holds_233 : decode cX7_holds 233 = .ok (.bastore, 1) := by decide +kernel
theorem dX7_holds_234 : decode cX7_holds 234 = .ok (.iinc 3 1, 3) := by decide +kernel
theorem dX7_holds_237 : decode cX7_holds 237 = .ok (.iinc 4 1, 3) := by decide +kernel
theorem dX7_holds_240 : decode cX7_holds 240 = .ok (.goto (-230), 3) := by decide +kernel
theorem dX7_holds_243 : decode cX7_holds 243 = .ok (.aload_n 0, 1) := by decide +kernel
theorem dX7_holds_244 : decode cX7_holds 244 = .ok (.getfield 97, 3) := by decide +kernel
theorem dX7_holds_247 : decode cX7_holds 247 = .ok (.iconst 0, 1) := by decide +kernel
theorem dX7_holds_248 : decode cX7_holds 248 = .ok (.baload, 1) := by decide +kernel
theorem dX7_holds_249 : decode cX7_holds 249 = .ok (.ireturn, 1) := by decide +kernel
theorem dX7_hut_0 : decode cX7_hut 0 = .ok (.aload_n 0, 1) := by decide +kernel
theorem dX7_hut_1 : decode cX7_hut 1 = .ok (.getfield 46, 3) := by decide +kernel
theorem dX7_hut_4 : decode cX7_hut 4 = .ok (.bipush 6, 2) := by decide +kernel
theorem dX7_hut_6 : decode cX7_hut 6 = .ok (.if_icmp .ne 6, 3) := by decide +kernel
theorem dX7_hut_9 : decode cX7_hut 9 = .ok (.bipush (-4), 2) := by decide +kernel
theorem dX7_hut_11 : decode cX7_hut 11 = .ok (.ireturn, 1) := by decide +kernel
theorem dX7_hut_12 : decode cX7_hut 12 = .ok (.aload_n 0, 1) := by decide +kernel
theorem dX7_hut_13 : decode cX7_hut 13 = .ok (.aload_n 0, 1) := by decide +kernel
theorem dX7_hut_14 : decode cX7_hut 14 = .ok (.getfield 46, 3) := by decide +kernel
theorem dX7_hut_17 : decode cX7_hut 17 = .ok (.invokevirtual 290, 3) := by decide +kernel
theorem dX7_hut_20 : decode cX7_hut 20 = .ok (.istore_n 1, 1) := by decide +kernel
theorem dX7_hut_21 : decode cX7_hut 21 = .ok (.aload_n 0, 1) := by decide +kernel
theorem dX7_hut_22 : decode cX7_hut 22 = .ok (.iconst 0, 1) := by decide +kernel
theorem dX7_hut_23 : decode cX7_hut 23 = .ok (.putfield 52, 3) := by decide +kernel
theorem dX7_hut_26 : decode cX7_hut 26 = .ok (.iload_n 1, 1) := by decide +kernel
theorem dX7_hut_27 : decode cX7_hut 27 = .ok (.ifCond .ne 11, 3) := by decide +kernel
theorem dX7_hut_30 : decode cX7_hut 30 = .ok (.bipush (-10), 2) := by decide +kernel
theorem dX7_hut_32 : decode cX7_hut 32 = .ok (.aload_n 0, 1) := by decide +kernel
theorem dX7_hut_33 : decode cX7_hut 33 = .ok (.getfield 55, 3) := by decide +kernel
theorem dX7_hut_36 : decode cX7_hut 36 = .ok (.isub, 1) := by decide +kernel
theorem dX7_hut_37 : decode cX7_hut 37 = .ok (.ireturn, 1) := by decide +kernel
theorem dX7_hut_38 : decode cX7_hut 38 = .ok (.aload_n 0, 1) := by decide +kernel
theorem dX7_hut_39 : decode cX7_hut 39 = .ok (.aload_n 0, 1) := by decide +kernel
theorem dX7_hut_40 : decode cX7_hut 40 = .ok (.getfield 46, 3) := by decide +kernel
theorem dX7_hut_43 : decode cX7_hut 43 = .ok (.putfield 49, 3) := by decide +kernel
theorem dX7_hut_46 : decode cX7_hut 46 = .ok (.aload_n 0, 1) := by decide +kernel
theorem dX7_hut_47 : decode cX7_hut 47 = .ok (.dup, 1) := by decide +kernel
theorem dX7_hut_48 : decode cX7_hut 48 = .ok (.getfield 46, 3) := by decide +kernel
theorem dX7_hut_51 : decode cX7_hut 51 = .ok (.iconst 1, 1) := by decide +kernel
theorem dX7_hut_52 : decode cX7_hut 52 = .ok (.iadd, 1) := by decide +kernel
theorem dX7_hut_53 : decode cX7_hut 53 = .ok (.putfield 46, 3) := by decide +kernel
theorem dX7_hut_56 : decode cX7_hut 56 = .ok (.aload_n 0, 1) := by decide +kernel
theorem dX7_hut_57 : decode cX7_hut 57 = .ok (.invokevirtual 226, 3) := by decide +kernel
theorem dX7_hut_60 : decode cX7_hut 60 = .ok (.aload_n 0, 1) := by decide +kernel
theorem dX7_hut_61 : decode cX7_hut 61 = .ok (.getfield 49, 3) := by decide +kernel
theorem dX7_hut_64 : decode cX7_hut 64 = .ok (.ireturn, 1) := by decide +kernel
theorem dX7_image_0 : decode cX7_image 0 = .ok (.aload_n 0, 1) := by decide +kernel
theorem dX7_image_1 : decode cX7_image 1 = .ok (.iconst 1, 1) := by decide +kernel
theorem dX7_image_2 : decode cX7_image 2 = .ok (.putfield 155, 3) := by decide +kernel
theorem dX7_image_5 : decode cX7_image 5 = .ok (.aload_n 0, 1) := by decide +kernel
theorem dX7_image_6 : decode cX7_image 6 = .ok (.aload_n 0, 1) := by decide +kernel
theorem dX7_image_7 : decode cX7_image 7 = .ok (.getfield 49, 3) := by decide +kernel
theorem dX7_image_10 : decode cX7_image 10 = .ok (.putfield 159, 3) := by decide +kernel
theorem dX7_image_13 : decode cX7_image 13 = .ok (.aload_n 0, 1) := by decide +kernel
theorem dX7_image_14 : decode cX7_image 14 = .ok (.aload_n 0, 1) := by decide +kernel
theorem dX7_image_15 : decode cX7_image 15 = .ok (.getfield 1, 3) := by decide +kernel
theorem dX7_image_18 : decode cX7_image 18 = .ok (.putfield 162, 3) := by decide +kernel
theorem dX7_image_21 : decode cX7_image 21 = .ok (.aload_n 0, 1) := by decide +kernel
theorem dX7_image_22 : decode cX7_image 22 = .ok (.aload_n 0, 1) := by decide +kernel
theorem dX7_image_23 : decode cX7_image 23 = .ok (.getfield 18, 3) := by decide +kernel
theorem dX7_image_26 : decode cX7_image 26 = .ok (.putfield 165, 3) := by decide +kernel
theorem dX7_image_29 : decode cX7_image 29 = .ok (.aload_n 0, 1) := by decide +kernel
theorem dX7_image_30 : decode cX7_image 30 = .ok (.aload_n 0, 1) := by decide +kernel
theorem dX7_image_31 : decode cX7_image 31 = .ok (.getfield 21, 3) := by decide +kernel
theorem dX7_image_34 : decode cX7_image 34 = .ok (.putfield 168, 3) := by decide +kernel
theorem dX7_image_37 : decode cX7_image 37 = .ok (.aload_n 0, 1) := by decide +kernel
theorem dX7_image_38 : decode cX7_image 38 = .ok (.aload_n 0, 1) := by decide +kernel
theorem dX7_image_39 : decode cX7_image 39 = .ok (.getfield 24, 3) := by decide +kernel
theorem dX7_image_42 : decode cX7_image 42 = .ok (.putfield 171, 3) := by decide +kernel
theorem dX7_image_45 : decode cX7_image 45 = .ok (.aload_n 0, 1) := by decide +kernel
theorem dX7_image_46 : decode cX7_image 46 = .ok (.aload_n 0, 1) := by decide +kernel
theorem dX7_image_47 : decode cX7_image 47 = .ok (.getfield 27, 3) := by decide +kernel
theorem dX7_image_50 : decode cX7_image 50 = .ok (.putfield 174, 3) := by decide +kernel
theorem dX7_image_53 : decode cX7_image 53 = .ok (.aload_n 0, 1) := by decide +kernel
theorem dX7_image_54 : decode cX7_image 54 = .ok (.aload_n 0, 1) := by decide +kernel
theorem dX7_image_55 : decode cX7_image 55 = .ok (.getfield 140, 3) := by decide +kernel
theorem dX7_image_58 : decode cX7_image 58 = .ok (.putfield 177, 3) := by decide +kernel
theorem dX7_image_61 : decode cX7_image 61 = .ok (.aload_n 0, 1) := by decide +kernel
theorem dX7_image_62 : decode cX7_image 62 = .ok (.aload_n 0, 1) := by decide +kernel
theorem dX7_image_63 : decode cX7_image 63 = .ok (.getfield 149, 3) := by decide +kernel
theorem dX7_image_66 : decode cX7_image 66 = .ok (.putfield 180, 3) := by decide +kernel
theorem dX7_image_69 : decode cX7_image 69 = .ok (.iconst 0, 1) := by decide +kernel
theorem dX7_image_70 : decode cX7_image 70 = .ok (.istore_n 1, 1) := by decide +kernel
theorem dX7_image_71 : decode cX7_image 71 = .ok (.iload_n 1, 1) := by decide +kernel
theorem dX7_image_72 : decode cX7_image 72 = .ok (.bipush 6, 2) := by decide +kernel
theorem dX7_image_74 : decode cX7_image 74 = .ok (.if_icmp .ge 81, 3) := by decide +kernel
theorem dX7_image_77 : decode cX7_image 77 = .ok (.aload_n 0, 1) := by decide +kernel
theorem dX7_image_78 : decode cX7_image 78 = .ok (.getfield 183, 3) := by decide +kernel
theorem dX7_image_81 : decode cX7_image 81 = .ok (.iload_n 1, 1) := by decide +kernel
theorem dX7_image_82 : decode cX7_image 82 = .ok (.aload_n 0, 1) := by decide +kernel
theorem dX7_image_83 : decode cX7_image 83 = .ok (.getfield 30, 3) := by decide +kernel
theorem dX7_image_86 : decode cX7_image 86 = .ok (.iload_n 1, 1) := by decide +kernel
theorem dX7_image_87 : decode cX7_image 87 = .ok (.iaload, 1) := by decide +kernel
theorem dX7_image_88 : decode cX7_image 88 = .ok (.iastore, 1) := by decide +kernel
theorem dX7_image_89 : decode cX7_image 89 = .ok (.aload_n 0, 1) := by decide +kernel
theorem dX7_image_90 : decode cX7_image 90 = .ok (.getfield 186, 3) := by decide +kernel
theorem dX7_image_93 : decode cX7_image 93 = .ok (.iload_n 1, 1) := by decide +kernel
theorem dX7_image_94 : decode cX7_image 94 = .ok (.aload_n 0, 1) := by decide +kernel
theorem dX7_image_95 : decode cX7_image 95 = .ok (.getfield 34, 3) := by decide +kernel
theorem dX7_image_98 : decode cX7_image 98 = .ok (.iload_n 1, 1) := by decide +kernel
theorem dX7_image_99 : decode cX7_image 99 = .ok (.iaload, 1) := by decide +kernel
theorem dX7_image_100 : decode cX7_image 100 = .ok (.iastore, 1) := by decide +kernel
theorem dX7_image_101 : decode cX7_image 101 = .ok (.aload_n 0, 1) := by decide +kernel
theorem dX7_image_102 : decode cX7_image 102 = .ok (.getfield 189, 3) := by decide +kernel
theorem dX7_image_105 : decode cX7_image 105 = .ok (.iload_n 1, 1) := by decide +kernel
theorem dX7_image_106 : decode cX7_image 106 = .ok (.aload_n 0, 1) := by decide +kernel
theorem dX7_image_107 : decode cX7_image 107 = .ok (.getfield 37, 3) := by decide +kernel
theorem dX7_image_110 : decode cX7_image 110 = .ok (.iload_n 1, 1) := by decide +kernel
theorem dX7_image_111 : decode cX7_image 111 = .ok (.iaload, 1) := by decide +kernel
theorem dX7_image_112 : decode cX7_image 112 = .ok (.iastore, 1) := by decide +kernel
theorem dX7_image_113 : decode cX7_image 113 = .ok (.aload_n 0, 1) := by decide +kernel
theorem dX7_image_114 : decode cX7_image 114 = .ok (.getfield 192, 3) := by decide +kernel
theorem dX7_image_117 : decode cX7_image 117 = .ok (.iload_n 1, 1) := by decide +kernel
theorem dX7_image_118 : decode cX7_image 118 = .ok (.aload_n 0, 1) := by decide +kernel
theorem dX7_image_119 : decode cX7_image 119 = .ok (.getfield 43, 3) := by decide +kernel
theorem dX7_image_122 : decode cX7_image 122 = .ok (.iload_n 1, 1) := by decide +kernel
theorem dX7_image_123 : decode cX7_image 123 = .ok (.iaload, 1) := by decide +kernel
theorem dX7_image_124 : decode cX7_image 124 = .ok (.iastore, 1) := by decide +kernel
theorem dX7_image_125 : decode cX7_image 125 = .ok (.aload_n 0, 1) := by decide +kernel
theorem dX7_image_126 : decode cX7_image 126 = .ok (.getfield 198, 3) := by decide +kernel
theorem dX7_image_129 : decode cX7_image 129 = .ok (.iload_n 1, 1) := by decide +kernel
theorem dX7_image_130 : decode cX7_image 130 = .ok (.aload_n 0, 1) := by decide +kernel
theorem dX7_image_131 : decode cX7_image 131 = .ok (.getfield 143, 3) := by decide +kernel
theorem dX7_image_134 : decode cX7_image 134 = .ok (.iload_n 1, 1) := by decide +kernel
theorem dX7_image_135 : decode cX7_image 135 = .ok (.iaload, 1) := by decide +kernel
theorem dX7_image_136 : decode cX7_image 136 = .ok (.iastore, 1) := by decide +kernel
theorem dX7_image_137 : decode cX7_image 137 = .ok (.aload_n 0, 1) := by decide +kernel
theorem dX7_image_138 : decode cX7_image 138 = .ok (.getfield 204, 3) := by decide +kernel
theorem dX7_image_141 : decode cX7_image 141 = .ok (.iload_n 1, 1) := by decide +kernel
theorem dX7_image_142 : decode cX7_image 142 = .ok (.aload_n 0, 1) := by decide +kernel
theorem dX7_image_143 : decode cX7_image 143 = .ok (.getfield 146, 3) := by decide +kernel
theorem dX7_image_146 : decode cX7_image 146 = .ok (.iload_n 1, 1) := by decide +kernel
theorem dX7_image_147 : decode cX7_image 147 = .ok (.baload, 1) := by decide +kernel
theorem dX7_image_148 : decode cX7_image 148 = .ok (.bastore, 1) := by decide +kernel
theorem dX7_image_149 : decode cX7_image 149 = .ok (.iinc 1 1, 3) := by decide +kernel
theorem dX7_image_152 : decode cX7_image 152 = .ok (.goto (-81), 3) := by decide +kernel
theorem dX7_image_155 : decode cX7_image 155 = .ok (.iconst 0, 1) := by decide +kernel
theorem dX7_image_156 : decode cX7_image 156 = .ok (.istore_n 1, 1) := by decide +kernel
theorem dX7_image_157 : decode cX7_image 157 = .ok (.iload_n 1, 1) := by decide +kernel
theorem dX7_image_158 : decode cX7_image 158 = .ok (.bipush 24, 2) := by decide +kernel
theorem dX7_image_160 : decode cX7_image 160 = .ok (.if_icmp .ge 21, 3) := by decide +kernel
theorem dX7_image_163 : decode cX7_image 163 = .ok (.aload_n 0, 1) := by decide +kernel
theorem dX7_image_164 : decode cX7_image 164 = .ok (.getfield 195, 3) := by decide +kernel
theorem dX7_image_167 : decode cX7_image 167 = .ok (.iload_n 1, 1) := by decide +kernel
theorem dX7_image_168 : decode cX7_image 168 = .ok (.aload_n 0, 1) := by decide +kernel
theorem dX7_image_169 : decode cX7_image 169 = .ok (.getfield 40, 3) := by decide +kernel
theorem dX7_image_172 : decode cX7_image 172 = .ok (.iload_n 1, 1) := by decide +kernel
theorem dX7_image_173 : decode cX7_image 173 = .ok (.iaload, 1) := by decide +kernel
theorem dX7_image_174 : decode cX7_image 174 = .ok (.iastore, 1) := by decide +kernel
theorem dX7_image_175 : decode cX7_image 175 = .ok (.iinc 1 1, 3) := by decide +kernel
theorem dX7_image_178 : decode cX7_image 178 = .ok (.goto (-21), 3) := by decide +kernel
theorem dX7_image_181 : decode cX7_image 181 = .ok (.iconst 0, 1) := by decide +kernel
theorem dX7_image_182 : decode cX7_image 182 = .ok (.istore_n 1, 1) := by decide +kernel
theorem dX7_image_183 : decode cX7_image 183 = .ok (.iload_n 1, 1) := by decide +kernel
theorem dX7_image_184 : decode cX7_image 184 = .ok (.bipush 8, 2) := by decide +kernel
theorem dX7_image_186 : decode cX7_image 186 = .ok (.if_icmp .ge 21, 3) := by decide +kernel
theorem dX7_image_189 : decode cX7_image 189 = .ok (.aload_n 0, 1) := by decide +kernel
theorem dX7_image_190 : decode cX7_image 190 = .ok (.getfield 201, 3) := by decide +kernel
theorem dX7_image_193 : decode cX7_image 193 = .ok (.iload_n 1, 1) := by decide +kernel
theorem dX7_image_194 : decode cX7_image 194 = .ok (.aload_n 0, 1) := by decide +kernel
theorem dX7_image_195 : decode cX7_image 195 = .ok (.getfield 152, 3) := by decide +kernel
theorem dX7_image_198 : decode cX7_image 198 = .ok (.iload_n 1, 1) := by decide +kernel
theorem dX7_image_199 : decode cX7_image 199 = .ok (.iaload, 1) := by decide +kernel
theorem dX7_image_200 : decode cX7_image 200 = .ok (.iastore, 1) := by decide +kernel
theorem dX7_image_201 : decode cX7_image 201 = .ok (.iinc 1 1, 3) := by decide +kernel
theorem dX7_image_204 : decode cX7_image 204 = .ok (.goto (-21), 3) := by decide +kernel
theorem dX7_image_207 : decode cX7_image 207 = .ok (.aload_n 0, 1) := by decide +kernel
theorem dX7_image_208 : decode cX7_image 208 = .ok (.getfield 1, 3) := by decide +kernel
theorem dX7_image_211 : decode cX7_image 211 = .ok (.ireturn, 1) := by decide +kernel
theorem dX7_in_0 : decode cX7_in 0 = .ok (.iload_n 1, 1) := by decide +kernel
theorem dX7_in_1 : decode cX7_in 1 = .ok (.iload_n 2, 1) := by decide +kernel
theorem dX7_in_2 : decode cX7_in 2 = .ok (.if_icmp .lt 12, 3) := by decide +kernel
theorem dX7_in_5 : decode cX7_in 5 = .ok (.iload_n 1, 1) := by decide +kernel
theorem dX7_in_6 : decode cX7_in 6 = .ok (.iload_n 3, 1) := by decide +kernel
theorem dX7_in_7 : decode cX7_in 7 = .ok (.if_icmp .gt 7, 3) := by decide +kernel
theorem dX7_in_10 : decode cX7_in 10 = .ok (.iconst 1, 1) := by decide +kernel
theorem dX7_in_11 : decode cX7_in 11 = .ok (.goto 4, 3) := by decide +kernel
theorem dX7_in_14 : decode cX7_in 14 = .ok (.iconst 0, 1) := by decide +kernel
theorem dX7_in_15 : decode cX7_in 15 = .ok (.ireturn, 1) := by decide +kernel
theorem dX7_isDigit_0 : decode cX7_isDigit 0 = .ok (.aload_n 0, 1) := by decide +kernel
theorem dX7_isDigit_1 : decode cX7_isDigit 1 = .ok (.aload_n 0, 1) := by decide +kernel
theorem dX7_isDigit_2 : decode cX7_isDigit 2 = .ok (.invokevirtual 241, 3) := by decide +kernel
theorem dX7_isDigit_5 : decode cX7_isDigit 5 = .ok (.bipush 48, 2) := by decide +kernel
theorem dX7_isDigit_7 : decode cX7_isDigit 7 = .ok (.bipush 57, 2) := by decide +kernel
theorem dX7_isDigit_9 : decode cX7_isDigit 9 = .ok (.invokevirtual 7, 3) := by decide +kernel
theorem dX7_isDigit_12 : decode cX7_isDigit 12 = .ok (.ireturn, 1) := by decide +kernel
theorem dX7_isDraw_0 : decode cX7_isDraw 0 = .ok (.aload_n 0, 1) := by decide +kernel
theorem dX7_isDraw_1 : decode cX7_isDraw 1 = .ok (.iload_n 1, 1) := by decide +kernel
theorem dX7_isDraw_2 : decode cX7_isDraw 2 = .ok (.iconst 0, 1) := by decide +kernel
theorem dX7_isDraw_3 : decode cX7_isDraw 3 = .ok (.ldc 11, 2) := by decide +kernel
theorem dX7_isDraw_5 : decode cX7_isDraw 5 = .ok (.invokevirtual 7, 3) := by decide +kernel
theorem dX7_isDraw_8 : decode cX7_isDraw 8 = .ok (.ireturn, 1) := by decide +kernel
theorem dX7_isDrawer_0 : decode cX7_isDrawer 0 = .ok (.aload_n 0, 1) := by decide +kernel
theorem dX7_isDrawer_1 : decode cX7_isDrawer 1 = .ok (.iload_n 1, 1) := by decide +kernel
theorem dX7_isDrawer_2 : decode cX7_isDrawer 2 = .ok (.iconst 0, 1) := by decide +kernel
theorem dX7_isDrawer_3 : decode cX7_isDrawer 3 = .ok (.aload_n 0, 1) := by decide +kernel
theorem dX7_isDrawer_4 : decode cX7_isDrawer 4 = .ok (.getfield 1, 3) := by decide +kernel
theorem dX7_isDrawer_7 : decode cX7_isDrawer 7 = .ok (.iconst 1, 1) := by decide +kernel
theorem dX7_isDrawer_8 : decode cX7_isDrawer 8 = .ok (.isub, 1) := by decide +kernel
theorem dX7_isDrawer_9 : decode cX7_isDrawer 9 = .ok (.invokevirtual 7, 3) := by decide +kernel
theorem dX7_isDrawer_12 : decode cX7_isDrawer 12 = .ok (.ireturn, 1) := by decide +kernel
theorem dX7_isEnd_0 : decode cX7_isEnd 0 = .ok (.aload_n 0, 1) := by decide +kernel
theorem dX7_isEnd_1 : decode cX7_isEnd 1 = .ok (.getfield 21, 3) := by decide +kernel
theorem dX7_isEnd_4 : decode cX7_isEnd 4 = .ok (.ifCond .eq 14, 3) := by decide +kernel
theorem dX7_isEnd_7 : decode cX7_isEnd 7 = .ok (.aload_n 0, 1) := by decide +kernel
theorem dX7_isEnd_8 : decode cX7_isEnd 8 = .ok (.getfield 27, 3) := by decide +kernel
theorem dX7_isEnd_11 : decode cX7_isEnd 11 = .ok (.aload_n 0, 1) := by decide +kernel
theorem dX7_isEnd_12 : decode cX7_isEnd 12 = .ok (.getfield 1, 3) := by decide +kernel
theorem dX7_isEnd_15 : decode cX7_isEnd 15 = .ok (.if_icmp .ne 7, 3) := by decide +kernel
theorem dX7_isEnd_18 : decode cX7_isEnd 18 = .ok (.iconst 1, 1) := by decide +kernel
theorem dX7_isEnd_19 : decode cX7_isEnd 19 = .ok (.goto 4, 3) := by decide +kernel
theorem dX7_isEnd_22 : decode cX7_isEnd 22 = .ok (.iconst 0, 1) := by decide +kernel
theorem dX7_isEnd_23 : decode cX7_isEnd 23 = .ok (.ireturn, 1) := by decide +kernel
theorem dX7_isSeen_0 : decode cX7_isSeen 0 = .ok (.aload_n 0, 1) := by decide +kernel
theorem dX7_isSeen_1 : decode cX7_isSeen 1 = .ok (.invokevirtual 375, 3) := by decide +kernel
theorem dX7_isSeen_4 : decode cX7_isSeen 4 = .ok (.aload_n 0, 1) := by decide +kernel
theorem dX7_isSeen_5 : decode cX7_isSeen 5 = .ok (.invokevirtual 226, 3) := by decide +kernel
theorem dX7_isSeen_8 : decode cX7_isSeen 8 = .ok (.aload_n 0, 1) := by decide +kernel
theorem dX7_isSeen_9 : decode cX7_isSeen 9 = .ok (.getfield 21, 3) := by decide +kernel
theorem dX7_isSeen_12 : decode cX7_isSeen 12 = .ok (.aload_n 0, 1) := by decide +kernel
theorem dX7_isSeen_13 : decode cX7_isSeen 13 = .ok (.getfield 24, 3) := by decide +kernel
theorem dX7_isSeen_16 : decode cX7_isSeen 16 = .ok (.iadd, 1) := by decide +kernel
theorem dX7_isSeen_17 : decode cX7_isSeen 17 = .ok (.istore_n 2, 1) := by decide +kernel
theorem dX7_isSeen_18 : decode cX7_isSeen 18 = .ok (.aload_n 0, 1) := by decide +kernel
theorem dX7_isSeen_19 : decode cX7_isSeen 19 = .ok (.iload_n 1, 1) := by decide +kernel
theorem dX7_isSeen_20 : decode cX7_isSeen 20 = .ok (.putfield 21, 3) := by decide +kernel
theorem dX7_isSeen_23 : decode cX7_isSeen 23 = .ok (.aload_n 0, 1) := by decide +kernel
theorem dX7_isSeen_24 : decode cX7_isSeen 24 = .ok (.iload_n 2, 1) := by decide +kernel
theorem dX7_isSeen_25 : decode cX7_isSeen 25 = .ok (.iload_n 1, 1) := by decide +kernel
theorem dX7_isSeen_26 : decode cX7_isSeen 26 = .ok (.if_icmp .ge 7, 3) := by decide +kernel
theorem dX7_isSeen_29 : decode cX7_isSeen 29 = .ok (.iconst 0, 1) := by decide +kernel
theorem dX7_isSeen_30 : decode cX7_isSeen 30 = .ok (.goto 6, 3) := by decide +kernel
theorem dX7_isSeen_33 : decode cX7_isSeen 33 = .ok (.iload_n 2, 1) := by decide +kernel
theorem dX7_isSeen_34 : decode cX7_isSeen 34 = .ok (.iload_n 1, 1) := by decide +kernel
theorem dX7_isSeen_35 : decode cX7_isSeen 35 = .ok (.isub, 1) := by decide +kernel
theorem dX7_isSeen_36 : decode cX7_isSeen 36 = .ok (.putfield 24, 3) := by decide +kernel
theorem dX7_isSeen_39 : decode cX7_isSeen 39 = .ok (.iconst 1, 1) := by decide +kernel
theorem dX7_isSeen_40 : decode cX7_isSeen 40 = .ok (.istore_n 3, 1) := by decide +kernel
theorem dX7_isSeen_41 : decode cX7_isSeen 41 = .ok (.iconst 0, 1) := by decide +kernel
theorem dX7_isSeen_42 : decode cX7_isSeen 42 = .ok (.istore 4, 2) := by decide +kernel
theorem dX7_isSeen_44 : decode cX7_isSeen 44 = .ok (.iload 4, 2) := by decide +kernel
theorem dX7_isSeen_46 : decode cX7_isSeen 46 = .ok (.aload_n 0, 1) := by decide +kernel
theorem dX7_isSeen_47 : decode cX7_isSeen 47 = .ok (.getfield 140, 3) := by decide +kernel
theorem dX7_isSeen_50 : decode cX7_isSeen 50 = .ok (.if_icmp .ge 47, 3) := by decide +kernel
theorem dX7_isSeen_53 : decode cX7_isSeen 53 = .ok (.iload_n 3, 1) := by decide +kernel
theorem dX7_isSeen_54 : decode cX7_isSeen 54 = .ok (.ifCond .eq 43, 3) := by decide +kernel
theorem dX7_isSeen_57 : decode cX7_isSeen 57 = .ok (.aload_n 0, 1) := by decide +kernel
theorem dX7_isSeen_58 : decode cX7_isSeen 58 = .ok (.invokevirtual 339, 3) := by decide +kernel
theorem dX7_isSeen_61 : decode cX7_isSeen 61 = .ok (.ifCond .ne 28, 3) := by decide +kernel
theorem dX7_isSeen_64 : decode cX7_isSeen 64 = .ok (.aload_n 0, 1) := by decide +kernel
theorem dX7_isSeen_65 : decode cX7_isSeen 65 = .ok (.aload_n 0, 1) := by decide +kernel
theorem dX7_isSeen_66 : decode cX7_isSeen 66 = .ok (.getfield 143, 3) := by decide +kernel
theorem dX7_isSeen_69 : decode cX7_isSeen 69 = .ok (.iload 4, 2) := by decide +kernel
theorem dX7_isSeen_71 : decode cX7_isSeen 71 = .ok (.iaload, 1) := by decide +kernel
theorem dX7_isSeen_72 : decode cX7_isSeen 72 = .ok (.invokevirtual 336, 3) := by decide +kernel
theorem dX7_isSeen_75 : decode cX7_isSeen 75 = .ok (.aload_n 0, 1) := by decide +kernel
theorem dX7_isSeen_76 : decode cX7_isSeen 76 = .ok (.getfield 146, 3) := by decide +kernel
theorem dX7_isSeen_79 : decode cX7_isSeen 79 = .ok (.iload 4, 2) := by decide +kernel
theorem dX7_isSeen_81 : decode cX7_isSeen 81 = .ok (.baload, 1) := by decide +kernel
theorem dX7_isSeen_82 : decode cX7_isSeen 82 = .ok (.if_icmp .ne 7, 3) := by decide +kernel
theorem dX7_isSeen_85 : decode cX7_isSeen 85 = .ok (.iconst 1, 1) := by decide +kernel
theorem dX7_isSeen_86 : decode cX7_isSeen 86 = .ok (.goto 4, 3) := by decide +kernel
theorem dX7_isSeen_89 : decode cX7_isSeen 89 = .ok (.iconst 0, 1) := by decide +kernel
theorem dX7_isSeen_90 : decode cX7_isSeen 90 = .ok (.istore_n 3, 1) := by decide +kernel
theorem dX7_isSeen_91 : decode cX7_isSeen 91 = .ok (.iinc 4 1, 3) := by decide +kernel
theorem dX7_isSeen_94 : decode cX7_isSeen 94 = .ok (.goto (-50), 3) := by decide +kernel
theorem dX7_isSeen_97 : decode cX7_isSeen 97 = .ok (.aload_n 0, 1) := by decide +kernel
theorem dX7_isSeen_98 : decode cX7_isSeen 98 = .ok (.invokevirtual 378, 3) := by decide +kernel
theorem dX7_isSeen_101 : decode cX7_isSeen 101 = .ok (.iload_n 3, 1) := by decide +kernel
theorem dX7_isSeen_102 : decode cX7_isSeen 102 = .ok (.ireturn, 1) := by decide +kernel
theorem dX7_isTape_0 : decode cX7_isTape 0 = .ok (.aload_n 0, 1) := by decide +kernel
theorem dX7_isTape_1 : decode cX7_isTape 1 = .ok (.iload_n 1, 1) := by decide +kernel
theorem dX7_isTape_2 : decode cX7_isTape 2 = .ok (.iconst 0, 1) := by decide +kernel
theorem dX7_isTape_3 : decode cX7_isTape 3 = .ok (.iconst 5, 1) := by decide +kernel
theorem dX7_isTape_4 : decode cX7_isTape 4 = .ok (.invokevirtual 7, 3) := by decide +kernel
theorem dX7_isTape_7 : decode cX7_isTape 7 = .ok (.ireturn, 1) := by decide +kernel
theorem dX7_item_0 : decode cX7_item 0 = .ok (.aload_n 0, 1) := by decide +kernel
theorem dX7_item_1 : decode cX7_item 1 = .ok (.iload_n 1, 1) := by decide +kernel
theorem dX7_item_2 : decode cX7_item 2 = .ok (.invokevirtual 384, 3) := by decide +kernel
theorem dX7_item_5 : decode cX7_item 5 = .ok (.ifCond .ne 5, 3) := by decide +kernel
theorem dX7_item_8 : decode cX7_item 8 = .ok (.iconst (-1), 1) := by decide +kernel
theorem dX7_item_9 : decode cX7_item 9 = .ok (.ireturn, 1) := by decide +kernel
theorem dX7_item_10 : decode cX7_item 10 = .ok (.aload_n 0, 1) := by decide +kernel
theorem dX7_item_11 : decode cX7_item 11 = .ok (.getfield 213, 3) := by decide +kernel
theorem dX7_item_14 : decode cX7_item 14 = .ok (.iload_n 1, 1) := by decide +kernel
theorem dX7_item_15 : decode cX7_item 15 = .ok (.iaload, 1) := by decide +kernel
theorem dX7_item_16 : decode cX7_item 16 = .ok (.ifCond .ge 6, 3) := by decide +kernel
theorem dX7_item_19 : decode cX7_item 19 = .ok (.bipush (-11), 2) := by decide +kernel
theorem dX7_item_21 : decode cX7_item 21 = .ok (.ireturn, 1) := by decide +kernel
theorem dX7_item_22 : decode cX7_item 22 = .ok (.aload_n 0, 1) := by decide +kernel
theorem dX7_item_23 : decode cX7_item 23 = .ok (.iload_n 2, 1) := by decide +kernel
theorem dX7_item_24 : decode cX7_item 24 = .ok (.iconst 0, 1) := by decide +kernel
theorem dX7_item_25 : decode cX7_item 25 = .ok (.aload_n 0, 1) := by decide +kernel
theorem dX7_item_26 : decode cX7_item 26 = .ok (.getfield 216, 3) := by decide +kernel
theorem dX7_item_29 : decode cX7_item 29 = .ok (.iload_n 1, 1) := by decide +kernel
theorem dX7_item_30 : decode cX7_item 30 = .ok (.iaload, 1) := by decide +kernel
theorem dX7_item_31 : decode cX7_item 31 = .ok (.iconst 1, 1) := by decide +kernel
theorem dX7_item_32 : decode cX7_item 32 = .ok (.isub, 1) := by decide +kernel
theorem dX7_item_33 : decode cX7_item 33 = .ok (.invokevirtual 7, 3) := by decide +kernel
theorem dX7_item_36 : decode cX7_item 36 = .ok (.ifCond .ne 6, 3) := by decide +kernel
theorem dX7_item_39 : decode cX7_item 39 = .ok (.bipush (-13), 2) := by decide +kernel
theorem dX7_item_41 : decode cX7_item 41 = .ok (.ireturn, 1) := by decide +kernel
theorem dX7_item_42 : decode cX7_item 42 = .ok (.aload_n 0, 1) := by decide +kernel
theorem dX7_item_43 : decode cX7_item 43 = .ok (.getfield 219, 3) := by decide +kernel
theorem dX7_item_46 : decode cX7_item 46 = .ok (.bipush 60, 2) := by decide +kernel
theorem dX7_item_48 : decode cX7_item 48 = .ok (.iload_n 1, 1) := by decide +kernel
theorem dX7_item_49 : decode cX7_item 49 = .ok (.imul, 1) := by decide +kernel
theorem dX7_item_50 : decode cX7_item 50 = .ok (.iload_n 2, 1) := by decide +kernel
theorem dX7_item_51 : decode cX7_item 51 = .ok (.iadd, 1) := by decide +kernel
theorem dX7_item_52 : decode cX7_item 52 = .ok (.aload_n 0, 1) := by decide +kernel
theorem dX7_item_53 : decode cX7_item 53 = .ok (.aload_n 0, 1) := by decide +kernel
theorem dX7_item_54 : decode cX7_item 54 = .ok (.getfield 213, 3) := by decide +kernel
theorem dX7_item_57 : decode cX7_item 57 = .ok (.iload_n 1, 1) := by decide +kernel
theorem dX7_item_58 : decode cX7_item 58 = .ok (.iaload, 1) := by decide +kernel
theorem dX7_item_59 : decode cX7_item 59 = .ok (.lload_n 3, 1) := by decide +kernel
theorem dX7_item_60 : decode cX7_item 60 = .ok (.invokevirtual 411, 3) := by decide +kernel
theorem dX7_item_63 : decode cX7_item 63 = .ok (.lastore, 1) := by decide +kernel
theorem dX7_item_64 : decode cX7_item 64 = .ok (.iconst 1, 1) := by decide +kernel
theorem dX7_item_65 : decode cX7_item 65 = .ok (.ireturn, 1) := by decide +kernel
theorem dX7_judge_0 : decode cX7_judge 0 = .ok (.aload_n 0, 1) := by decide +kernel
theorem dX7_judge_1 : decode cX7_judge 1 = .ok (.iload_n 1, 1) := by decide +kernel
theorem dX7_judge_2 : decode cX7_judge 2 = .ok (.invokevirtual 384, 3) := by decide +kernel
theorem dX7_judge_5 : decode cX7_judge 5 = .ok (.ifCond .ne 5, 3) := by decide +kernel
theorem dX7_judge_8 : decode cX7_judge 8 = .ok (.iconst (-1), 1) := by decide +kernel
theorem dX7_judge_9 : decode cX7_judge 9 = .ok (.ireturn, 1) := by decide +kernel
theorem dX7_judge_10 : decode cX7_judge 10 = .ok (.aload_n 0, 1) := by decide +kernel
theorem dX7_judge_11 : decode cX7_judge 11 = .ok (.getfield 213, 3) := by decide +kernel
theorem dX7_judge_14 : decode cX7_judge 14 = .ok (.iload_n 1, 1) := by decide +kernel
theorem dX7_judge_15 : decode cX7_judge 15 = .ok (.iaload, 1) := by decide +kernel
theorem dX7_judge_16 : decode cX7_judge 16 = .ok (.ifCond .lt 16, 3) := by decide +kernel
theorem dX7_judge_19 : decode cX7_judge 19 = .ok (.aload_n 0, 1) := by decide +kernel
theorem dX7_judge_20 : decode cX7_judge 20 = .ok (.getfield 213, 3) := by decide +kernel
theorem dX7_judge_23 : decode cX7_judge 23 = .ok (.iload_n 1, 1) := by decide +kernel
theorem dX7_judge_24 : decode cX7_judge 24 = .ok (.iaload, 1) := by decide +kernel
theorem dX7_judge_25 : decode cX7_judge 25 = .ok (.iconst 2, 1) := by decide +kernel
theorem dX7_judge_26 : decode cX7_judge 26 = .ok (.if_icmp .eq 6, 3) := by decide +kernel
theorem dX7_judge_29 : decode cX7_judge 29 = .ok (.bipush (-12), 2) := by decide +kernel
theorem dX7_judge_31 : decode cX7_judge 31 = .ok (.ireturn, 1) := by decide +kernel
theorem dX7_judge_32 : decode cX7_judge 32 = .ok (.iconst 0, 1) := by decide +kernel
theorem dX7_judge_33 : decode cX7_judge 33 = .ok (.istore_n 3, 1) := by decide +kernel
theorem dX7_judge_34 : decode cX7_judge 34 = .ok (.iload_n 3, 1) := by decide +kernel
theorem dX7_judge_35 : decode cX7_judge 35 = .ok (.aload_n 0, 1) := by decide +kernel
theorem dX7_judge_36 : decode cX7_judge 36 = .ok (.getfield 1, 3) := by decide +kernel
theorem dX7_judge_39 : decode cX7_judge 39 = .ok (.if_icmp .ge 67, 3) := by decide +kernel
theorem dX7_judge_42 : decode cX7_judge 42 = .ok (.aload_n 0, 1) := by decide +kernel
theorem dX7_judge_43 : decode cX7_judge 43 = .ok (.getfield 213, 3) := by decide +kernel
theorem dX7_judge_46 : decode cX7_judge 46 = .ok (.iload_n 1, 1) := by decide +kernel
theorem dX7_judge_47 : decode cX7_judge 47 = .ok (.iaload, 1) := by decide +kernel
theorem dX7_judge_48 : decode cX7_judge 48 = .ok (.ifCond .lt 21, 3) := by decide +kernel
theorem dX7_judge_51 : decode cX7_judge 51 = .ok (.iload_n 2, 1) := by decide +kernel
theorem dX7_judge_52 : decode cX7_judge 52 = .ok (.ifCond .lt 17, 3) := by decide +kernel
theorem dX7_judge_55 : decode cX7_judge 55 = .ok (.iload_n 2, 1) := by decide +kernel
theorem dX7_judge_56 : decode cX7_judge 56 = .ok (.aload_n 0, 1) := by decide +kernel
theorem dX7_judge_57 : decode cX7_judge 57 = .ok (.getfield 216, 3) := by decide +kernel
theorem dX7_judge_60 : decode cX7_judge 60 = .ok (.iload_n 1, 1) := by decide +kernel
theorem dX7_judge_61 : decode cX7_judge 61 = .ok (.iaload, 1) := by decide +kernel
theorem dX7_judge_62 : decode cX7_judge 62 = .ok (.iload_n 3, 1) := by decide +kernel
theorem dX7_judge_63 : decode cX7_judge 63 = .ok (.isub, 1) := by decide +kernel
theorem dX7_judge_64 : decode cX7_judge 64 = .ok (.iconst 1, 1) := by decide +kernel
theorem dX7_judge_65 : decode cX7_judge 65 = .ok (.isub, 1) := by decide +kernel
theorem dX7_judge_66 : decode cX7_judge 66 = .ok (.if_icmp .le 8, 3) := by decide +kernel
theorem dX7_judge_69 : decode cX7_judge 69 = .ok (.bipush 100, 2) := by decide +kernel
theorem dX7_judge_71 : decode cX7_judge 71 = .ok (.iload_n 3, 1) := by decide +kernel
theorem dX7_judge_72 : decode cX7_judge 72 = .ok (.iadd, 1) := by decide +kernel
theorem dX7_judge_73 : decode cX7_judge 73 = .ok (.ireturn, 1) := by decide +kernel
theorem dX7_judge_74 : decode cX7_judge 74 = .ok (.aload_n 0, 1) := by decide +kernel
theorem dX7_judge_75 : decode cX7_judge 75 = .ok (.getfield 219, 3) := by decide +kernel
theorem dX7_judge_78 : decode cX7_judge 78 = .ok (.bipush 60, 2) := by decide +kernel
theorem dX7_judge_80 : decode cX7_judge 80 = .ok (.iload_n 1, 1) := by decide +kernel
theorem dX7_judge_81 : decode cX7_judge 81 = .ok (.imul, 1) := by decide +kernel
theorem dX7_judge_82 : decode cX7_judge 82 = .ok (.iload_n 2, 1) := by decide +kernel
theorem dX7_judge_83 : decode cX7_judge 83 = .ok (.iadd, 1) := by decide +kernel
theorem dX7_judge_84 : decode cX7_judge 84 = .ok (.iload_n 3, 1) := by decide +kernel
theorem dX7_judge_85 : decode cX7_judge 85 = .ok (.iadd, 1) := by decide +kernel
theorem dX7_judge_86 : decode cX7_judge 86 = .ok (.laload, 1) := by decide +kernel
theorem dX7_judge_87 : decode cX7_judge 87 = .ok (.aload_n 0, 1) := by decide +kernel
theorem dX7_judge_88 : decode cX7_judge 88 = .ok (.getfield 37, 3) := by decide +kernel
theorem dX7_judge_91 : decode cX7_judge 91 = .ok (.iload_n 3, 1) := by decide +kernel
theorem dX7_judge_92 : decode cX7_judge 92 = .ok (.iaload, 1) := by decide +kernel
theorem dX7_judge_93 : decode cX7_judge 93 = .ok (.i2l, 1) := by decide +kernel
theorem dX7_judge_94 : decode cX7_judge 94 = .ok (.lcmp, 1) := by decide +kernel
theorem dX7_judge_95 : decode cX7_judge 95 = .ok (.ifCond .eq 5, 3) := by decide +kernel
theorem dX7_judge_98 : decode cX7_judge 98 = .ok (.iload_n 3, 1) := by decide +kernel
theorem dX7_judge_99 : decode cX7_judge 99 = .ok (.ireturn, 1) := by decide +kernel
theorem dX7_judge_100 : decode cX7_judge 100 = .ok (.iinc 3 1, 3) := by decide +kernel
theorem dX7_judge_103 : decode cX7_judge 103 = .ok (.goto (-69), 3) := by decide +kernel
theorem dX7_judge_106 : decode cX7_judge 106 = .ok (.bipush (-5), 2) := by decide +kernel
theorem dX7_judge_108 : decode cX7_judge 108 = .ok (.ireturn, 1) := by decide +kernel
theorem dX7_keenShows_0 : decode cX7_keenShows 0 = .ok (.aload_n 0, 1) := by decide +kernel
theorem dX7_keenShows_1 : decode cX7_keenShows 1 = .ok (.bipush 20, 2) := by decide +kernel
theorem dX7_keenShows_3 : decode cX7_keenShows 3 = .ok (.invokevirtual 387, 3) := by decide +kernel
theorem dX7_keenShows_6 : decode cX7_keenShows 6 = .ok (.aload_n 0, 1) := by decide +kernel
theorem dX7_keenShows_7 : decode cX7_keenShows 7 = .ok (.iload_n 1, 1) := by decide +kernel
theorem dX7_keenShows_8 : decode cX7_keenShows 8 = .ok (.iload_n 2, 1) := by decide +kernel
theorem dX7_keenShows_9 : decode cX7_keenShows 9 = .ok (.invokevirtual 396, 3) := by decide +kernel
theorem dX7_keenShows_12 : decode cX7_keenShows 12 = .ok (.bipush 6, 2) := by decide +kernel
theorem dX7_keenShows_14 : decode cX7_keenShows 14 = .ok (.ixor, 1) := by decide +kernel
theorem dX7_keenShows_15 : decode cX7_keenShows 15 = .ok (.ireturn, 1) := by decide +kernel
theorem dX7_keenly_0 : decode cX7_keenly 0 = .ok (.aload_n 0, 1) := by decide +kernel
theorem dX7_keenly_1 : decode cX7_keenly 1 = .ok (.iload_n 1, 1) := by decide +kernel
theorem dX7_keenly_2 : decode cX7_keenly 2 = .ok (.invokevirtual 315, 3) := by decide +kernel
theorem dX7_keenly_5 : decode cX7_keenly 5 = .ok (.aload_n 0, 1) := by decide +kernel
theorem dX7_keenly_6 : decode cX7_keenly 6 = .ok (.getfield 34, 3) := by decide +kernel
theorem dX7_keenly_9 : decode cX7_keenly 9 = .ok (.iload_n 1, 1) := by decide +kernel
theorem dX7_keenly_10 : decode cX7_keenly 10 = .ok (.iaload, 1) := by decide +kernel
theorem dX7_keenly_11 : decode cX7_keenly 11 = .ok (.isub, 1) := by decide +kernel
theorem dX7_keenly_12 : decode cX7_keenly 12 = .ok (.istore_n 2, 1) := by decide +kernel
theorem dX7_keenly_13 : decode cX7_keenly 13 = .ok (.iload_n 2, 1) := by decide +kernel
theorem dX7_keenly_14 : decode cX7_keenly 14 = .ok (.ifCond .ge 7, 3) := by decide +kernel
theorem dX7_keenly_17 : decode cX7_keenly 17 = .ok (.iconst 0, 1) := by decide +kernel
theorem dX7_keenly_18 : decode cX7_keenly 18 = .ok (.goto 4, 3) := by decide +kernel
theorem dX7_keenly_21 : decode cX7_keenly 21 = .ok (.iload_n 2, 1) := by decide +kernel
theorem dX7_keenly_22 : decode cX7_keenly 22 = .ok (.ireturn, 1) := by decide +kernel
theorem dX7_keepOrder_0 : decode cX7_keepOrder 0 = .ok (.iconst 0, 1) := by decide +kernel
theorem dX7_keepOrder_1 : decode cX7_keepOrder 1 = .ok (.istore_n 1, 1) := by decide +kernel
theorem dX7_keepOrder_2 : decode cX7_keepOrder 2 = .ok (.iload_n 1, 1) := by decide +kernel
theorem dX7_keepOrder_3 : decode cX7_keepOrder 3 = .ok (.bipush 6, 2) := by decide +kernel
theorem dX7_keepOrder_5 : decode cX7_keepOrder 5 = .ok (.if_icmp .ge 21, 3) := by decide +kernel
theorem dX7_keepOrder_8 : decode cX7_keepOrder 8 = .ok (.aload_n 0, 1) := by decide +kernel
theorem dX7_keepOrder_9 : decode cX7_keepOrder 9 = .ok (.getfield 122, 3) := by decide +kernel
theorem dX7_keepOrder_12 : decode cX7_keepOrder 12 = .ok (.iload_n 1, 1) := by decide +kernel
theorem dX7_keepOrder_13 : decode cX7_keepOrder 13 = .ok (.aload_n 0, 1) := by decide +kernel
theorem dX7_keepOrder_14 : decode cX7_keepOrder 14 = .ok (.getfield 43, 3) := by decide +kernel
theorem dX7_keepOrder_17 : decode cX7_keepOrder 17 = .ok (.iload_n 1, 1) := by decide +kernel
theorem dX7_keepOrder_18 : decode cX7_keepOrder 18 = .ok (.iaload, 1) := by decide +kernel
theorem dX7_keepOrder_19 : decode cX7_keepOrder 19 = .ok (.iastore, 1) := by decide +kernel
theorem dX7_keepOrder_20 : decode cX7_keepOrder 20 = .ok (.iinc 1 1, 3) := by decide +kernel
theorem dX7_keepOrder_23 : decode cX7_keepOrder 23 = .ok (.goto (-21), 3) := by decide +kernel
theorem dX7_keepOrder_26 : decode cX7_keepOrder 26 = .ok (.return_, 1) := by decide +kernel
theorem dX7_lastOf_0 : decode cX7_lastOf 0 = .ok (.iload_n 2, 1) := by decide +kernel
theorem dX7_lastOf_1 : decode cX7_lastOf 1 = .ok (.istore_n 3, 1) := by decide +kernel
theorem dX7_lastOf_2 : decode cX7_lastOf 2 = .ok (.aload_n 0, 1) := by decide +kernel
theorem dX7_lastOf_3 : decode cX7_lastOf 3 = .ok (.invokevirtual 293, 3) := by decide +kernel
theorem dX7_lastOf_6 : decode cX7_lastOf 6 = .ok (.istore 4, 2) := by decide +kernel
theorem dX7_lastOf_8 : decode cX7_lastOf 8 = .ok (.iload 4, 2) := by decide +kernel
theorem dX7_lastOf_10 : decode cX7_lastOf 10 = .ok (.aload_n 0, 1) := by decide +kernel
theorem dX7_lastOf_11 : decode cX7_lastOf 11 = .ok (.invokevirtual 296, 3) := by decide +kernel
theorem dX7_lastOf_14 : decode cX7_lastOf 14 = .ok (.if_icmp .ge 32, 3) := by decide +kernel
theorem dX7_lastOf_17 : decode cX7_lastOf 17 = .ok (.aload_n 0, 1) := by decide +kernel
theorem dX7_lastOf_18 : decode cX7_lastOf 18 = .ok (.getfield 67, 3) := by decide +kernel
theorem dX7_lastOf_21 : decode cX7_lastOf 21 = .ok (.iload 4, 2) := by decide +kernel
theorem dX7_lastOf_23 : decode cX7_lastOf 23 = .ok (.iaload, 1) := by decide +kernel
theorem dX7_lastOf_24 : decode cX7_lastOf 24 = .ok (.iload_n 1, 1) := by decide +kernel
theorem dX7_lastOf_25 : decode cX7_lastOf 25 = .ok (.if_icmp .ne 13, 3) := by decide +kernel
theorem dX7_lastOf_28 : decode cX7_lastOf 28 = .ok (.aload_n 0, 1) := by decide +kernel
theorem dX7_lastOf_29 : decode cX7_lastOf 29 = .ok (.getfield 70, 3) := by decide +kernel
theorem dX7_lastOf_32 : decode cX7_lastOf 32 = .ok (.iload 4, 2) := by decide +kernel
theorem dX7_lastOf_34 : decode cX7_lastOf 34 = .ok (.iaload, 1) := by decide +kernel
theorem dX7_lastOf_35 : decode cX7_lastOf 35 = .ok (.goto 4, 3) := by decide +kernel
theorem dX7_lastOf_38 : decode cX7_lastOf 38 = .ok (.iload_n 3, 1) := by decide +kernel
theorem dX7_lastOf_39 : decode cX7_lastOf 39 = .ok (.istore_n 3, 1) := by decide +kernel
theorem dX7_lastOf_40 : decode cX7_lastOf 40 = .ok (.iinc 4 1, 3) := by decide +kernel
theorem dX7_lastOf_43 : decode cX7_lastOf 43 = .ok (.goto (-35), 3) := by decide +kernel
theorem dX7_lastOf_46 : decode cX7_lastOf 46 = .ok (.iload_n 3, 1) := by decide +kernel
theorem dX7_lastOf_47 : decode cX7_lastOf 47 = .ok (.ireturn, 1) := by decide +kernel
theorem dX7_layFist_0 : decode cX7_layFist 0 = .ok (.aload_n 0, 1) := by decide +kernel
theorem dX7_layFist_1 : decode cX7_layFist 1 = .ok (.aload_n 0, 1) := by decide +kernel
theorem dX7_layFist_2 : decode cX7_layFist 2 = .ok (.invokevirtual 303, 3) := by decide +kernel
theorem dX7_layFist_5 : decode cX7_layFist 5 = .ok (.putfield 21, 3) := by decide +kernel
theorem dX7_layFist_8 : decode cX7_layFist 8 = .ok (.aload_n 0, 1) := by decide +kernel
theorem dX7_layFist_9 : decode cX7_layFist 9 = .ok (.aload_n 0, 1) := by decide +kernel
theorem dX7_layFist_10 : decode cX7_layFist 10 = .ok (.invokevirtual 306, 3) := by decide +kernel
theorem dX7_layFist_13 : decode cX7_layFist 13 = .ok (.putfield 24, 3) := by decide +kernel
theorem dX7_layFist_16 : decode cX7_layFist 16 = .ok (.aload_n 0, 1) := by decide +kernel
theorem dX7_layFist_17 : decode cX7_layFist 17 = .ok (.iconst 0, 1) := by decide +kernel
theorem dX7_layFist_18 : decode cX7_layFist 18 = .ok (.putfield 27, 3) := by decide +kernel
theorem dX7_layFist_21 : decode cX7_layFist 21 = .ok (.return_, 1) := by decide +kernel
theorem dX7_layLikely_0 : decode cX7_layLikely 0 = .ok (.aload_n 0, 1) := by decide +kernel
theorem dX7_layLikely_1 : decode cX7_layLikely 1 = .ok (.invokevirtual 303, 3) := by decide +kernel
theorem dX7_layLikely_4 : decode cX7_layLikely 4 = .ok (.istore_n 1, 1) := by decide +kernel
theorem dX7_layLikely_5 : decode cX7_layLikely 5 = .ok (.iload_n 1, 1) := by decide +kernel
theorem dX7_layLikely_6 : decode cX7_layLikely 6 = .ok (.aload_n 0, 1) := by decide +kernel
theorem dX7_layLikely_7 : decode cX7_layLikely 7 = .ok (.invokevirtual 306, 3) := by decide +kernel
theorem dX7_layLikely_10 : decode cX7_layLikely 10 = .ok (.iadd, 1) := by decide +kernel
theorem dX7_layLikely_11 : decode cX7_layLikely 11 = .ok (.aload_n 0, 1) := by decide +kernel
theorem dX7_layLikely_12 : decode cX7_layLikely 12 = .ok (.getfield 119, 3) := by decide +kernel
theorem dX7_layLikely_15 : decode cX7_layLikely 15 = .ok (.iadd, 1) := by decide +kernel
theorem dX7_layLikely_16 : decode cX7_layLikely 16 = .ok (.istore_n 2, 1) := by decide +kernel
theorem dX7_layLikely_17 : decode cX7_layLikely 17 = .ok (.iconst 0, 1) := by decide +kernel
theorem dX7_layLikely_18 : decode cX7_layLikely 18 = .ok (.istore_n 3, 1) := by decide +kernel
theorem dX7_layLikely_19 : decode cX7_layLikely 19 = .ok (.iload_n 3, 1) := by decide +kernel
theorem dX7_layLikely_20 : decode cX7_layLikely 20 = .ok (.iconst 5, 1) := by decide +kernel
theorem dX7_layLikely_21 : decode cX7_layLikely 21 = .ok (.if_icmp .ge 27, 3) := by decide +kernel
theorem dX7_layLikely_24 : decode cX7_layLikely 24 = .ok (.aload_n 0, 1) := by decide +kernel
theorem dX7_layLikely_25 : decode cX7_layLikely 25 = .ok (.getfield 116, 3) := by decide +kernel
theorem dX7_layLikely_28 : decode cX7_layLikely 28 = .ok (.iload_n 3, 1) := by decide +kernel
theorem dX7_layLikely_29 : decode cX7_layLikely 29 = .ok (.iload_n 3, 1) := by decide +kernel
theorem dX7_layLikely_30 : decode cX7_layLikely 30 = .ok (.iload_n 1, 1) := by decide +kernel
theorem dX7_layLikely_31 : decode cX7_layLikely 31 = .ok (.if_icmp .ne 9, 3) := by decide +kernel
theorem dX7_layLikely_34 : decode cX7_layLikely 34 = .ok (.ldc_w 321, 3) := by decide +kernel
theorem dX7_layLikely_37 : decode cX7_layLikely 37 = .ok (.goto 4, 3) := by decide +kernel
theorem dX7_layLikely_40 : decode cX7_layLikely 40 = .ok (.iconst 0, 1) := by decide +kernel
theorem dX7_layLikely_41 : decode cX7_layLikely 41 = .ok (.iastore, 1) := by decide +kernel
theorem dX7_layLikely_42 : decode cX7_layLikely 42 = .ok (.iinc 3 1, 3) := by decide +kernel
theorem dX7_layLikely_45 : decode cX7_layLikely 45 = .ok (.goto (-26), 3) := by decide +kernel
theorem dX7_layLikely_48 : decode cX7_layLikely 48 = .ok (.aload_n 0, 1) := by decide +kernel
theorem dX7_layLikely_49 : decode cX7_layLikely 49 = .ok (.getfield 113, 3) := by decide +kernel
theorem dX7_layLikely_52 : decode cX7_layLikely 52 = .ok (.iconst 0, 1) := by decide +kernel
theorem dX7_layLikely_53 : decode cX7_layLikely 53 = .ok (.iconst 0, 1) := by decide +kernel
theorem dX7_layLikely_54 : decode cX7_layLikely 54 = .ok (.iastore, 1) := by decide +kernel
theorem dX7_layLikely_55 : decode cX7_layLikely 55 = .ok (.aload_n 0, 1) := by decide +kernel
theorem dX7_layLikely_56 : decode cX7_layLikely 56 = .ok (.getfield 113, 3) := by decide +kernel
theorem dX7_layLikely_59 : decode cX7_layLikely 59 = .ok (.iconst 4, 1) := by decide +kernel
theorem dX7_layLikely_60 : decode cX7_layLikely 60 = .ok (.iconst 0, 1) := by decide +kernel
theorem dX7_layLikely_61 : decode cX7_layLikely 61 = .ok (.iastore, 1) := by decide +kernel
theorem dX7_layLikely_62 : decode cX7_layLikely 62 = .ok (.iconst 0, 1) := by decide +kernel
theorem dX7_layLikely_63 : decode cX7_layLikely 63 = .ok (.istore_n 3, 1) := by decide +kernel
theorem dX7_layLikely_64 : decode cX7_layLikely 64 = .ok (.iload_n 3, 1) := by decide +kernel
theorem dX7_layLikely_65 : decode cX7_layLikely 65 = .ok (.aload_n 0, 1) := by decide +kernel
theorem dX7_layLikely_66 : decode cX7_layLikely 66 = .ok (.getfield 1, 3) := by decide +kernel
theorem dX7_layLikely_69 : decode cX7_layLikely 69 = .ok (.if_icmp .ge 135, 3) := by decide +kernel
theorem dX7_layLikely_72 : decode cX7_layLikely 72 = .ok (.aload_n 0, 1) := by decide +kernel
theorem dX7_layLikely_73 : decode cX7_layLikely 73 = .ok (.getfield 43, 3) := by decide +kernel
theorem dX7_layLikely_76 : decode cX7_layLikely 76 = .ok (.iload_n 3, 1) := by decide +kernel
theorem dX7_layLikely_77 : decode cX7_layLikely 77 = .ok (.iaload, 1) := by decide +kernel
theorem dX7_layLikely_78 : decode cX7_layLikely 78 = .ok (.istore 4, 2) := by decide +kernel
theorem dX7_layLikely_80 : decode cX7_layLikely 80 = .ok (.iconst 0, 1) := by decide +kernel
theorem dX7_layLikely_81 : decode cX7_layLikely 81 = .ok (.istore 5, 2) := by decide +kernel
theorem dX7_layLikely_83 : decode cX7_layLikely 83 = .ok (.iconst 1, 1) := by decide +kernel
theorem dX7_layLikely_84 : decode cX7_layLikely 84 = .ok (.istore 6, 2) := by decide +kernel
theorem dX7_layLikely_86 : decode cX7_layLikely 86 = .ok (.iload 6, 2) := by decide +kernel
theorem dX7_layLikely_88 : decode cX7_layLikely 88 = .ok (.iconst 4, 1) := by decide +kernel
theorem dX7_layLikely_89 : decode cX7_layLikely 89 = .ok (.if_icmp .ge 58, 3) := by decide +kernel
theorem dX7_layLikely_92 : decode cX7_layLikely 92 = .ok (.aload_n 0, 1) := by decide +kernel
theorem dX7_layLikely_93 : decode cX7_layLikely 93 = .ok (.getfield 113, 3) := by decide +kernel
theorem dX7_layLikely_96 : decode cX7_layLikely 96 = .ok (.iload 6, 2) := by decide +kernel
theorem dX7_layLikely_98 : decode cX7_layLikely 98 = .ok (.aload_n 0, 1) := by decide +kernel
theorem dX7_layLikely_99 : decode cX7_layLikely 99 = .ok (.getfield 116, 3) := by decide +kernel
theorem dX7_layLikely_102 : decode cX7_layLikely 102 = .ok (.iload 6, 2) := by decide +kernel
theorem dX7_layLikely_104 : decode cX7_layLikely 104 = .ok (.iaload, 1) := by decide +kernel
theorem dX7_layLikely_105 : decode cX7_layLikely 105 = .ok (.i2l, 1) := by decide +kernel
theorem dX7_layLikely_106 : decode cX7_layLikely 106 = .ok (.aload_n 0, 1) := by decide +kernel
theorem dX7_layLikely_107 : decode cX7_layLikely 107 = .ok (.iload 4, 2) := by decide +kernel
theorem dX7_layLikely_109 : decode cX7_layLikely 109 = .ok (.iload 6, 2) := by decide +kernel
theorem dX7_layLikely_111 : decode cX7_layLikely 111 = .ok (.iload_n 2, 1) := by decide +kernel
theorem dX7_layLikely_112 : decode cX7_layLikely 112 = .ok (.iload_n 3, 1) := by decide +kernel
theorem dX7_layLikely_113 : decode cX7_layLikely 113 = .ok (.isub, 1) := by decide +kernel
theorem dX7_layLikely_114 : decode cX7_layLikely 114 = .ok (.iload 6, 2) := by decide +kernel
theorem dX7_layLikely_116 : decode cX7_layLikely 116 = .ok (.isub, 1) := by decide +kernel
theorem dX7_layLikely_117 : decode cX7_layLikely 117 = .ok (.iload_n 3, 1) := by decide +kernel
theorem dX7_layLikely_118 : decode cX7_layLikely 118 = .ok (.invokevirtual 330, 3) := by decide +kernel
theorem dX7_layLikely_121 : decode cX7_layLikely 121 = .ok (.i2l, 1) := by decide +kernel
theorem dX7_layLikely_122 : decode cX7_layLikely 122 = .ok (.lmul, 1) := by decide +kernel
theorem dX7_layLikely_123 : decode cX7_layLikely 123 = .ok (.ldc2_w 326, 3) := by decide +kernel
theorem dX7_layLikely_126 : decode cX7_layLikely 126 = .ok (.ldiv, 1) := by decide +kernel
theorem dX7_layLikely_127 : decode cX7_layLikely 127 = .ok (.l2i, 1) := by decide +kernel
theorem dX7_layLikely_128 : decode cX7_layLikely 128 = .ok (.iastore, 1) := by decide +kernel
theorem dX7_layLikely_129 : decode cX7_layLikely 129 = .ok (.iload 5, 2) := by decide +kernel
theorem dX7_layLikely_131 : decode cX7_layLikely 131 = .ok (.aload_n 0, 1) := by decide +kernel
theorem dX7_layLikely_132 : decode cX7_layLikely 132 = .ok (.getfield 113, 3) := by decide +kernel
theorem dX7_layLikely_135 : decode cX7_layLikely 135 = .ok (.iload 6, 2) := by decide +kernel
theorem dX7_layLikely_137 : decode cX7_layLikely 137 = .ok (.iaload, 1) := by decide +kernel
theorem dX7_layLikely_138 : decode cX7_layLikely 138 = .ok (.iadd, 1) := by decide +kernel
theorem dX7_layLikely_139 : decode cX7_layLikely 139 = .ok (.istore 5, 2) := by decide +kernel
theorem dX7_layLikely_141 : decode cX7_layLikely 141 = .ok (.iinc 6 1, 3) := by decide +kernel
theorem dX7_layLikely_144 : decode cX7_layLikely 144 = .ok (.goto (-58), 3) := by decide +kernel
theorem dX7_layLikely_147 : decode cX7_layLikely 147 = .ok (.aload_n 0, 1) := by decide +kernel
theorem dX7_layLikely_148 : decode cX7_layLikely 148 = .ok (.getfield 110, 3) := by decide +kernel
theorem dX7_layLikely_151 : decode cX7_layLikely 151 = .ok (.iload 4, 2) := by decide +kernel
theorem dX7_layLikely_153 : decode cX7_layLikely 153 = .ok (.iload 5, 2) := by decide +kernel
theorem dX7_layLikely_155 : decode cX7_layLikely 155 = .ok (.iastore, 1) := by decide +kernel
theorem dX7_layLikely_156 : decode cX7_layLikely 156 = .ok (.iconst 0, 1) := by decide +kernel
theorem dX7_layLikely_157 : decode cX7_layLikely 157 = .ok (.istore 6, 2) := by decide +kernel
theorem dX7_layLikely_159 : decode cX7_layLikely 159 = .ok (.iload 6, 2) := by decide +kernel
theorem dX7_layLikely_161 : decode cX7_layLikely 161 = .ok (.iconst 4, 1) := by decide +kernel
theorem dX7_layLikely_162 : decode cX7_layLikely 162 = .ok (.if_icmp .ge 36, 3) := by decide +kernel
theorem dX7_layLikely_165 : decode cX7_layLikely 165 = .ok (.aload_n 0, 1) := by decide +kernel
theorem dX7_layLikely_166 : decode cX7_layLikely 166 = .ok (.getfield 116, 3) := by decide +kernel
theorem dX7_layLikely_169 : decode cX7_layLikely 169 = .ok (.iload 6, 2) := by decide +kernel
theorem dX7_layLikely_171 : decode cX7_layLikely 171 = .ok (.dup2, 1) := by decide +kernel
theorem dX7_layLikely_172 : decode cX7_layLikely 172 = .ok (.iaload, 1) := by decide +kernel
theorem dX7_layLikely_173 : decode cX7_layLikely 173 = .ok (.aload_n 0, 1) := by decide +kernel
theorem dX7_layLikely_174 : decode cX7_layLikely 174 = .ok (.getfield 113, 3) := by decide +kernel
theorem dX7_layLikely_177 : decode cX7_layLikely 177 = .ok (.iload 6, 2) := by decide +kernel
theorem dX7_layLikely_179 : decode cX7_layLikely 179 = .ok (.iconst 1, 1) := by decide +kernel
theorem dX7_layLikely_180 : decode cX7_layLikely 180 = .ok (.iadd, 1) := by decide +kernel
theorem dX7_layLikely_181 : decode cX7_layLikely 181 = .ok (.iaload, 1) := by decide +kernel
theorem dX7_layLikely_182 : decode cX7_layLikely 182 = .ok (.aload_n 0, 1) := by decide +kernel
theorem dX7_layLikely_183 : decode cX7_layLikely 183 = .ok (.getfield 113, 3) := by decide +kernel
theorem dX7_layLikely_186 : decode cX7_layLikely 186 = .ok (.iload 6, 2) := by decide +kernel
theorem dX7_layLikely_188 : decode cX7_layLikely 188 = .ok (.iaload, 1) := by decide +kernel
theorem dX7_layLikely_189 : decode cX7_layLikely 189 = .ok (.isub, 1) := by decide +kernel
theorem dX7_layLikely_190 : decode cX7_layLikely 190 = .ok (.iadd, 1) := by decide +kernel
theorem dX7_layLikely_191 : decode cX7_layLikely 191 = .ok (.iastore, 1) := by decide +kernel
theorem dX7_layLikely_192 : decode cX7_layLikely 192 = .ok (.iinc 6 1, 3) := by decide +kernel
theorem dX7_layLikely_195 : decode cX7_layLikely 195 = .ok (.goto (-36), 3) := by decide +kernel
theorem dX7_layLikely_198 : decode cX7_layLikely 198 = .ok (.iinc 3 1, 3) := by decide +kernel
theorem dX7_layLikely_201 : decode cX7_layLikely 201 = .ok (.goto (-137), 3) := by decide +kernel
theorem dX7_layLikely_204 : decode cX7_layLikely 204 = .ok (.return_, 1) := by decide +kernel
theorem dX7_layOrder_0 : decode cX7_layOrder 0 = .ok (.iconst 1, 1) := by decide +kernel
theorem dX7_layOrder_1 : decode cX7_layOrder 1 = .ok (.istore_n 2, 1) := by decide +kernel
theorem dX7_layOrder_2 : decode cX7_layOrder 2 = .ok (.iconst 2, 1) := by decide +kernel
theorem dX7_layOrder_3 : decode cX7_layOrder 3 = .ok (.istore_n 3, 1) := by decide +kernel
theorem dX7_layOrder_4 : decode cX7_layOrder 4 = .ok (.iload_n 3, 1) := by decide +kernel
theorem dX7_layOrder_5 : decode cX7_layOrder 5 = .ok (.aload_n 0, 1) := by decide +kernel
theorem dX7_layOrder_6 : decode cX7_layOrder 6 = .ok (.getfield 1, 3) := by decide +kernel
theorem dX7_layOrder_9 : decode cX7_layOrder 9 = .ok (.if_icmp .gt 13, 3) := by decide +kernel
theorem dX7_layOrder_12 : decode cX7_layOrder 12 = .ok (.iload_n 2, 1) := by decide +kernel
theorem dX7_layOrder_13 : decode cX7_layOrder 13 = .ok (.iload_n 3, 1) := by decide +kernel
theorem dX7_layOrder_14 : decode cX7_layOrder 14 = .ok (.imul, 1) := by decide +kernel
theorem dX7_layOrder_15 : decode cX7_layOrder 15 = .ok (.istore_n 2, 1) := by decide +kernel
theorem dX7_layOrder_16 : decode cX7_layOrder 16 = .ok (.iinc 3 1, 3) := by decide +kernel
theorem dX7_layOrder_19 : decode cX7_layOrder 19 = .ok (.goto (-15), 3) := by decide +kernel
theorem dX7_layOrder_22 : decode cX7_layOrder 22 = .ok (.iload_n 1, 1) := by decide +kernel
theorem dX7_layOrder_23 : decode cX7_layOrder 23 = .ok (.iload_n 2, 1) := by decide +kernel
theorem dX7_layOrder_24 : decode cX7_layOrder 24 = .ok (.if_icmp .lt 5, 3) := by decide +kernel
theorem dX7_layOrder_27 : decode cX7_layOrder 27 = .ok (.iconst 0, 1) := by decide +kernel
theorem dX7_layOrder_28 : decode cX7_layOrder 28 = .ok (.ireturn, 1) := by decide +kernel
theorem dX7_layOrder_29 : decode cX7_layOrder 29 = .ok (.iconst 1, 1) := by decide +kernel
theorem dX7_layOrder_30 : decode cX7_layOrder 30 = .ok (.aload_n 0, 1) := by decide +kernel
theorem dX7_layOrder_31 : decode cX7_layOrder 31 = .ok (.getfield 1, 3) := by decide +kernel
theorem dX7_layOrder_34 : decode cX7_layOrder 34 = .ok (.ishl, 1) := by decide +kernel
theorem dX7_layOrder_35 : decode cX7_layOrder 35 = .ok (.iconst 1, 1) := by decide +kernel
