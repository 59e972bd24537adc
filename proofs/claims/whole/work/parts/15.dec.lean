theorem dX7_told_80 : decode cX7_told 80 = .ok (.getfield 27, 3) := by decide +kernel
theorem dX7_told_83 : decode cX7_told 83 = .ok (.ireturn, 1) := by decide +kernel
theorem dX7_told_84 : decode cX7_told 84 = .ok (.aload_n 0, 1) := by decide +kernel
theorem dX7_told_85 : decode cX7_told 85 = .ok (.getfield 1, 3) := by decide +kernel
theorem dX7_told_88 : decode cX7_told 88 = .ok (.ifCond .ne 8, 3) := by decide +kernel
theorem dX7_told_91 : decode cX7_told 91 = .ok (.bipush (-5), 2) := by decide +kernel
theorem dX7_told_93 : decode cX7_told 93 = .ok (.goto 12, 3) := by decide +kernel
theorem dX7_told_96 : decode cX7_told 96 = .ok (.aload_n 0, 1) := by decide +kernel
theorem dX7_told_97 : decode cX7_told 97 = .ok (.getfield 43, 3) := by decide +kernel
theorem dX7_told_100 : decode cX7_told 100 = .ok (.aload_n 0, 1) := by decide +kernel
theorem dX7_told_101 : decode cX7_told 101 = .ok (.getfield 27, 3) := by decide +kernel
theorem dX7_told_104 : decode cX7_told 104 = .ok (.iaload, 1) := by decide +kernel
theorem dX7_told_105 : decode cX7_told 105 = .ok (.ireturn, 1) := by decide +kernel
theorem dX7_told_106 : decode cX7_told 106 = .ok (.iconst (-1), 1) := by decide +kernel
theorem dX7_told_107 : decode cX7_told 107 = .ok (.ireturn, 1) := by decide +kernel
theorem dX7_trace_0 : decode cX7_trace 0 = .ok (.aload_n 0, 1) := by decide +kernel
theorem dX7_trace_1 : decode cX7_trace 1 = .ok (.iload_n 1, 1) := by decide +kernel
theorem dX7_trace_2 : decode cX7_trace 2 = .ok (.iconst 0, 1) := by decide +kernel
theorem dX7_trace_3 : decode cX7_trace 3 = .ok (.bipush 19, 2) := by decide +kernel
theorem dX7_trace_5 : decode cX7_trace 5 = .ok (.invokevirtual 7, 3) := by decide +kernel
theorem dX7_trace_8 : decode cX7_trace 8 = .ok (.ifCond .eq 20, 3) := by decide +kernel
theorem dX7_trace_11 : decode cX7_trace 11 = .ok (.iload_n 1, 1) := by decide +kernel
theorem dX7_trace_12 : decode cX7_trace 12 = .ok (.aload_n 0, 1) := by decide +kernel
theorem dX7_trace_13 : decode cX7_trace 13 = .ok (.getfield 207, 3) := by decide +kernel
theorem dX7_trace_16 : decode cX7_trace 16 = .ok (.if_icmp .ge 12, 3) := by decide +kernel
theorem dX7_trace_19 : decode cX7_trace 19 = .ok (.aload_n 0, 1) := by decide +kernel
theorem dX7_trace_20 : decode cX7_trace 20 = .ok (.getfield 210, 3) := by decide +kernel
theorem dX7_trace_23 : decode cX7_trace 23 = .ok (.iload_n 1, 1) := by decide +kernel
theorem dX7_trace_24 : decode cX7_trace 24 = .ok (.iaload, 1) := by decide +kernel
theorem dX7_trace_25 : decode cX7_trace 25 = .ok (.goto 4, 3) := by decide +kernel
theorem dX7_trace_28 : decode cX7_trace 28 = .ok (.iconst (-1), 1) := by decide +kernel
theorem dX7_trace_29 : decode cX7_trace 29 = .ok (.ireturn, 1) := by decide +kernel
theorem dX7_turn_0 : decode cX7_turn 0 = .ok (.bipush (-5), 2) := by decide +kernel
theorem dX7_turn_2 : decode cX7_turn 2 = .ok (.istore_n 1, 1) := by decide +kernel
theorem dX7_turn_3 : decode cX7_turn 3 = .ok (.iconst 0, 1) := by decide +kernel
theorem dX7_turn_4 : decode cX7_turn 4 = .ok (.istore_n 2, 1) := by decide +kernel
theorem dX7_turn_5 : decode cX7_turn 5 = .ok (.iload_n 2, 1) := by decide +kernel
theorem dX7_turn_6 : decode cX7_turn 6 = .ok (.aload_n 0, 1) := by decide +kernel
theorem dX7_turn_7 : decode cX7_turn 7 = .ok (.getfield 1, 3) := by decide +kernel
theorem dX7_turn_10 : decode cX7_turn 10 = .ok (.if_icmp .ge 40, 3) := by decide +kernel
theorem dX7_turn_13 : decode cX7_turn 13 = .ok (.iload_n 1, 1) := by decide +kernel
theorem dX7_turn_14 : decode cX7_turn 14 = .ok (.ifCond .lt 23, 3) := by decide +kernel
theorem dX7_turn_17 : decode cX7_turn 17 = .ok (.aload_n 0, 1) := by decide +kernel
theorem dX7_turn_18 : decode cX7_turn 18 = .ok (.getfield 37, 3) := by decide +kernel
theorem dX7_turn_21 : decode cX7_turn 21 = .ok (.aload_n 0, 1) := by decide +kernel
theorem dX7_turn_22 : decode cX7_turn 22 = .ok (.getfield 43, 3) := by decide +kernel
theorem dX7_turn_25 : decode cX7_turn 25 = .ok (.iload_n 2, 1) := by decide +kernel
theorem dX7_turn_26 : decode cX7_turn 26 = .ok (.iaload, 1) := by decide +kernel
theorem dX7_turn_27 : decode cX7_turn 27 = .ok (.iaload, 1) := by decide +kernel
theorem dX7_turn_28 : decode cX7_turn 28 = .ok (.aload_n 0, 1) := by decide +kernel
theorem dX7_turn_29 : decode cX7_turn 29 = .ok (.getfield 37, 3) := by decide +kernel
theorem dX7_turn_32 : decode cX7_turn 32 = .ok (.iload_n 1, 1) := by decide +kernel
theorem dX7_turn_33 : decode cX7_turn 33 = .ok (.iaload, 1) := by decide +kernel
theorem dX7_turn_34 : decode cX7_turn 34 = .ok (.if_icmp .ge 10, 3) := by decide +kernel
theorem dX7_turn_37 : decode cX7_turn 37 = .ok (.aload_n 0, 1) := by decide +kernel
theorem dX7_turn_38 : decode cX7_turn 38 = .ok (.getfield 43, 3) := by decide +kernel
theorem dX7_turn_41 : decode cX7_turn 41 = .ok (.iload_n 2, 1) := by decide +kernel
theorem dX7_turn_42 : decode cX7_turn 42 = .ok (.iaload, 1) := by decide +kernel
theorem dX7_turn_43 : decode cX7_turn 43 = .ok (.istore_n 1, 1) := by decide +kernel
theorem dX7_turn_44 : decode cX7_turn 44 = .ok (.iinc 2 1, 3) := by decide +kernel
theorem dX7_turn_47 : decode cX7_turn 47 = .ok (.goto (-42), 3) := by decide +kernel
theorem dX7_turn_50 : decode cX7_turn 50 = .ok (.iload_n 1, 1) := by decide +kernel
theorem dX7_turn_51 : decode cX7_turn 51 = .ok (.ireturn, 1) := by decide +kernel
theorem dX7_undo_0 : decode cX7_undo 0 = .ok (.aload_n 0, 1) := by decide +kernel
theorem dX7_undo_1 : decode cX7_undo 1 = .ok (.getfield 155, 3) := by decide +kernel
theorem dX7_undo_4 : decode cX7_undo 4 = .ok (.ifCond .ne 6, 3) := by decide +kernel
theorem dX7_undo_7 : decode cX7_undo 7 = .ok (.bipush (-3), 2) := by decide +kernel
theorem dX7_undo_9 : decode cX7_undo 9 = .ok (.ireturn, 1) := by decide +kernel
theorem dX7_undo_10 : decode cX7_undo 10 = .ok (.aload_n 0, 1) := by decide +kernel
theorem dX7_undo_11 : decode cX7_undo 11 = .ok (.aload_n 0, 1) := by decide +kernel
theorem dX7_undo_12 : decode cX7_undo 12 = .ok (.getfield 159, 3) := by decide +kernel
theorem dX7_undo_15 : decode cX7_undo 15 = .ok (.putfield 49, 3) := by decide +kernel
theorem dX7_undo_18 : decode cX7_undo 18 = .ok (.aload_n 0, 1) := by decide +kernel
theorem dX7_undo_19 : decode cX7_undo 19 = .ok (.aload_n 0, 1) := by decide +kernel
theorem dX7_undo_20 : decode cX7_undo 20 = .ok (.getfield 162, 3) := by decide +kernel
theorem dX7_undo_23 : decode cX7_undo 23 = .ok (.putfield 1, 3) := by decide +kernel
theorem dX7_undo_26 : decode cX7_undo 26 = .ok (.aload_n 0, 1) := by decide +kernel
theorem dX7_undo_27 : decode cX7_undo 27 = .ok (.aload_n 0, 1) := by decide +kernel
theorem dX7_undo_28 : decode cX7_undo 28 = .ok (.getfield 165, 3) := by decide +kernel
theorem dX7_undo_31 : decode cX7_undo 31 = .ok (.putfield 18, 3) := by decide +kernel
theorem dX7_undo_34 : decode cX7_undo 34 = .ok (.aload_n 0, 1) := by decide +kernel
theorem dX7_undo_35 : decode cX7_undo 35 = .ok (.aload_n 0, 1) := by decide +kernel
theorem dX7_undo_36 : decode cX7_undo 36 = .ok (.getfield 168, 3) := by decide +kernel
theorem dX7_undo_39 : decode cX7_undo 39 = .ok (.putfield 21, 3) := by decide +kernel
theorem dX7_undo_42 : decode cX7_undo 42 = .ok (.aload_n 0, 1) := by decide +kernel
theorem dX7_undo_43 : decode cX7_undo 43 = .ok (.aload_n 0, 1) := by decide +kernel
theorem dX7_undo_44 : decode cX7_undo 44 = .ok (.getfield 171, 3) := by decide +kernel
theorem dX7_undo_47 : decode cX7_undo 47 = .ok (.putfield 24, 3) := by decide +kernel
theorem dX7_undo_50 : decode cX7_undo 50 = .ok (.aload_n 0, 1) := by decide +kernel
theorem dX7_undo_51 : decode cX7_undo 51 = .ok (.aload_n 0, 1) := by decide +kernel
theorem dX7_undo_52 : decode cX7_undo 52 = .ok (.getfield 174, 3) := by decide +kernel
theorem dX7_undo_55 : decode cX7_undo 55 = .ok (.putfield 27, 3) := by decide +kernel
theorem dX7_undo_58 : decode cX7_undo 58 = .ok (.aload_n 0, 1) := by decide +kernel
theorem dX7_undo_59 : decode cX7_undo 59 = .ok (.aload_n 0, 1) := by decide +kernel
theorem dX7_undo_60 : decode cX7_undo 60 = .ok (.getfield 177, 3) := by decide +kernel
theorem dX7_undo_63 : decode cX7_undo 63 = .ok (.putfield 140, 3) := by decide +kernel
theorem dX7_undo_66 : decode cX7_undo 66 = .ok (.aload_n 0, 1) := by decide +kernel
theorem dX7_undo_67 : decode cX7_undo 67 = .ok (.aload_n 0, 1) := by decide +kernel
theorem dX7_undo_68 : decode cX7_undo 68 = .ok (.getfield 180, 3) := by decide +kernel
theorem dX7_undo_71 : decode cX7_undo 71 = .ok (.putfield 149, 3) := by decide +kernel
theorem dX7_undo_74 : decode cX7_undo 74 = .ok (.iconst 0, 1) := by decide +kernel
theorem dX7_undo_75 : decode cX7_undo 75 = .ok (.istore_n 1, 1) := by decide +kernel
theorem dX7_undo_76 : decode cX7_undo 76 = .ok (.iload_n 1, 1) := by decide +kernel
theorem dX7_undo_77 : decode cX7_undo 77 = .ok (.bipush 6, 2) := by decide +kernel
theorem dX7_undo_79 : decode cX7_undo 79 = .ok (.if_icmp .ge 81, 3) := by decide +kernel
theorem dX7_undo_82 : decode cX7_undo 82 = .ok (.aload_n 0, 1) := by decide +kernel
theorem dX7_undo_83 : decode cX7_undo 83 = .ok (.getfield 30, 3) := by decide +kernel
theorem dX7_undo_86 : decode cX7_undo 86 = .ok (.iload_n 1, 1) := by decide +kernel
theorem dX7_undo_87 : decode cX7_undo 87 = .ok (.aload_n 0, 1) := by decide +kernel
theorem dX7_undo_88 : decode cX7_undo 88 = .ok (.getfield 183, 3) := by decide +kernel
theorem dX7_undo_91 : decode cX7_undo 91 = .ok (.iload_n 1, 1) := by decide +kernel
theorem dX7_undo_92 : decode cX7_undo 92 = .ok (.iaload, 1) := by decide +kernel
theorem dX7_undo_93 : decode cX7_undo 93 = .ok (.iastore, 1) := by decide +kernel
theorem dX7_undo_94 : decode cX7_undo 94 = .ok (.aload_n 0, 1) := by decide +kernel
theorem dX7_undo_95 : decode cX7_undo 95 = .ok (.getfield 34, 3) := by decide +kernel
theorem dX7_undo_98 : decode cX7_undo 98 = .ok (.iload_n 1, 1) := by decide +kernel
theorem dX7_undo_99 : decode cX7_undo 99 = .ok (.aload_n 0, 1) := by decide +kernel
theorem dX7_undo_100 : decode cX7_undo 100 = .ok (.getfield 186, 3) := by decide +kernel
theorem dX7_undo_103 : decode cX7_undo 103 = .ok (.iload_n 1, 1) := by decide +kernel
theorem dX7_undo_104 : decode cX7_undo 104 = .ok (.iaload, 1) := by decide +kernel
theorem dX7_undo_105 : decode cX7_undo 105 = .ok (.iastore, 1) := by decide +kernel
theorem dX7_undo_106 : decode cX7_undo 106 = .ok (.aload_n 0, 1) := by decide +kernel
theorem dX7_undo_107 : decode cX7_undo 107 = .ok (.getfield 37, 3) := by decide +kernel
theorem dX7_undo_110 : decode cX7_undo 110 = .ok (.iload_n 1, 1) := by decide +kernel
theorem dX7_undo_111 : decode cX7_undo 111 = .ok (.aload_n 0, 1) := by decide +kernel
theorem dX7_undo_112 : decode cX7_undo 112 = .ok (.getfield 189, 3) := by decide +kernel
theorem dX7_undo_115 : decode cX7_undo 115 = .ok (.iload_n 1, 1) := by decide +kernel
theorem dX7_undo_116 : decode cX7_undo 116 = .ok (.iaload, 1) := by decide +kernel
theorem dX7_undo_117 : decode cX7_undo 117 = .ok (.iastore, 1) := by decide +kernel
theorem dX7_undo_118 : decode cX7_undo 118 = .ok (.aload_n 0, 1) := by decide +kernel
theorem dX7_undo_119 : decode cX7_undo 119 = .ok (.getfield 43, 3) := by decide +kernel
theorem dX7_undo_122 : decode cX7_undo 122 = .ok (.iload_n 1, 1) := by decide +kernel
theorem dX7_undo_123 : decode cX7_undo 123 = .ok (.aload_n 0, 1) := by decide +kernel
theorem dX7_undo_124 : decode cX7_undo 124 = .ok (.getfield 192, 3) := by decide +kernel
theorem dX7_undo_127 : decode cX7_undo 127 = .ok (.iload_n 1, 1) := by decide +kernel
theorem dX7_undo_128 : decode cX7_undo 128 = .ok (.iaload, 1) := by decide +kernel
theorem dX7_undo_129 : decode cX7_undo 129 = .ok (.iastore, 1) := by decide +kernel
theorem dX7_undo_130 : decode cX7_undo 130 = .ok (.aload_n 0, 1) := by decide +kernel
theorem dX7_undo_131 : decode cX7_undo 131 = .ok (.getfield 143, 3) := by decide +kernel
theorem dX7_undo_134 : decode cX7_undo 134 = .ok (.iload_n 1, 1) := by decide +kernel
theorem dX7_undo_135 : decode cX7_undo 135 = .ok (.aload_n 0, 1) := by decide +kernel
theorem dX7_undo_136 : decode cX7_undo 136 = .ok (.getfield 198, 3) := by decide +kernel
theorem dX7_undo_139 : decode cX7_undo 139 = .ok (.iload_n 1, 1) := by decide +kernel
theorem dX7_undo_140 : decode cX7_undo 140 = .ok (.iaload, 1) := by decide +kernel
theorem dX7_undo_141 : decode cX7_undo 141 = .ok (.iastore, 1) := by decide +kernel
theorem dX7_undo_142 : decode cX7_undo 142 = .ok (.aload_n 0, 1) := by decide +kernel
theorem dX7_undo_143 : decode cX7_undo 143 = .ok (.getfield 146, 3) := by decide +kernel
theorem dX7_undo_146 : decode cX7_undo 146 = .ok (.iload_n 1, 1) := by decide +kernel
theorem dX7_undo_147 : decode cX7_undo 147 = .ok (.aload_n 0, 1) := by decide +kernel
theorem dX7_undo_148 : decode cX7_undo 148 = .ok (.getfield 204, 3) := by decide +kernel
theorem dX7_undo_151 : decode cX7_undo 151 = .ok (.iload_n 1, 1) := by decide +kernel
theorem dX7_undo_152 : decode cX7_undo 152 = .ok (.baload, 1) := by decide +kernel
theorem dX7_undo_153 : decode cX7_undo 153 = .ok (.bastore, 1) := by decide +kernel
theorem dX7_undo_154 : decode cX7_undo 154 = .ok (.iinc 1 1, 3) := by decide +kernel
theorem dX7_undo_157 : decode cX7_undo 157 = .ok (.goto (-81), 3) := by decide +kernel
theorem dX7_undo_160 : decode cX7_undo 160 = .ok (.iconst 0, 1) := by decide +kernel
theorem dX7_undo_161 : decode cX7_undo 161 = .ok (.istore_n 1, 1) := by decide +kernel
theorem dX7_undo_162 : decode cX7_undo 162 = .ok (.iload_n 1, 1) := by decide +kernel
theorem dX7_undo_163 : decode cX7_undo 163 = .ok (.bipush 24, 2) := by decide +kernel
theorem dX7_undo_165 : decode cX7_undo 165 = .ok (.if_icmp .ge 21, 3) := by decide +kernel
theorem dX7_undo_168 : decode cX7_undo 168 = .ok (.aload_n 0, 1) := by decide +kernel
theorem dX7_undo_169 : decode cX7_undo 169 = .ok (.getfield 40, 3) := by decide +kernel
theorem dX7_undo_172 : decode cX7_undo 172 = .ok (.iload_n 1, 1) := by decide +kernel
theorem dX7_undo_173 : decode cX7_undo 173 = .ok (.aload_n 0, 1) := by decide +kernel
theorem dX7_undo_174 : decode cX7_undo 174 = .ok (.getfield 195, 3) := by decide +kernel
theorem dX7_undo_177 : decode cX7_undo 177 = .ok (.iload_n 1, 1) := by decide +kernel
theorem dX7_undo_178 : decode cX7_undo 178 = .ok (.iaload, 1) := by decide +kernel
theorem dX7_undo_179 : decode cX7_undo 179 = .ok (.iastore, 1) := by decide +kernel
theorem dX7_undo_180 : decode cX7_undo 180 = .ok (.iinc 1 1, 3) := by decide +kernel
theorem dX7_undo_183 : decode cX7_undo 183 = .ok (.goto (-21), 3) := by decide +kernel
theorem dX7_undo_186 : decode cX7_undo 186 = .ok (.iconst 0, 1) := by decide +kernel
theorem dX7_undo_187 : decode cX7_undo 187 = .ok (.istore_n 1, 1) := by decide +kernel
theorem dX7_undo_188 : decode cX7_undo 188 = .ok (.iload_n 1, 1) := by decide +kernel
theorem dX7_undo_189 : decode cX7_undo 189 = .ok (.bipush 8, 2) := by decide +kernel
theorem dX7_undo_191 : decode cX7_undo 191 = .ok (.if_icmp .ge 21, 3) := by decide +kernel
theorem dX7_undo_194 : decode cX7_undo 194 = .ok (.aload_n 0, 1) := by decide +kernel
theorem dX7_undo_195 : decode cX7_undo 195 = .ok (.getfield 152, 3) := by decide +kernel
theorem dX7_undo_198 : decode cX7_undo 198 = .ok (.iload_n 1, 1) := by decide +kernel
theorem dX7_undo_199 : decode cX7_undo 199 = .ok (.aload_n 0, 1) := by decide +kernel
theorem dX7_undo_200 : decode cX7_undo 200 = .ok (.getfield 201, 3) := by decide +kernel
theorem dX7_undo_203 : decode cX7_undo 203 = .ok (.iload_n 1, 1) := by decide +kernel
theorem dX7_undo_204 : decode cX7_undo 204 = .ok (.iaload, 1) := by decide +kernel
theorem dX7_undo_205 : decode cX7_undo 205 = .ok (.iastore, 1) := by decide +kernel
theorem dX7_undo_206 : decode cX7_undo 206 = .ok (.iinc 1 1, 3) := by decide +kernel
theorem dX7_undo_209 : decode cX7_undo 209 = .ok (.goto (-21), 3) := by decide +kernel
theorem dX7_undo_212 : decode cX7_undo 212 = .ok (.aload_n 0, 1) := by decide +kernel
theorem dX7_undo_213 : decode cX7_undo 213 = .ok (.getfield 1, 3) := by decide +kernel
theorem dX7_undo_216 : decode cX7_undo 216 = .ok (.ireturn, 1) := by decide +kernel
theorem dX7_uneven_0 : decode cX7_uneven 0 = .ok (.iconst 0, 1) := by decide +kernel
theorem dX7_uneven_1 : decode cX7_uneven 1 = .ok (.istore_n 1, 1) := by decide +kernel
theorem dX7_uneven_2 : decode cX7_uneven 2 = .ok (.iconst 0, 1) := by decide +kernel
theorem dX7_uneven_3 : decode cX7_uneven 3 = .ok (.istore_n 2, 1) := by decide +kernel
theorem dX7_uneven_4 : decode cX7_uneven 4 = .ok (.iload_n 2, 1) := by decide +kernel
theorem dX7_uneven_5 : decode cX7_uneven 5 = .ok (.aload_n 0, 1) := by decide +kernel
theorem dX7_uneven_6 : decode cX7_uneven 6 = .ok (.getfield 1, 3) := by decide +kernel
theorem dX7_uneven_9 : decode cX7_uneven 9 = .ok (.if_icmp .ge 18, 3) := by decide +kernel
theorem dX7_uneven_12 : decode cX7_uneven 12 = .ok (.iload_n 1, 1) := by decide +kernel
theorem dX7_uneven_13 : decode cX7_uneven 13 = .ok (.aload_n 0, 1) := by decide +kernel
theorem dX7_uneven_14 : decode cX7_uneven 14 = .ok (.getfield 37, 3) := by decide +kernel
theorem dX7_uneven_17 : decode cX7_uneven 17 = .ok (.iload_n 2, 1) := by decide +kernel
theorem dX7_uneven_18 : decode cX7_uneven 18 = .ok (.iaload, 1) := by decide +kernel
theorem dX7_uneven_19 : decode cX7_uneven 19 = .ok (.iadd, 1) := by decide +kernel
theorem dX7_uneven_20 : decode cX7_uneven 20 = .ok (.istore_n 1, 1) := by decide +kernel
theorem dX7_uneven_21 : decode cX7_uneven 21 = .ok (.iinc 2 1, 3) := by decide +kernel
theorem dX7_uneven_24 : decode cX7_uneven 24 = .ok (.goto (-20), 3) := by decide +kernel
theorem dX7_uneven_27 : decode cX7_uneven 27 = .ok (.iconst 0, 1) := by decide +kernel
theorem dX7_uneven_28 : decode cX7_uneven 28 = .ok (.istore_n 2, 1) := by decide +kernel
theorem dX7_uneven_29 : decode cX7_uneven 29 = .ok (.iconst 0, 1) := by decide +kernel
theorem dX7_uneven_30 : decode cX7_uneven 30 = .ok (.istore_n 3, 1) := by decide +kernel
theorem dX7_uneven_31 : decode cX7_uneven 31 = .ok (.iload_n 3, 1) := by decide +kernel
theorem dX7_uneven_32 : decode cX7_uneven 32 = .ok (.aload_n 0, 1) := by decide +kernel
theorem dX7_uneven_33 : decode cX7_uneven 33 = .ok (.getfield 1, 3) := by decide +kernel
theorem dX7_uneven_36 : decode cX7_uneven 36 = .ok (.if_icmp .ge 39, 3) := by decide +kernel
theorem dX7_uneven_39 : decode cX7_uneven 39 = .ok (.iload_n 2, 1) := by decide +kernel
theorem dX7_uneven_40 : decode cX7_uneven 40 = .ok (.aload_n 0, 1) := by decide +kernel
theorem dX7_uneven_41 : decode cX7_uneven 41 = .ok (.getfield 37, 3) := by decide +kernel
theorem dX7_uneven_44 : decode cX7_uneven 44 = .ok (.iload_n 3, 1) := by decide +kernel
theorem dX7_uneven_45 : decode cX7_uneven 45 = .ok (.iaload, 1) := by decide +kernel
theorem dX7_uneven_46 : decode cX7_uneven 46 = .ok (.aload_n 0, 1) := by decide +kernel
theorem dX7_uneven_47 : decode cX7_uneven 47 = .ok (.getfield 1, 3) := by decide +kernel
theorem dX7_uneven_50 : decode cX7_uneven 50 = .ok (.imul, 1) := by decide +kernel
theorem dX7_uneven_51 : decode cX7_uneven 51 = .ok (.iload_n 1, 1) := by decide +kernel
theorem dX7_uneven_52 : decode cX7_uneven 52 = .ok (.isub, 1) := by decide +kernel
theorem dX7_uneven_53 : decode cX7_uneven 53 = .ok (.aload_n 0, 1) := by decide +kernel
theorem dX7_uneven_54 : decode cX7_uneven 54 = .ok (.getfield 37, 3) := by decide +kernel
theorem dX7_uneven_57 : decode cX7_uneven 57 = .ok (.iload_n 3, 1) := by decide +kernel
theorem dX7_uneven_58 : decode cX7_uneven 58 = .ok (.iaload, 1) := by decide +kernel
theorem dX7_uneven_59 : decode cX7_uneven 59 = .ok (.aload_n 0, 1) := by decide +kernel
theorem dX7_uneven_60 : decode cX7_uneven 60 = .ok (.getfield 1, 3) := by decide +kernel
theorem dX7_uneven_63 : decode cX7_uneven 63 = .ok (.imul, 1) := by decide +kernel
theorem dX7_uneven_64 : decode cX7_uneven 64 = .ok (.iload_n 1, 1) := by decide +kernel
theorem dX7_uneven_65 : decode cX7_uneven 65 = .ok (.isub, 1) := by decide +kernel
theorem dX7_uneven_66 : decode cX7_uneven 66 = .ok (.imul, 1) := by decide +kernel
theorem dX7_uneven_67 : decode cX7_uneven 67 = .ok (.iadd, 1) := by decide +kernel
theorem dX7_uneven_68 : decode cX7_uneven 68 = .ok (.istore_n 2, 1) := by decide +kernel
theorem dX7_uneven_69 : decode cX7_uneven 69 = .ok (.iinc 3 1, 3) := by decide +kernel
theorem dX7_uneven_72 : decode cX7_uneven 72 = .ok (.goto (-41), 3) := by decide +kernel
theorem dX7_uneven_75 : decode cX7_uneven 75 = .ok (.iload_n 2, 1) := by decide +kernel
theorem dX7_uneven_76 : decode cX7_uneven 76 = .ok (.ireturn, 1) := by decide +kernel
theorem dX7_whole_0 : decode cX7_whole 0 = .ok (.aload_n 0, 1) := by decide +kernel
theorem dX7_whole_1 : decode cX7_whole 1 = .ok (.getfield 88, 3) := by decide +kernel
theorem dX7_whole_4 : decode cX7_whole 4 = .ok (.ifCond .le 48, 3) := by decide +kernel
theorem dX7_whole_7 : decode cX7_whole 7 = .ok (.aload_n 0, 1) := by decide +kernel
theorem dX7_whole_8 : decode cX7_whole 8 = .ok (.getfield 82, 3) := by decide +kernel
theorem dX7_whole_11 : decode cX7_whole 11 = .ok (.aload_n 0, 1) := by decide +kernel
theorem dX7_whole_12 : decode cX7_whole 12 = .ok (.getfield 88, 3) := by decide +kernel
theorem dX7_whole_15 : decode cX7_whole 15 = .ok (.iconst 1, 1) := by decide +kernel
theorem dX7_whole_16 : decode cX7_whole 16 = .ok (.isub, 1) := by decide +kernel
theorem dX7_whole_17 : decode cX7_whole 17 = .ok (.iaload, 1) := by decide +kernel
theorem dX7_whole_18 : decode cX7_whole 18 = .ok (.bipush 33, 2) := by decide +kernel
theorem dX7_whole_20 : decode cX7_whole 20 = .ok (.if_icmp .ne 32, 3) := by decide +kernel
theorem dX7_whole_23 : decode cX7_whole 23 = .ok (.aload_n 0, 1) := by decide +kernel
theorem dX7_whole_24 : decode cX7_whole 24 = .ok (.bipush (-33), 2) := by decide +kernel
theorem dX7_whole_26 : decode cX7_whole 26 = .ok (.invokevirtual 252, 3) := by decide +kernel
theorem dX7_whole_29 : decode cX7_whole 29 = .ok (.aload_n 0, 1) := by decide +kernel
theorem dX7_whole_30 : decode cX7_whole 30 = .ok (.dup, 1) := by decide +kernel
theorem dX7_whole_31 : decode cX7_whole 31 = .ok (.getfield 88, 3) := by decide +kernel
theorem dX7_whole_34 : decode cX7_whole 34 = .ok (.iconst 1, 1) := by decide +kernel
theorem dX7_whole_35 : decode cX7_whole 35 = .ok (.isub, 1) := by decide +kernel
theorem dX7_whole_36 : decode cX7_whole 36 = .ok (.putfield 88, 3) := by decide +kernel
theorem dX7_whole_39 : decode cX7_whole 39 = .ok (.aload_n 0, 1) := by decide +kernel
theorem dX7_whole_40 : decode cX7_whole 40 = .ok (.dup, 1) := by decide +kernel
theorem dX7_whole_41 : decode cX7_whole 41 = .ok (.getfield 91, 3) := by decide +kernel
theorem dX7_whole_44 : decode cX7_whole 44 = .ok (.iconst 1, 1) := by decide +kernel
theorem dX7_whole_45 : decode cX7_whole 45 = .ok (.isub, 1) := by decide +kernel
theorem dX7_whole_46 : decode cX7_whole 46 = .ok (.putfield 91, 3) := by decide +kernel
theorem dX7_whole_49 : decode cX7_whole 49 = .ok (.goto (-49), 3) := by decide +kernel
theorem dX7_whole_52 : decode cX7_whole 52 = .ok (.return_, 1) := by decide +kernel
theorem dX7_wholeLongs_0 : decode cX7_wholeLongs 0 = .ok (.aload_n 0, 1) := by decide +kernel
theorem dX7_wholeLongs_1 : decode cX7_wholeLongs 1 = .ok (.iconst 3, 1) := by decide +kernel
theorem dX7_wholeLongs_2 : decode cX7_wholeLongs 2 = .ok (.iconst 0, 1) := by decide +kernel
theorem dX7_wholeLongs_3 : decode cX7_wholeLongs 3 = .ok (.invokevirtual 299, 3) := by decide +kernel
theorem dX7_wholeLongs_6 : decode cX7_wholeLongs 6 = .ok (.istore_n 1, 1) := by decide +kernel
theorem dX7_wholeLongs_7 : decode cX7_wholeLongs 7 = .ok (.aload_n 0, 1) := by decide +kernel
theorem dX7_wholeLongs_8 : decode cX7_wholeLongs 8 = .ok (.getfield 1, 3) := by decide +kernel
theorem dX7_wholeLongs_11 : decode cX7_wholeLongs 11 = .ok (.iload_n 1, 1) := by decide +kernel
theorem dX7_wholeLongs_12 : decode cX7_wholeLongs 12 = .ok (.bipush 9, 2) := by decide +kernel
theorem dX7_wholeLongs_14 : decode cX7_wholeLongs 14 = .ok (.if_icmp .le 8, 3) := by decide +kernel
theorem dX7_wholeLongs_17 : decode cX7_wholeLongs 17 = .ok (.bipush 9, 2) := by decide +kernel
theorem dX7_wholeLongs_19 : decode cX7_wholeLongs 19 = .ok (.goto 4, 3) := by decide +kernel
theorem dX7_wholeLongs_22 : decode cX7_wholeLongs 22 = .ok (.iload_n 1, 1) := by decide +kernel
theorem dX7_wholeLongs_23 : decode cX7_wholeLongs 23 = .ok (.iadd, 1) := by decide +kernel
theorem dX7_wholeLongs_24 : decode cX7_wholeLongs 24 = .ok (.aload_n 0, 1) := by decide +kernel
theorem dX7_wholeLongs_25 : decode cX7_wholeLongs 25 = .ok (.invokevirtual 303, 3) := by decide +kernel
theorem dX7_wholeLongs_28 : decode cX7_wholeLongs 28 = .ok (.isub, 1) := by decide +kernel
theorem dX7_wholeLongs_29 : decode cX7_wholeLongs 29 = .ok (.istore_n 2, 1) := by decide +kernel
theorem dX7_wholeLongs_30 : decode cX7_wholeLongs 30 = .ok (.iload_n 2, 1) := by decide +kernel
theorem dX7_wholeLongs_31 : decode cX7_wholeLongs 31 = .ok (.ifCond .ge 7, 3) := by decide +kernel
theorem dX7_wholeLongs_34 : decode cX7_wholeLongs 34 = .ok (.iconst 0, 1) := by decide +kernel
theorem dX7_wholeLongs_35 : decode cX7_wholeLongs 35 = .ok (.goto 4, 3) := by decide +kernel
theorem dX7_wholeLongs_38 : decode cX7_wholeLongs 38 = .ok (.iload_n 2, 1) := by decide +kernel
theorem dX7_wholeLongs_39 : decode cX7_wholeLongs 39 = .ok (.ireturn, 1) := by decide +kernel
theorem dX7_wholeShorts_0 : decode cX7_wholeShorts 0 = .ok (.aload_n 0, 1) := by decide +kernel
theorem dX7_wholeShorts_1 : decode cX7_wholeShorts 1 = .ok (.iconst 2, 1) := by decide +kernel
theorem dX7_wholeShorts_2 : decode cX7_wholeShorts 2 = .ok (.iconst 1, 1) := by decide +kernel
theorem dX7_wholeShorts_3 : decode cX7_wholeShorts 3 = .ok (.invokevirtual 299, 3) := by decide +kernel
theorem dX7_wholeShorts_6 : decode cX7_wholeShorts 6 = .ok (.istore_n 1, 1) := by decide +kernel
theorem dX7_wholeShorts_7 : decode cX7_wholeShorts 7 = .ok (.iload_n 1, 1) := by decide +kernel
theorem dX7_wholeShorts_8 : decode cX7_wholeShorts 8 = .ok (.iconst 1, 1) := by decide +kernel
theorem dX7_wholeShorts_9 : decode cX7_wholeShorts 9 = .ok (.if_icmp .ge 7, 3) := by decide +kernel
theorem dX7_wholeShorts_12 : decode cX7_wholeShorts 12 = .ok (.iconst 1, 1) := by decide +kernel
theorem dX7_wholeShorts_13 : decode cX7_wholeShorts 13 = .ok (.goto 13, 3) := by decide +kernel
theorem dX7_wholeShorts_16 : decode cX7_wholeShorts 16 = .ok (.iload_n 1, 1) := by decide +kernel
theorem dX7_wholeShorts_17 : decode cX7_wholeShorts 17 = .ok (.iconst 3, 1) := by decide +kernel
theorem dX7_wholeShorts_18 : decode cX7_wholeShorts 18 = .ok (.if_icmp .le 7, 3) := by decide +kernel
theorem dX7_wholeShorts_21 : decode cX7_wholeShorts 21 = .ok (.iconst 3, 1) := by decide +kernel
theorem dX7_wholeShorts_22 : decode cX7_wholeShorts 22 = .ok (.goto 4, 3) := by decide +kernel
theorem dX7_wholeShorts_25 : decode cX7_wholeShorts 25 = .ok (.iload_n 1, 1) := by decide +kernel
theorem dX7_wholeShorts_26 : decode cX7_wholeShorts 26 = .ok (.ireturn, 1) := by decide +kernel
