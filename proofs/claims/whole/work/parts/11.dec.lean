theorem dX7_begin_0 : decode cX7_begin 0 = .ok (.aload_n 0, 1) := by decide +kernel
theorem dX7_begin_1 : decode cX7_begin 1 = .ok (.getfield 49, 3) := by decide +kernel
theorem dX7_begin_4 : decode cX7_begin 4 = .ok (.ifCond .ge 7, 3) := by decide +kernel
theorem dX7_begin_7 : decode cX7_begin 7 = .ok (.iconst 0, 1) := by decide +kernel
theorem dX7_begin_8 : decode cX7_begin 8 = .ok (.goto 10, 3) := by decide +kernel
theorem dX7_begin_11 : decode cX7_begin 11 = .ok (.bipush 10, 2) := by decide +kernel
theorem dX7_begin_13 : decode cX7_begin 13 = .ok (.aload_n 0, 1) := by decide +kernel
theorem dX7_begin_14 : decode cX7_begin 14 = .ok (.getfield 49, 3) := by decide +kernel
theorem dX7_begin_17 : decode cX7_begin 17 = .ok (.imul, 1) := by decide +kernel
theorem dX7_begin_18 : decode cX7_begin 18 = .ok (.ireturn, 1) := by decide +kernel
theorem dX7_behind_0 : decode cX7_behind 0 = .ok (.aload_n 0, 1) := by decide +kernel
theorem dX7_behind_1 : decode cX7_behind 1 = .ok (.getfield 49, 3) := by decide +kernel
theorem dX7_behind_4 : decode cX7_behind 4 = .ok (.ifCond .ge 7, 3) := by decide +kernel
theorem dX7_behind_7 : decode cX7_behind 7 = .ok (.iconst 0, 1) := by decide +kernel
theorem dX7_behind_8 : decode cX7_behind 8 = .ok (.goto 20, 3) := by decide +kernel
theorem dX7_behind_11 : decode cX7_behind 11 = .ok (.bipush 10, 2) := by decide +kernel
theorem dX7_behind_13 : decode cX7_behind 13 = .ok (.aload_n 0, 1) := by decide +kernel
theorem dX7_behind_14 : decode cX7_behind 14 = .ok (.getfield 49, 3) := by decide +kernel
theorem dX7_behind_17 : decode cX7_behind 17 = .ok (.imul, 1) := by decide +kernel
theorem dX7_behind_18 : decode cX7_behind 18 = .ok (.aload_n 0, 1) := by decide +kernel
theorem dX7_behind_19 : decode cX7_behind 19 = .ok (.getfield 64, 3) := by decide +kernel
theorem dX7_behind_22 : decode cX7_behind 22 = .ok (.aload_n 0, 1) := by decide +kernel
theorem dX7_behind_23 : decode cX7_behind 23 = .ok (.getfield 49, 3) := by decide +kernel
theorem dX7_behind_26 : decode cX7_behind 26 = .ok (.iaload, 1) := by decide +kernel
theorem dX7_behind_27 : decode cX7_behind 27 = .ok (.iadd, 1) := by decide +kernel
theorem dX7_behind_28 : decode cX7_behind 28 = .ok (.ireturn, 1) := by decide +kernel
theorem dX7_drawer_0 : decode cX7_drawer 0 = .ok (.aload_n 0, 1) := by decide +kernel
theorem dX7_drawer_1 : decode cX7_drawer 1 = .ok (.iload_n 1, 1) := by decide +kernel
theorem dX7_drawer_2 : decode cX7_drawer 2 = .ok (.iconst 0, 1) := by decide +kernel
theorem dX7_drawer_3 : decode cX7_drawer 3 = .ok (.bipush 6, 2) := by decide +kernel
theorem dX7_drawer_5 : decode cX7_drawer 5 = .ok (.invokevirtual 7, 3) := by decide +kernel
theorem dX7_drawer_8 : decode cX7_drawer 8 = .ok (.ifCond .ne 5, 3) := by decide +kernel
theorem dX7_drawer_11 : decode cX7_drawer 11 = .ok (.iconst (-1), 1) := by decide +kernel
theorem dX7_drawer_12 : decode cX7_drawer 12 = .ok (.ireturn, 1) := by decide +kernel
theorem dX7_drawer_13 : decode cX7_drawer 13 = .ok (.aload_n 0, 1) := by decide +kernel
theorem dX7_drawer_14 : decode cX7_drawer 14 = .ok (.iload_n 2, 1) := by decide +kernel
theorem dX7_drawer_15 : decode cX7_drawer 15 = .ok (.iconst 0, 1) := by decide +kernel
theorem dX7_drawer_16 : decode cX7_drawer 16 = .ok (.bipush 9, 2) := by decide +kernel
theorem dX7_drawer_18 : decode cX7_drawer 18 = .ok (.invokevirtual 7, 3) := by decide +kernel
theorem dX7_drawer_21 : decode cX7_drawer 21 = .ok (.ifCond .ne 6, 3) := by decide +kernel
theorem dX7_drawer_24 : decode cX7_drawer 24 = .ok (.bipush (-2), 2) := by decide +kernel
theorem dX7_drawer_26 : decode cX7_drawer 26 = .ok (.ireturn, 1) := by decide +kernel
theorem dX7_drawer_27 : decode cX7_drawer 27 = .ok (.aload_n 0, 1) := by decide +kernel
theorem dX7_drawer_28 : decode cX7_drawer 28 = .ok (.getfield 1, 3) := by decide +kernel
theorem dX7_drawer_31 : decode cX7_drawer 31 = .ok (.bipush 6, 2) := by decide +kernel
theorem dX7_drawer_33 : decode cX7_drawer 33 = .ok (.if_icmp .ne 6, 3) := by decide +kernel
theorem dX7_drawer_36 : decode cX7_drawer 36 = .ok (.bipush (-4), 2) := by decide +kernel
theorem dX7_drawer_38 : decode cX7_drawer 38 = .ok (.ireturn, 1) := by decide +kernel
theorem dX7_drawer_39 : decode cX7_drawer 39 = .ok (.aload_n 0, 1) := by decide +kernel
theorem dX7_drawer_40 : decode cX7_drawer 40 = .ok (.getfield 30, 3) := by decide +kernel
theorem dX7_drawer_43 : decode cX7_drawer 43 = .ok (.aload_n 0, 1) := by decide +kernel
theorem dX7_drawer_44 : decode cX7_drawer 44 = .ok (.getfield 1, 3) := by decide +kernel
theorem dX7_drawer_47 : decode cX7_drawer 47 = .ok (.iload_n 1, 1) := by decide +kernel
theorem dX7_drawer_48 : decode cX7_drawer 48 = .ok (.iastore, 1) := by decide +kernel
theorem dX7_drawer_49 : decode cX7_drawer 49 = .ok (.aload_n 0, 1) := by decide +kernel
theorem dX7_drawer_50 : decode cX7_drawer 50 = .ok (.getfield 34, 3) := by decide +kernel
theorem dX7_drawer_53 : decode cX7_drawer 53 = .ok (.aload_n 0, 1) := by decide +kernel
theorem dX7_drawer_54 : decode cX7_drawer 54 = .ok (.getfield 1, 3) := by decide +kernel
theorem dX7_drawer_57 : decode cX7_drawer 57 = .ok (.iload_n 2, 1) := by decide +kernel
theorem dX7_drawer_58 : decode cX7_drawer 58 = .ok (.iastore, 1) := by decide +kernel
theorem dX7_drawer_59 : decode cX7_drawer 59 = .ok (.aload_n 0, 1) := by decide +kernel
theorem dX7_drawer_60 : decode cX7_drawer 60 = .ok (.getfield 37, 3) := by decide +kernel
theorem dX7_drawer_63 : decode cX7_drawer 63 = .ok (.aload_n 0, 1) := by decide +kernel
theorem dX7_drawer_64 : decode cX7_drawer 64 = .ok (.getfield 1, 3) := by decide +kernel
theorem dX7_drawer_67 : decode cX7_drawer 67 = .ok (.iconst 0, 1) := by decide +kernel
theorem dX7_drawer_68 : decode cX7_drawer 68 = .ok (.iastore, 1) := by decide +kernel
theorem dX7_drawer_69 : decode cX7_drawer 69 = .ok (.aload_n 0, 1) := by decide +kernel
theorem dX7_drawer_70 : decode cX7_drawer 70 = .ok (.getfield 43, 3) := by decide +kernel
theorem dX7_drawer_73 : decode cX7_drawer 73 = .ok (.aload_n 0, 1) := by decide +kernel
theorem dX7_drawer_74 : decode cX7_drawer 74 = .ok (.getfield 1, 3) := by decide +kernel
theorem dX7_drawer_77 : decode cX7_drawer 77 = .ok (.aload_n 0, 1) := by decide +kernel
theorem dX7_drawer_78 : decode cX7_drawer 78 = .ok (.getfield 1, 3) := by decide +kernel
theorem dX7_drawer_81 : decode cX7_drawer 81 = .ok (.iastore, 1) := by decide +kernel
theorem dX7_drawer_82 : decode cX7_drawer 82 = .ok (.iconst 0, 1) := by decide +kernel
theorem dX7_drawer_83 : decode cX7_drawer 83 = .ok (.istore_n 3, 1) := by decide +kernel
theorem dX7_drawer_84 : decode cX7_drawer 84 = .ok (.iload_n 3, 1) := by decide +kernel
theorem dX7_drawer_85 : decode cX7_drawer 85 = .ok (.iconst 4, 1) := by decide +kernel
theorem dX7_drawer_86 : decode cX7_drawer 86 = .ok (.if_icmp .ge 23, 3) := by decide +kernel
theorem dX7_drawer_89 : decode cX7_drawer 89 = .ok (.aload_n 0, 1) := by decide +kernel
theorem dX7_drawer_90 : decode cX7_drawer 90 = .ok (.getfield 40, 3) := by decide +kernel
theorem dX7_drawer_93 : decode cX7_drawer 93 = .ok (.iconst 4, 1) := by decide +kernel
theorem dX7_drawer_94 : decode cX7_drawer 94 = .ok (.aload_n 0, 1) := by decide +kernel
theorem dX7_drawer_95 : decode cX7_drawer 95 = .ok (.getfield 1, 3) := by decide +kernel
theorem dX7_drawer_98 : decode cX7_drawer 98 = .ok (.imul, 1) := by decide +kernel
theorem dX7_drawer_99 : decode cX7_drawer 99 = .ok (.iload_n 3, 1) := by decide +kernel
theorem dX7_drawer_100 : decode cX7_drawer 100 = .ok (.iadd, 1) := by decide +kernel
theorem dX7_drawer_101 : decode cX7_drawer 101 = .ok (.iconst 5, 1) := by decide +kernel
theorem dX7_drawer_102 : decode cX7_drawer 102 = .ok (.iastore, 1) := by decide +kernel
theorem dX7_drawer_103 : decode cX7_drawer 103 = .ok (.iinc 3 1, 3) := by decide +kernel
theorem dX7_drawer_106 : decode cX7_drawer 106 = .ok (.goto (-22), 3) := by decide +kernel
theorem dX7_drawer_109 : decode cX7_drawer 109 = .ok (.aload_n 0, 1) := by decide +kernel
theorem dX7_drawer_110 : decode cX7_drawer 110 = .ok (.dup, 1) := by decide +kernel
theorem dX7_drawer_111 : decode cX7_drawer 111 = .ok (.getfield 1, 3) := by decide +kernel
theorem dX7_drawer_114 : decode cX7_drawer 114 = .ok (.iconst 1, 1) := by decide +kernel
theorem dX7_drawer_115 : decode cX7_drawer 115 = .ok (.iadd, 1) := by decide +kernel
theorem dX7_drawer_116 : decode cX7_drawer 116 = .ok (.putfield 1, 3) := by decide +kernel
theorem dX7_drawer_119 : decode cX7_drawer 119 = .ok (.aload_n 0, 1) := by decide +kernel
theorem dX7_drawer_120 : decode cX7_drawer 120 = .ok (.invokevirtual 226, 3) := by decide +kernel
theorem dX7_drawer_123 : decode cX7_drawer 123 = .ok (.aload_n 0, 1) := by decide +kernel
theorem dX7_drawer_124 : decode cX7_drawer 124 = .ok (.getfield 1, 3) := by decide +kernel
theorem dX7_drawer_127 : decode cX7_drawer 127 = .ok (.iconst 1, 1) := by decide +kernel
theorem dX7_drawer_128 : decode cX7_drawer 128 = .ok (.isub, 1) := by decide +kernel
theorem dX7_drawer_129 : decode cX7_drawer 129 = .ok (.ireturn, 1) := by decide +kernel
theorem dX7_has_0 : decode cX7_has 0 = .ok (.iload_n 1, 1) := by decide +kernel
theorem dX7_has_1 : decode cX7_has 1 = .ok (.iload_n 2, 1) := by decide +kernel
theorem dX7_has_2 : decode cX7_has 2 = .ok (.ishr, 1) := by decide +kernel
theorem dX7_has_3 : decode cX7_has 3 = .ok (.iconst 1, 1) := by decide +kernel
theorem dX7_has_4 : decode cX7_has 4 = .ok (.iand, 1) := by decide +kernel
theorem dX7_has_5 : decode cX7_has 5 = .ok (.iconst 1, 1) := by decide +kernel
theorem dX7_has_6 : decode cX7_has 6 = .ok (.if_icmp .ne 7, 3) := by decide +kernel
theorem dX7_has_9 : decode cX7_has 9 = .ok (.iconst 1, 1) := by decide +kernel
theorem dX7_has_10 : decode cX7_has 10 = .ok (.goto 4, 3) := by decide +kernel
theorem dX7_has_13 : decode cX7_has 13 = .ok (.iconst 0, 1) := by decide +kernel
theorem dX7_has_14 : decode cX7_has 14 = .ok (.ireturn, 1) := by decide +kernel
theorem dX7_in_0 : decode cX7_in 0 = .ok (.iload_n 1, 1) := by decide +kernel
theorem dX7_in_1 : decode cX7_in 1 = .ok (.iload_n 2, 1) := by decide +kernel
theorem dX7_in_2 : decode cX7_in 2 = .ok (.if_icmp .lt 12, 3) := by decide +kernel
theorem dX7_in_5 : decode cX7_in 5 = .ok (.iload_n 1, 1) := by decide +kernel
theorem dX7_in_6 : decode cX7_in 6 = .ok (.iload_n 3, 1) := by decide +kernel
theorem dX7_in_7 : decode cX7_in 7 = .ok (.if_icmp .gt 7, 3) := by decide +kernel
theorem dX7_in_10 : decode cX7_in 10 = .ok (.iconst 1, 1) := by decide +kernel
theorem dX7_in_11 : decode cX7_in 11 = .ok (.goto 4, 3) := by decide +kernel
theorem dX7_in_14 : decode cX7_in 14 = .ok (.iconst 0, 1) := by decide +kernel
theorem dX7_in_15 : decode cX7_in 15 = .ok (.ireturn, 1) := by decide +kernel
theorem dX7_isDraw_0 : decode cX7_isDraw 0 = .ok (.aload_n 0, 1) := by decide +kernel
theorem dX7_isDraw_1 : decode cX7_isDraw 1 = .ok (.iload_n 1, 1) := by decide +kernel
theorem dX7_isDraw_2 : decode cX7_isDraw 2 = .ok (.iconst 0, 1) := by decide +kernel
theorem dX7_isDraw_3 : decode cX7_isDraw 3 = .ok (.ldc 11, 2) := by decide +kernel
theorem dX7_isDraw_5 : decode cX7_isDraw 5 = .ok (.invokevirtual 7, 3) := by decide +kernel
theorem dX7_isDraw_8 : decode cX7_isDraw 8 = .ok (.ireturn, 1) := by decide +kernel
theorem dX7_isDrawer_0 : decode cX7_isDrawer 0 = .ok (.aload_n 0, 1) := by decide +kernel
theorem dX7_isDrawer_1 : decode cX7_isDrawer 1 = .ok (.iload_n 1, 1) := by decide +kernel
theorem dX7_isDrawer_2 : decode cX7_isDrawer 2 = .ok (.iconst 0, 1) := by decide +kernel
theorem dX7_isDrawer_3 : decode cX7_isDrawer 3 = .ok (.aload_n 0, 1) := by decide +kernel
theorem dX7_isDrawer_4 : decode cX7_isDrawer 4 = .ok (.getfield 1, 3) := by decide +kernel
theorem dX7_isDrawer_7 : decode cX7_isDrawer 7 = .ok (.iconst 1, 1) := by decide +kernel
theorem dX7_isDrawer_8 : decode cX7_isDrawer 8 = .ok (.isub, 1) := by decide +kernel
theorem dX7_isDrawer_9 : decode cX7_isDrawer 9 = .ok (.invokevirtual 7, 3) := by decide +kernel
theorem dX7_isDrawer_12 : decode cX7_isDrawer 12 = .ok (.ireturn, 1) := by decide +kernel
theorem dX7_lastOf_0 : decode cX7_lastOf 0 = .ok (.iload_n 2, 1) := by decide +kernel
theorem dX7_lastOf_1 : decode cX7_lastOf 1 = .ok (.istore_n 3, 1) := by decide +kernel
theorem dX7_lastOf_2 : decode cX7_lastOf 2 = .ok (.aload_n 0, 1) := by decide +kernel
theorem dX7_lastOf_3 : decode cX7_lastOf 3 = .ok (.invokevirtual 293, 3) := by decide +kernel
theorem dX7_lastOf_6 : decode cX7_lastOf 6 = .ok (.istore 4, 2) := by decide +kernel
theorem dX7_lastOf_8 : decode cX7_lastOf 8 = .ok (.iload 4, 2) := by decide +kernel
theorem dX7_lastOf_10 : decode cX7_lastOf 10 = .ok (.aload_n 0, 1) := by decide +kernel
theorem dX7_lastOf_11 : decode cX7_lastOf 11 = .ok (.invokevirtual 296, 3) := by decide +kernel
theorem dX7_lastOf_14 : decode cX7_lastOf 14 = .ok (.if_icmp .ge 32, 3) := by decide +kernel
theorem dX7_lastOf_17 : decode cX7_lastOf 17 = .ok (.aload_n 0, 1) := by decide +kernel
theorem dX7_lastOf_18 : decode cX7_lastOf 18 = .ok (.getfield 67, 3) := by decide +kernel
theorem dX7_lastOf_21 : decode cX7_lastOf 21 = .ok (.iload 4, 2) := by decide +kernel
theorem dX7_lastOf_23 : decode cX7_lastOf 23 = .ok (.iaload, 1) := by decide +kernel
theorem dX7_lastOf_24 : decode cX7_lastOf 24 = .ok (.iload_n 1, 1) := by decide +kernel
theorem dX7_lastOf_25 : decode cX7_lastOf 25 = .ok (.if_icmp .ne 13, 3) := by decide +kernel
theorem dX7_lastOf_28 : decode cX7_lastOf 28 = .ok (.aload_n 0, 1) := by decide +kernel
theorem dX7_lastOf_29 : decode cX7_lastOf 29 = .ok (.getfield 70, 3) := by decide +kernel
theorem dX7_lastOf_32 : decode cX7_lastOf 32 = .ok (.iload 4, 2) := by decide +kernel
theorem dX7_lastOf_34 : decode cX7_lastOf 34 = .ok (.iaload, 1) := by decide +kernel
theorem dX7_lastOf_35 : decode cX7_lastOf 35 = .ok (.goto 4, 3) := by decide +kernel
theorem dX7_lastOf_38 : decode cX7_lastOf 38 = .ok (.iload_n 3, 1) := by decide +kernel
theorem dX7_lastOf_39 : decode cX7_lastOf 39 = .ok (.istore_n 3, 1) := by decide +kernel
theorem dX7_lastOf_40 : decode cX7_lastOf 40 = .ok (.iinc 4 1, 3) := by decide +kernel
theorem dX7_lastOf_43 : decode cX7_lastOf 43 = .ok (.goto (-35), 3) := by decide +kernel
theorem dX7_lastOf_46 : decode cX7_lastOf 46 = .ok (.iload_n 3, 1) := by decide +kernel
theorem dX7_lastOf_47 : decode cX7_lastOf 47 = .ok (.ireturn, 1) := by decide +kernel
theorem dX7_layFist_0 : decode cX7_layFist 0 = .ok (.aload_n 0, 1) := by decide +kernel
theorem dX7_layFist_1 : decode cX7_layFist 1 = .ok (.aload_n 0, 1) := by decide +kernel
theorem dX7_layFist_2 : decode cX7_layFist 2 = .ok (.invokevirtual 303, 3) := by decide +kernel
theorem dX7_layFist_5 : decode cX7_layFist 5 = .ok (.putfield 21, 3) := by decide +kernel
theorem dX7_layFist_8 : decode cX7_layFist 8 = .ok (.aload_n 0, 1) := by decide +kernel
theorem dX7_layFist_9 : decode cX7_layFist 9 = .ok (.aload_n 0, 1) := by decide +kernel
theorem dX7_layFist_10 : decode cX7_layFist 10 = .ok (.invokevirtual 306, 3) := by decide +kernel
theorem dX7_layFist_13 : decode cX7_layFist 13 = .ok (.putfield 24, 3) := by decide +kernel
theorem dX7_layFist_16 : decode cX7_layFist 16 = .ok (.aload_n 0, 1) := by decide +kernel
theorem dX7_layFist_17 : decode cX7_layFist 17 = .ok (.iconst 0, 1) := by decide +kernel
theorem dX7_layFist_18 : decode cX7_layFist 18 = .ok (.putfield 27, 3) := by decide +kernel
theorem dX7_layFist_21 : decode cX7_layFist 21 = .ok (.return_, 1) := by decide +kernel
theorem dX7_place_0 : decode cX7_place 0 = .ok (.aload_n 0, 1) := by decide +kernel
theorem dX7_place_1 : decode cX7_place 1 = .ok (.iload_n 1, 1) := by decide +kernel
theorem dX7_place_2 : decode cX7_place 2 = .ok (.invokevirtual 229, 3) := by decide +kernel
theorem dX7_place_5 : decode cX7_place 5 = .ok (.ifCond .eq 18, 3) := by decide +kernel
theorem dX7_place_8 : decode cX7_place 8 = .ok (.aload_n 0, 1) := by decide +kernel
theorem dX7_place_9 : decode cX7_place 9 = .ok (.iload_n 2, 1) := by decide +kernel
theorem dX7_place_10 : decode cX7_place 10 = .ok (.iconst 0, 1) := by decide +kernel
theorem dX7_place_11 : decode cX7_place 11 = .ok (.aload_n 0, 1) := by decide +kernel
theorem dX7_place_12 : decode cX7_place 12 = .ok (.getfield 1, 3) := by decide +kernel
theorem dX7_place_15 : decode cX7_place 15 = .ok (.iconst 1, 1) := by decide +kernel
theorem dX7_place_16 : decode cX7_place 16 = .ok (.isub, 1) := by decide +kernel
theorem dX7_place_17 : decode cX7_place 17 = .ok (.invokevirtual 7, 3) := by decide +kernel
theorem dX7_place_20 : decode cX7_place 20 = .ok (.ifCond .ne 5, 3) := by decide +kernel
theorem dX7_place_23 : decode cX7_place 23 = .ok (.iconst (-1), 1) := by decide +kernel
theorem dX7_place_24 : decode cX7_place 24 = .ok (.ireturn, 1) := by decide +kernel
theorem dX7_place_25 : decode cX7_place 25 = .ok (.aload_n 0, 1) := by decide +kernel
theorem dX7_place_26 : decode cX7_place 26 = .ok (.iload_n 1, 1) := by decide +kernel
theorem dX7_place_27 : decode cX7_place 27 = .ok (.invokevirtual 233, 3) := by decide +kernel
theorem dX7_place_30 : decode cX7_place 30 = .ok (.istore_n 3, 1) := by decide +kernel
theorem dX7_place_31 : decode cX7_place 31 = .ok (.aload_n 0, 1) := by decide +kernel
theorem dX7_place_32 : decode cX7_place 32 = .ok (.iload_n 1, 1) := by decide +kernel
theorem dX7_place_33 : decode cX7_place 33 = .ok (.iload_n 2, 1) := by decide +kernel
theorem dX7_place_34 : decode cX7_place 34 = .ok (.invokevirtual 237, 3) := by decide +kernel
theorem dX7_place_37 : decode cX7_place 37 = .ok (.aload_n 0, 1) := by decide +kernel
theorem dX7_place_38 : decode cX7_place 38 = .ok (.invokevirtual 226, 3) := by decide +kernel
theorem dX7_place_41 : decode cX7_place 41 = .ok (.iload_n 3, 1) := by decide +kernel
theorem dX7_place_42 : decode cX7_place 42 = .ok (.ireturn, 1) := by decide +kernel
theorem dX7_placeOf_0 : decode cX7_placeOf 0 = .ok (.iconst 0, 1) := by decide +kernel
theorem dX7_placeOf_1 : decode cX7_placeOf 1 = .ok (.istore_n 2, 1) := by decide +kernel
theorem dX7_placeOf_2 : decode cX7_placeOf 2 = .ok (.aload_n 0, 1) := by decide +kernel
theorem dX7_placeOf_3 : decode cX7_placeOf 3 = .ok (.getfield 43, 3) := by decide +kernel
theorem dX7_placeOf_6 : decode cX7_placeOf 6 = .ok (.iload_n 2, 1) := by decide +kernel
theorem dX7_placeOf_7 : decode cX7_placeOf 7 = .ok (.iaload, 1) := by decide +kernel
theorem dX7_placeOf_8 : decode cX7_placeOf 8 = .ok (.iload_n 1, 1) := by decide +kernel
theorem dX7_placeOf_9 : decode cX7_placeOf 9 = .ok (.if_icmp .eq 9, 3) := by decide +kernel
theorem dX7_placeOf_12 : decode cX7_placeOf 12 = .ok (.iinc 2 1, 3) := by decide +kernel
theorem dX7_placeOf_15 : decode cX7_placeOf 15 = .ok (.goto (-13), 3) := by decide +kernel
theorem dX7_placeOf_18 : decode cX7_placeOf 18 = .ok (.iload_n 2, 1) := by decide +kernel
theorem dX7_placeOf_19 : decode cX7_placeOf 19 = .ok (.ireturn, 1) := by decide +kernel
theorem dX7_puts_0 : decode cX7_puts 0 = .ok (.aload_n 0, 1) := by decide +kernel
theorem dX7_puts_1 : decode cX7_puts 1 = .ok (.iload_n 1, 1) := by decide +kernel
theorem dX7_puts_2 : decode cX7_puts 2 = .ok (.invokevirtual 233, 3) := by decide +kernel
theorem dX7_puts_5 : decode cX7_puts 5 = .ok (.istore_n 3, 1) := by decide +kernel
theorem dX7_puts_6 : decode cX7_puts 6 = .ok (.iload_n 3, 1) := by decide +kernel
theorem dX7_puts_7 : decode cX7_puts 7 = .ok (.istore 4, 2) := by decide +kernel
theorem dX7_puts_9 : decode cX7_puts 9 = .ok (.iload 4, 2) := by decide +kernel
theorem dX7_puts_11 : decode cX7_puts 11 = .ok (.iload_n 2, 1) := by decide +kernel
theorem dX7_puts_12 : decode cX7_puts 12 = .ok (.if_icmp .ge 25, 3) := by decide +kernel
theorem dX7_puts_15 : decode cX7_puts 15 = .ok (.aload_n 0, 1) := by decide +kernel
theorem dX7_puts_16 : decode cX7_puts 16 = .ok (.getfield 43, 3) := by decide +kernel
theorem dX7_puts_19 : decode cX7_puts 19 = .ok (.iload 4, 2) := by decide +kernel
theorem dX7_puts_21 : decode cX7_puts 21 = .ok (.aload_n 0, 1) := by decide +kernel
theorem dX7_puts_22 : decode cX7_puts 22 = .ok (.getfield 43, 3) := by decide +kernel
theorem dX7_puts_25 : decode cX7_puts 25 = .ok (.iload 4, 2) := by decide +kernel
theorem dX7_puts_27 : decode cX7_puts 27 = .ok (.iconst 1, 1) := by decide +kernel
theorem dX7_puts_28 : decode cX7_puts 28 = .ok (.iadd, 1) := by decide +kernel
theorem dX7_puts_29 : decode cX7_puts 29 = .ok (.iaload, 1) := by decide +kernel
theorem dX7_puts_30 : decode cX7_puts 30 = .ok (.iastore, 1) := by decide +kernel
theorem dX7_puts_31 : decode cX7_puts 31 = .ok (.iinc 4 1, 3) := by decide +kernel
theorem dX7_puts_34 : decode cX7_puts 34 = .ok (.goto (-25), 3) := by decide +kernel
theorem dX7_puts_37 : decode cX7_puts 37 = .ok (.iload_n 3, 1) := by decide +kernel
theorem dX7_puts_38 : decode cX7_puts 38 = .ok (.istore 4, 2) := by decide +kernel
theorem dX7_puts_40 : decode cX7_puts 40 = .ok (.iload 4, 2) := by decide +kernel
theorem dX7_puts_42 : decode cX7_puts 42 = .ok (.iload_n 2, 1) := by decide +kernel
theorem dX7_puts_43 : decode cX7_puts 43 = .ok (.if_icmp .le 25, 3) := by decide +kernel
theorem dX7_puts_46 : decode cX7_puts 46 = .ok (.aload_n 0, 1) := by decide +kernel
theorem dX7_puts_47 : decode cX7_puts 47 = .ok (.getfield 43, 3) := by decide +kernel
theorem dX7_puts_50 : decode cX7_puts 50 = .ok (.iload 4, 2) := by decide +kernel
theorem dX7_puts_52 : decode cX7_puts 52 = .ok (.aload_n 0, 1) := by decide +kernel
theorem dX7_puts_53 : decode cX7_puts 53 = .ok (.getfield 43, 3) := by decide +kernel
theorem dX7_puts_56 : decode cX7_puts 56 = .ok (.iload 4, 2) := by decide +kernel
theorem dX7_puts_58 : decode cX7_puts 58 = .ok (.iconst 1, 1) := by decide +kernel
theorem dX7_puts_59 : decode cX7_puts 59 = .ok (.isub, 1) := by decide +kernel
theorem dX7_puts_60 : decode cX7_puts 60 = .ok (.iaload, 1) := by decide +kernel
theorem dX7_puts_61 : decode cX7_puts 61 = .ok (.iastore, 1) := by decide +kernel
theorem dX7_puts_62 : decode cX7_puts 62 = .ok (.iinc 4 (-1), 3) := by decide +kernel
theorem dX7_puts_65 : decode cX7_puts 65 = .ok (.goto (-25), 3) := by decide +kernel
theorem dX7_puts_68 : decode cX7_puts 68 = .ok (.aload_n 0, 1) := by decide +kernel
theorem dX7_puts_69 : decode cX7_puts 69 = .ok (.getfield 43, 3) := by decide +kernel
theorem dX7_puts_72 : decode cX7_puts 72 = .ok (.iload_n 2, 1) := by decide +kernel
theorem dX7_puts_73 : decode cX7_puts 73 = .ok (.iload_n 1, 1) := by decide +kernel
theorem dX7_puts_74 : decode cX7_puts 74 = .ok (.iastore, 1) := by decide +kernel
theorem dX7_puts_75 : decode cX7_puts 75 = .ok (.return_, 1) := by decide +kernel
theorem dX7_row_0 : decode cX7_row 0 = .ok (.aload_n 0, 1) := by decide +kernel
theorem dX7_row_1 : decode cX7_row 1 = .ok (.iload_n 1, 1) := by decide +kernel
theorem dX7_row_2 : decode cX7_row 2 = .ok (.invokevirtual 229, 3) := by decide +kernel
theorem dX7_row_5 : decode cX7_row 5 = .ok (.ifCond .eq 13, 3) := by decide +kernel
theorem dX7_row_8 : decode cX7_row 8 = .ok (.aload_n 0, 1) := by decide +kernel
theorem dX7_row_9 : decode cX7_row 9 = .ok (.iload_n 2, 1) := by decide +kernel
theorem dX7_row_10 : decode cX7_row 10 = .ok (.iconst 0, 1) := by decide +kernel
theorem dX7_row_11 : decode cX7_row 11 = .ok (.iconst 3, 1) := by decide +kernel
theorem dX7_row_12 : decode cX7_row 12 = .ok (.invokevirtual 7, 3) := by decide +kernel
theorem dX7_row_15 : decode cX7_row 15 = .ok (.ifCond .ne 5, 3) := by decide +kernel
theorem dX7_row_18 : decode cX7_row 18 = .ok (.iconst (-1), 1) := by decide +kernel
theorem dX7_row_19 : decode cX7_row 19 = .ok (.ireturn, 1) := by decide +kernel
theorem dX7_row_20 : decode cX7_row 20 = .ok (.aload_n 0, 1) := by decide +kernel
theorem dX7_row_21 : decode cX7_row 21 = .ok (.iload_n 3, 1) := by decide +kernel
theorem dX7_row_22 : decode cX7_row 22 = .ok (.iconst 0, 1) := by decide +kernel
theorem dX7_row_23 : decode cX7_row 23 = .ok (.bipush 9, 2) := by decide +kernel
theorem dX7_row_25 : decode cX7_row 25 = .ok (.invokevirtual 7, 3) := by decide +kernel
theorem dX7_row_28 : decode cX7_row 28 = .ok (.ifCond .ne 6, 3) := by decide +kernel
theorem dX7_row_31 : decode cX7_row 31 = .ok (.bipush (-2), 2) := by decide +kernel
theorem dX7_row_33 : decode cX7_row 33 = .ok (.ireturn, 1) := by decide +kernel
theorem dX7_row_34 : decode cX7_row 34 = .ok (.aload_n 0, 1) := by decide +kernel
theorem dX7_row_35 : decode cX7_row 35 = .ok (.getfield 30, 3) := by decide +kernel
theorem dX7_row_38 : decode cX7_row 38 = .ok (.iload_n 1, 1) := by decide +kernel
theorem dX7_row_39 : decode cX7_row 39 = .ok (.iaload, 1) := by decide +kernel
theorem dX7_row_40 : decode cX7_row 40 = .ok (.bipush 6, 2) := by decide +kernel
theorem dX7_row_42 : decode cX7_row 42 = .ok (.if_icmp .eq 6, 3) := by decide +kernel
theorem dX7_row_45 : decode cX7_row 45 = .ok (.bipush (-3), 2) := by decide +kernel
theorem dX7_row_47 : decode cX7_row 47 = .ok (.ireturn, 1) := by decide +kernel
theorem dX7_row_48 : decode cX7_row 48 = .ok (.aload_n 0, 1) := by decide +kernel
theorem dX7_row_49 : decode cX7_row 49 = .ok (.getfield 40, 3) := by decide +kernel
theorem dX7_row_52 : decode cX7_row 52 = .ok (.iconst 4, 1) := by decide +kernel
theorem dX7_row_53 : decode cX7_row 53 = .ok (.iload_n 1, 1) := by decide +kernel
theorem dX7_row_54 : decode cX7_row 54 = .ok (.imul, 1) := by decide +kernel
theorem dX7_row_55 : decode cX7_row 55 = .ok (.iload_n 2, 1) := by decide +kernel
theorem dX7_row_56 : decode cX7_row 56 = .ok (.iadd, 1) := by decide +kernel
theorem dX7_row_57 : decode cX7_row 57 = .ok (.iaload, 1) := by decide +kernel
theorem dX7_row_58 : decode cX7_row 58 = .ok (.istore 4, 2) := by decide +kernel
theorem dX7_row_60 : decode cX7_row 60 = .ok (.aload_n 0, 1) := by decide +kernel
theorem dX7_row_61 : decode cX7_row 61 = .ok (.getfield 40, 3) := by decide +kernel
theorem dX7_row_64 : decode cX7_row 64 = .ok (.iconst 4, 1) := by decide +kernel
theorem dX7_row_65 : decode cX7_row 65 = .ok (.iload_n 1, 1) := by decide +kernel
theorem dX7_row_66 : decode cX7_row 66 = .ok (.imul, 1) := by decide +kernel
theorem dX7_row_67 : decode cX7_row 67 = .ok (.iload_n 2, 1) := by decide +kernel
theorem dX7_row_68 : decode cX7_row 68 = .ok (.iadd, 1) := by decide +kernel
theorem dX7_row_69 : decode cX7_row 69 = .ok (.iload_n 3, 1) := by decide +kernel
theorem dX7_row_70 : decode cX7_row 70 = .ok (.iastore, 1) := by decide +kernel
theorem dX7_row_71 : decode cX7_row 71 = .ok (.iload 4, 2) := by decide +kernel
theorem dX7_row_73 : decode cX7_row 73 = .ok (.ireturn, 1) := by decide +kernel
theorem dX7_sent_0 : decode cX7_sent 0 = .ok (.aload_n 0, 1) := by decide +kernel
theorem dX7_sent_1 : decode cX7_sent 1 = .ok (.iload_n 1, 1) := by decide +kernel
theorem dX7_sent_2 : decode cX7_sent 2 = .ok (.invokevirtual 229, 3) := by decide +kernel
theorem dX7_sent_5 : decode cX7_sent 5 = .ok (.ifCond .ne 5, 3) := by decide +kernel
theorem dX7_sent_8 : decode cX7_sent 8 = .ok (.iconst (-1), 1) := by decide +kernel
theorem dX7_sent_9 : decode cX7_sent 9 = .ok (.ireturn, 1) := by decide +kernel
theorem dX7_sent_10 : decode cX7_sent 10 = .ok (.aload_n 0, 1) := by decide +kernel
theorem dX7_sent_11 : decode cX7_sent 11 = .ok (.iload_n 2, 1) := by decide +kernel
theorem dX7_sent_12 : decode cX7_sent 12 = .ok (.iconst 0, 1) := by decide +kernel
theorem dX7_sent_13 : decode cX7_sent 13 = .ok (.sipush 999, 3) := by decide +kernel
theorem dX7_sent_16 : decode cX7_sent 16 = .ok (.invokevirtual 7, 3) := by decide +kernel
theorem dX7_sent_19 : decode cX7_sent 19 = .ok (.ifCond .ne 6, 3) := by decide +kernel
theorem dX7_sent_22 : decode cX7_sent 22 = .ok (.bipush (-2), 2) := by decide +kernel
theorem dX7_sent_24 : decode cX7_sent 24 = .ok (.ireturn, 1) := by decide +kernel
theorem dX7_sent_25 : decode cX7_sent 25 = .ok (.aload_n 0, 1) := by decide +kernel
theorem dX7_sent_26 : decode cX7_sent 26 = .ok (.getfield 37, 3) := by decide +kernel
theorem dX7_sent_29 : decode cX7_sent 29 = .ok (.iload_n 1, 1) := by decide +kernel
theorem dX7_sent_30 : decode cX7_sent 30 = .ok (.iaload, 1) := by decide +kernel
theorem dX7_sent_31 : decode cX7_sent 31 = .ok (.istore_n 3, 1) := by decide +kernel
theorem dX7_sent_32 : decode cX7_sent 32 = .ok (.aload_n 0, 1) := by decide +kernel
theorem dX7_sent_33 : decode cX7_sent 33 = .ok (.getfield 37, 3) := by decide +kernel
theorem dX7_sent_36 : decode cX7_sent 36 = .ok (.iload_n 1, 1) := by decide +kernel
theorem dX7_sent_37 : decode cX7_sent 37 = .ok (.iload_n 2, 1) := by decide +kernel
theorem dX7_sent_38 : decode cX7_sent 38 = .ok (.iastore, 1) := by decide +kernel
theorem dX7_sent_39 : decode cX7_sent 39 = .ok (.iload_n 3, 1) := by decide +kernel
theorem dX7_sent_40 : decode cX7_sent 40 = .ok (.ireturn, 1) := by decide +kernel
theorem dX7_wholeLongs_0 : decode cX7_wholeLongs 0 = .ok (.aload_n 0, 1) := by decide +kernel
theorem dX7_wholeLongs_1 : decode cX7_wholeLongs 1 = .ok (.iconst 3, 1) := by decide +kernel
theorem dX7_wholeLongs_2 : decode cX7_wholeLongs 2 = .ok (.iconst 0, 1) := by decide +kernel
theorem dX7_wholeLongs_3 : decode cX7_wholeLongs 3 = .ok (.invokevirtual 299, 3) := by decide +kernel
theorem dX7_wholeLongs_6 : decode cX7_wholeLongs 6 = .ok (.istore_n 1, 1) := by decide +kernel
theorem dX7_wholeLongs_7 : decode cX7_wholeLongs 7 = .ok (.aload_n 0, 1) := by decide +kernel
theorem dX7_wholeLongs_8 : decode cX7_wholeLongs 8 = .ok (.getfield 1, 3) := by decide +kernel
theorem dX7_wholeLongs_11 : decode cX7_wholeLongs 11 = .ok (.iload_n 1, 1) := by decide +kernel
theorem dX7_wholeLongs_12 : decode cX7_wholeLongs 12 = .ok (.bipush 9, 2) := by decide +kernel
theorem dX7_wholeLongs_14 : decode cX7_wholeLongs 14 = .ok (.if_icmp .le 8, 3) := by decide +kernel
theorem dX7_wholeLongs_17 : decode cX7_wholeLongs 17 = .ok (.bipush 9, 2) := by decide +kernel
theorem dX7_wholeLongs_19 : decode cX7_wholeLongs 19 = .ok (.goto 4, 3) := by decide +kernel
theorem dX7_wholeLongs_22 : decode cX7_wholeLongs 22 = .ok (.iload_n 1, 1) := by decide +kernel
theorem dX7_wholeLongs_23 : decode cX7_wholeLongs 23 = .ok (.iadd, 1) := by decide +kernel
theorem dX7_wholeLongs_24 : decode cX7_wholeLongs 24 = .ok (.aload_n 0, 1) := by decide +kernel
theorem dX7_wholeLongs_25 : decode cX7_wholeLongs 25 = .ok (.invokevirtual 303, 3) := by decide +kernel
theorem dX7_wholeLongs_28 : decode cX7_wholeLongs 28 = .ok (.isub, 1) := by decide +kernel
theorem dX7_wholeLongs_29 : decode cX7_wholeLongs 29 = .ok (.istore_n 2, 1) := by decide +kernel
theorem dX7_wholeLongs_30 : decode cX7_wholeLongs 30 = .ok (.iload_n 2, 1) := by decide +kernel
theorem dX7_wholeLongs_31 : decode cX7_wholeLongs 31 = .ok (.ifCond .ge 7, 3) := by decide +kernel
theorem dX7_wholeLongs_34 : decode cX7_wholeLongs 34 = .ok (.iconst 0, 1) := by decide +kernel
theorem dX7_wholeLongs_35 : decode cX7_wholeLongs 35 = .ok (.goto 4, 3) := by decide +kernel
theorem dX7_wholeLongs_38 : decode cX7_wholeLongs 38 = .ok (.iload_n 2, 1) := by decide +kernel
theorem dX7_wholeLongs_39 : decode cX7_wholeLongs 39 = .ok (.ireturn, 1) := by decide +kernel
theorem dX7_wholeShorts_0 : decode cX7_wholeShorts 0 = .ok (.aload_n 0, 1) := by decide +kernel
theorem dX7_wholeShorts_1 : decode cX7_wholeShorts 1 = .ok (.iconst 2, 1) := by decide +kernel
theorem dX7_wholeShorts_2 : decode cX7_wholeShorts 2 = .ok (.iconst 1, 1) := by decide +kernel
theorem dX7_wholeShorts_3 : decode cX7_wholeShorts 3 = .ok (.invokevirtual 299, 3) := by decide +kernel
theorem dX7_wholeShorts_6 : decode cX7_wholeShorts 6 = .ok (.istore_n 1, 1) := by decide +kernel
theorem dX7_wholeShorts_7 : decode cX7_wholeShorts 7 = .ok (.iload_n 1, 1) := by decide +kernel
theorem dX7_wholeShorts_8 : decode cX7_wholeShorts 8 = .ok (.iconst 1, 1) := by decide +kernel
theorem dX7_wholeShorts_9 : decode cX7_wholeShorts 9 = .ok (.if_icmp .ge 7, 3) := by decide +kernel
theorem dX7_wholeShorts_12 : decode cX7_wholeShorts 12 = .ok (.iconst 1, 1) := by decide +kernel
theorem dX7_wholeShorts_13 : decode cX7_wholeShorts 13 = .ok (.goto 13, 3) := by decide +kernel
theorem dX7_wholeShorts_16 : decode cX7_wholeShorts 16 = .ok (.iload_n 1, 1) := by decide +kernel
theorem dX7_wholeShorts_17 : decode cX7_wholeShorts 17 = .ok (.iconst 3, 1) := by decide +kernel
theorem dX7_wholeShorts_18 : decode cX7_wholeShorts 18 = .ok (.if_icmp .le 7, 3) := by decide +kernel
theorem dX7_wholeShorts_21 : decode cX7_wholeShorts 21 = .ok (.iconst 3, 1) := by decide +kernel
theorem dX7_wholeShorts_22 : decode cX7_wholeShorts 22 = .ok (.goto 4, 3) := by decide +kernel
theorem dX7_wholeShorts_25 : decode cX7_wholeShorts 25 = .ok (.iload_n 1, 1) := by decide +kernel
theorem dX7_wholeShorts_26 : decode cX7_wholeShorts 26 = .ok (.ireturn, 1) := by decide +kernel
