abbrev base : Sh := [(16, 0), (15, 0), (0, 6), (0, 6), (0, 6), (0, 4), (0, 4), (0, 4), (0, 4), (0, 4), (0, 4), (4, 6), (0, 6), (0, 6), (0, 6), (0, 8), (11, 0), (0, 0), (0, 6), (15, 0), (0, 6), (0, 6), (0, 6), (0, 4), (0, 4), (0, 4), (0, 4), (0, 4), (0, 4), (4, 6), (0, 6), (0, 6), (0, 6), (0, 8), (11, 0), (0, 0), (0, 6), (13, 0), (0, 6), (1, 4), (0, 144), (0, 6), (0, 6), (12, 0), (0, 101), (0, 100), (10, 0), (0, 20), (3, 6), (14, 0), (1, 60), (14, 0), (1, 60), (14, 0), (1, 60), (14, 0), (1, 60), (14, 0), (1, 60), (14, 0), (1, 60), (17, 0), (0, 6), (0, 6), (0, 6), (0, 24), (0, 6), (0, 100), (0, 6), (0, 60), (0, 60), (0, 60), (0, 60), (0, 600), (0, 101), (0, 16), (2, 100), (0, 6), (0, 5), (0, 5), (0, 6), (0, 6), (0, 6), (0, 6), (2, 6), (0, 8), (0, 6), (0, 6), (0, 6), (0, 6), (0, 24), (0, 6), (0, 8), (2, 6), (0, 20), (0, 6), (0, 6), (1, 360), (1, 60)]
def tbL : List (List (Nat × Nat)) := [[(0, 1), (1, 19), (3, 37), (4, 41), (5, 42), (6, 43), (8, 46), (9, 48)], [(1, 2), (2, 3), (3, 4), (4, 11), (5, 12), (11, 13), (12, 14), (14, 15), (16, 18)], [], [], [], [], [], [], [], [], [], [(0, 5), (1, 6), (2, 7), (3, 8), (4, 9), (5, 10)], [], [], [], [], [(2, 17)], [], [], [(1, 20), (2, 21), (3, 22), (4, 29), (5, 30), (11, 31), (12, 32), (14, 33), (16, 36)], [], [], [], [], [], [], [], [], [], [(0, 23), (1, 24), (2, 25), (3, 26), (4, 27), (5, 28)], [], [], [], [], [(2, 35)], [], [], [(0, 38), (1, 1), (2, 39), (3, 40)], [], [], [], [], [], [(2, 44), (6, 45)], [], [], [(1, 47)], [], [(0, 49), (1, 51), (2, 53), (3, 55), (4, 57), (5, 59)], [(2, 50)], [], [(2, 52)], [], [(2, 54)], [], [(2, 56)], [], [(2, 58)], [], [(2, 60)], [], [(5, 62), (6, 63), (7, 64), (8, 65), (9, 66), (15, 67), (16, 68), (17, 69), (18, 70), (19, 71), (20, 72), (21, 73), (22, 74), (26, 75), (27, 76), (31, 77), (32, 78), (33, 79), (35, 80), (36, 81), (40, 82), (42, 83), (43, 84), (45, 85), (55, 86), (56, 87), (57, 88), (58, 89), (59, 90), (60, 91), (61, 92), (62, 93), (64, 94), (65, 95), (66, 96), (67, 97), (68, 98)], [], [], [], [], [], [], [], [], [], [], [], [], [], [], [], [], [], [], [], [], [], [], [], [], [], [], [], [], [], [], [], [], [], [], [], [], []]
def tbR (k j : Nat) : Option Nat := ((tbL.getD k []).find? (fun q => q.1 == j)).map (fun q => q.2)
def Fx (sh : Sh) (R : RR) : Prop := (∀ (k : Nat) (s : Nat × Nat), base[k]? = some s → sh[k]? = some s) ∧ ∀ k j a : Nat, tbR k j = some a → R k j = some a
theorem k_15 : (Cond.selects "ShortStrawModel" ⟨"ShortStrawModel", "layFist", "()V"⟩ ⟨"ShortStrawModel", "layFist", "()V"⟩) ∈ tW := tW_of 15 (by decide +kernel) rfl
theorem k_16 : (Cond.selects "ShortStrawModel" ⟨"ShortStrawModel", "wholeShorts", "()I"⟩ ⟨"ShortStrawModel", "wholeShorts", "()I"⟩) ∈ tW := tW_of 16 (by decide +kernel) rfl
theorem k_17 : (Cond.selects "ShortStrawModel" ⟨"ShortStrawModel", "lastOf", "(II)I"⟩ ⟨"ShortStrawModel", "lastOf", "(II)I"⟩) ∈ tW := tW_of 17 (by decide +kernel) rfl
theorem k_18 : (Cond.selects "ShortStrawModel" ⟨"ShortStrawModel", "begin", "()I"⟩ ⟨"ShortStrawModel", "begin", "()I"⟩) ∈ tW := tW_of 18 (by decide +kernel) rfl
theorem k_19 : (Cond.selects "ShortStrawModel" ⟨"ShortStrawModel", "behind", "()I"⟩ ⟨"ShortStrawModel", "behind", "()I"⟩) ∈ tW := tW_of 19 (by decide +kernel) rfl
theorem k_20 : (Cond.selects "ShortStrawModel" ⟨"ShortStrawModel", "wholeLongs", "()I"⟩ ⟨"ShortStrawModel", "wholeLongs", "()I"⟩) ∈ tW := tW_of 20 (by decide +kernel) rfl
theorem k_21 : (Cond.selects "ShortStrawModel" ⟨"ShortStrawModel", "in", "(III)Z"⟩ ⟨"ShortStrawModel", "in", "(III)Z"⟩) ∈ tW := tW_of 21 (by decide +kernel) rfl
theorem k_22 : (Cond.selects "ShortStrawModel" ⟨"ShortStrawModel", "isDrawer", "(I)Z"⟩ ⟨"ShortStrawModel", "isDrawer", "(I)Z"⟩) ∈ tW := tW_of 22 (by decide +kernel) rfl
theorem k_23 : (Cond.selects "ShortStrawModel" ⟨"ShortStrawModel", "placeOf", "(I)I"⟩ ⟨"ShortStrawModel", "placeOf", "(I)I"⟩) ∈ tW := tW_of 23 (by decide +kernel) rfl
theorem k_24 : (Cond.selects "ShortStrawModel" ⟨"ShortStrawModel", "puts", "(II)V"⟩ ⟨"ShortStrawModel", "puts", "(II)V"⟩) ∈ tW := tW_of 24 (by decide +kernel) rfl
theorem k_79 : (Cond.initialized "ShortStrawModel") ∈ tW := tW_of 79 (by decide +kernel) rfl
theorem k_859 : (Cond.methodLink "ShortStrawModel" 226 ⟨"ShortStrawModel", "layFist", "()V"⟩) ∈ tW := tW_of 859 (by decide +kernel) rfl
theorem k_861 : (Cond.instanceMethod ⟨"ShortStrawModel", "layFist", "()V"⟩) ∈ tW := tW_of 861 (by decide +kernel) rfl
theorem k_862 : (Cond.code ⟨"ShortStrawModel", "layFist", "()V"⟩ cX7_layFist 1 (none)) ∈ tW := tW_of 862 (by decide +kernel) rfl
theorem k_863 : (Cond.methodLink "ShortStrawModel" 303 ⟨"ShortStrawModel", "wholeShorts", "()I"⟩) ∈ tW := tW_of 863 (by decide +kernel) rfl
theorem k_865 : (Cond.instanceMethod ⟨"ShortStrawModel", "wholeShorts", "()I"⟩) ∈ tW := tW_of 865 (by decide +kernel) rfl
theorem k_866 : (Cond.code ⟨"ShortStrawModel", "wholeShorts", "()I"⟩ cX7_wholeShorts 2 (some .int)) ∈ tW := tW_of 866 (by decide +kernel) rfl
theorem k_867 : (Cond.methodLink "ShortStrawModel" 299 ⟨"ShortStrawModel", "lastOf", "(II)I"⟩) ∈ tW := tW_of 867 (by decide +kernel) rfl
theorem k_869 : (Cond.instanceMethod ⟨"ShortStrawModel", "lastOf", "(II)I"⟩) ∈ tW := tW_of 869 (by decide +kernel) rfl
theorem k_870 : (Cond.code ⟨"ShortStrawModel", "lastOf", "(II)I"⟩ cX7_lastOf 5 (some .int)) ∈ tW := tW_of 870 (by decide +kernel) rfl
theorem k_871 : (Cond.methodLink "ShortStrawModel" 293 ⟨"ShortStrawModel", "begin", "()I"⟩) ∈ tW := tW_of 871 (by decide +kernel) rfl
theorem k_873 : (Cond.instanceMethod ⟨"ShortStrawModel", "begin", "()I"⟩) ∈ tW := tW_of 873 (by decide +kernel) rfl
theorem k_874 : (Cond.code ⟨"ShortStrawModel", "begin", "()I"⟩ cX7_begin 1 (some .int)) ∈ tW := tW_of 874 (by decide +kernel) rfl
theorem k_875 : (Cond.methodLink "ShortStrawModel" 296 ⟨"ShortStrawModel", "behind", "()I"⟩) ∈ tW := tW_of 875 (by decide +kernel) rfl
theorem k_877 : (Cond.instanceMethod ⟨"ShortStrawModel", "behind", "()I"⟩) ∈ tW := tW_of 877 (by decide +kernel) rfl
theorem k_878 : (Cond.code ⟨"ShortStrawModel", "behind", "()I"⟩ cX7_behind 1 (some .int)) ∈ tW := tW_of 878 (by decide +kernel) rfl
theorem k_879 : (Cond.methodLink "ShortStrawModel" 306 ⟨"ShortStrawModel", "wholeLongs", "()I"⟩) ∈ tW := tW_of 879 (by decide +kernel) rfl
theorem k_881 : (Cond.instanceMethod ⟨"ShortStrawModel", "wholeLongs", "()I"⟩) ∈ tW := tW_of 881 (by decide +kernel) rfl
theorem k_882 : (Cond.code ⟨"ShortStrawModel", "wholeLongs", "()I"⟩ cX7_wholeLongs 3 (some .int)) ∈ tW := tW_of 882 (by decide +kernel) rfl
theorem k_883 : (Cond.fieldLink "ShortStrawModel" 1 "ShortStrawModel" "drawers" "I") ∈ tW := tW_of 883 (by decide +kernel) rfl
theorem k_885 : (Cond.fieldLink "ShortStrawModel" 21 "ShortStrawModel" "shorts" "I") ∈ tW := tW_of 885 (by decide +kernel) rfl
theorem k_886 : (Cond.fieldLink "ShortStrawModel" 24 "ShortStrawModel" "longs" "I") ∈ tW := tW_of 886 (by decide +kernel) rfl
theorem k_887 : (Cond.fieldLink "ShortStrawModel" 27 "ShortStrawModel" "drawn" "I") ∈ tW := tW_of 887 (by decide +kernel) rfl
theorem k_888 : (Cond.fieldLink "ShortStrawModel" 30 "ShortStrawModel" "kind" "[I") ∈ tW := tW_of 888 (by decide +kernel) rfl
theorem k_889 : (Cond.fieldLink "ShortStrawModel" 34 "ShortStrawModel" "v" "[I") ∈ tW := tW_of 889 (by decide +kernel) rfl
theorem k_890 : (Cond.fieldLink "ShortStrawModel" 37 "ShortStrawModel" "sent" "[I") ∈ tW := tW_of 890 (by decide +kernel) rfl
theorem k_891 : (Cond.fieldLink "ShortStrawModel" 40 "ShortStrawModel" "rows" "[I") ∈ tW := tW_of 891 (by decide +kernel) rfl
theorem k_892 : (Cond.fieldLink "ShortStrawModel" 43 "ShortStrawModel" "order" "[I") ∈ tW := tW_of 892 (by decide +kernel) rfl
theorem k_894 : (Cond.fieldLink "ShortStrawModel" 49 "ShortStrawModel" "the" "I") ∈ tW := tW_of 894 (by decide +kernel) rfl
theorem k_899 : (Cond.fieldLink "ShortStrawModel" 64 "ShortStrawModel" "clauses" "[I") ∈ tW := tW_of 899 (by decide +kernel) rfl
theorem k_900 : (Cond.fieldLink "ShortStrawModel" 67 "ShortStrawModel" "word" "[I") ∈ tW := tW_of 900 (by decide +kernel) rfl
theorem k_901 : (Cond.fieldLink "ShortStrawModel" 70 "ShortStrawModel" "number" "[I") ∈ tW := tW_of 901 (by decide +kernel) rfl
theorem k_1096 : (Cond.methodLink "ShortStrawModel" 7 ⟨"ShortStrawModel", "in", "(III)Z"⟩) ∈ tW := tW_of 1096 (by decide +kernel) rfl
theorem k_1098 : (Cond.instanceMethod ⟨"ShortStrawModel", "in", "(III)Z"⟩) ∈ tW := tW_of 1098 (by decide +kernel) rfl
theorem k_1099 : (Cond.code ⟨"ShortStrawModel", "in", "(III)Z"⟩ cX7_in 4 (some .boolean)) ∈ tW := tW_of 1099 (by decide +kernel) rfl
theorem k_1104 : (Cond.methodLink "ShortStrawModel" 229 ⟨"ShortStrawModel", "isDrawer", "(I)Z"⟩) ∈ tW := tW_of 1104 (by decide +kernel) rfl
theorem k_1106 : (Cond.instanceMethod ⟨"ShortStrawModel", "isDrawer", "(I)Z"⟩) ∈ tW := tW_of 1106 (by decide +kernel) rfl
theorem k_1107 : (Cond.code ⟨"ShortStrawModel", "isDrawer", "(I)Z"⟩ cX7_isDrawer 2 (some .boolean)) ∈ tW := tW_of 1107 (by decide +kernel) rfl
theorem k_1116 : (Cond.methodLink "ShortStrawModel" 233 ⟨"ShortStrawModel", "placeOf", "(I)I"⟩) ∈ tW := tW_of 1116 (by decide +kernel) rfl
theorem k_1118 : (Cond.instanceMethod ⟨"ShortStrawModel", "placeOf", "(I)I"⟩) ∈ tW := tW_of 1118 (by decide +kernel) rfl
theorem k_1119 : (Cond.code ⟨"ShortStrawModel", "placeOf", "(I)I"⟩ cX7_placeOf 3 (some .int)) ∈ tW := tW_of 1119 (by decide +kernel) rfl
theorem k_1120 : (Cond.methodLink "ShortStrawModel" 237 ⟨"ShortStrawModel", "puts", "(II)V"⟩) ∈ tW := tW_of 1120 (by decide +kernel) rfl
theorem k_1122 : (Cond.instanceMethod ⟨"ShortStrawModel", "puts", "(II)V"⟩) ∈ tW := tW_of 1122 (by decide +kernel) rfl
theorem k_1123 : (Cond.code ⟨"ShortStrawModel", "puts", "(II)V"⟩ cX7_puts 5 (none)) ∈ tW := tW_of 1123 (by decide +kernel) rfl
theorem k_1239 : (Cond.constant "ShortStrawModel" 11 (999999)) ∈ tW := tW_of 1239 (by decide +kernel) rfl
theorem lb_m4 : (Int8.ofInt (-4)).toInt32 = (-4) := by decide
theorem lb_m3 : (Int8.ofInt (-3)).toInt32 = (-3) := by decide
theorem lb_m2 : (Int8.ofInt (-2)).toInt32 = (-2) := by decide
theorem lb_6 : (Int8.ofInt (6)).toInt32 = 6 := by decide
theorem lb_9 : (Int8.ofInt (9)).toInt32 = 9 := by decide
theorem lb_10 : (Int8.ofInt (10)).toInt32 = 10 := by decide
theorem lc_m1 : Int32.ofInt (-1) = (-1) := by decide
theorem lc_0 : Int32.ofInt (0) = 0 := by decide
theorem lc_1 : Int32.ofInt (1) = 1 := by decide
theorem lc_2 : Int32.ofInt (2) = 2 := by decide
theorem lc_3 : Int32.ofInt (3) = 3 := by decide
theorem lc_4 : Int32.ofInt (4) = 4 := by decide
theorem lc_5 : Int32.ofInt (5) = 5 := by decide
theorem ls_999 : (Int16.ofInt (999)).toInt32 = 999 := by decide
abbrev YX7_begin : YD := (yX7_begin, cX7_begin, 1, some .int)
abbrev YX7_behind : YD := (yX7_behind, cX7_behind, 1, some .int)
abbrev YX7_drawer : YD := (yX7_drawer, cX7_drawer, 4, some .int)
abbrev YX7_has : YD := (yX7_has, cX7_has, 3, some .boolean)
abbrev YX7_in : YD := (yX7_in, cX7_in, 4, some .boolean)
abbrev YX7_isDraw : YD := (yX7_isDraw, cX7_isDraw, 2, some .boolean)
abbrev YX7_isDrawer : YD := (yX7_isDrawer, cX7_isDrawer, 2, some .boolean)
abbrev YX7_lastOf : YD := (yX7_lastOf, cX7_lastOf, 5, some .int)
abbrev YX7_layFist : YD := (yX7_layFist, cX7_layFist, 1, none)
abbrev YX7_place : YD := (yX7_place, cX7_place, 4, some .int)
abbrev YX7_placeOf : YD := (yX7_placeOf, cX7_placeOf, 3, some .int)
abbrev YX7_puts : YD := (yX7_puts, cX7_puts, 5, none)
abbrev YX7_row : YD := (yX7_row, cX7_row, 5, some .int)
abbrev YX7_sent : YD := (yX7_sent, cX7_sent, 4, some .int)
abbrev YX7_wholeLongs : YD := (yX7_wholeLongs, cX7_wholeLongs, 3, some .int)
abbrev YX7_wholeShorts : YD := (yX7_wholeShorts, cX7_wholeShorts, 2, some .int)
theorem pn_X7 : plainName RX7 = true := by decide +kernel
theorem cm_X7_begin : CMo YX7_begin 7 0 := ⟨_, rfl, rfl, k_873, k_18, k_79, k_874, ⟨by decide +kernel, by decide +kernel, by decide +kernel⟩, Nat.le_of_ble_eq_true rfl⟩
theorem cm_X7_behind : CMo YX7_behind 7 0 := ⟨_, rfl, rfl, k_877, k_19, k_79, k_878, ⟨by decide +kernel, by decide +kernel, by decide +kernel⟩, Nat.le_of_ble_eq_true rfl⟩
theorem cm_X7_in : CMo YX7_in 7 3 := ⟨_, rfl, rfl, k_1098, k_21, k_79, k_1099, ⟨by decide +kernel, by decide +kernel, by decide +kernel⟩, Nat.le_of_ble_eq_true rfl⟩
theorem cm_X7_isDrawer : CMo YX7_isDrawer 7 1 := ⟨_, rfl, rfl, k_1106, k_22, k_79, k_1107, ⟨by decide +kernel, by decide +kernel, by decide +kernel⟩, Nat.le_of_ble_eq_true rfl⟩
theorem cm_X7_lastOf : CMo YX7_lastOf 7 2 := ⟨_, rfl, rfl, k_869, k_17, k_79, k_870, ⟨by decide +kernel, by decide +kernel, by decide +kernel⟩, Nat.le_of_ble_eq_true rfl⟩
theorem cm_X7_layFist : CMo YX7_layFist 7 0 := ⟨_, rfl, rfl, k_861, k_15, k_79, k_862, ⟨by decide +kernel, by decide +kernel, by decide +kernel⟩, Nat.le_of_ble_eq_true rfl⟩
theorem cm_X7_placeOf : CMo YX7_placeOf 7 1 := ⟨_, rfl, rfl, k_1118, k_23, k_79, k_1119, ⟨by decide +kernel, by decide +kernel, by decide +kernel⟩, Nat.le_of_ble_eq_true rfl⟩
theorem cm_X7_puts : CMo YX7_puts 7 2 := ⟨_, rfl, rfl, k_1122, k_24, k_79, k_1123, ⟨by decide +kernel, by decide +kernel, by decide +kernel⟩, Nat.le_of_ble_eq_true rfl⟩
theorem cm_X7_wholeLongs : CMo YX7_wholeLongs 7 0 := ⟨_, rfl, rfl, k_881, k_20, k_79, k_882, ⟨by decide +kernel, by decide +kernel, by decide +kernel⟩, Nat.le_of_ble_eq_true rfl⟩
theorem cm_X7_wholeShorts : CMo YX7_wholeShorts 7 0 := ⟨_, rfl, rfl, k_865, k_16, k_79, k_866, ⟨by decide +kernel, by decide +kernel, by decide +kernel⟩, Nat.le_of_ble_eq_true rfl⟩
