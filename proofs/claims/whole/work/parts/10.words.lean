abbrev base : Sh := [(16, 0), (15, 0), (0, 6), (0, 6), (0, 6), (0, 4), (0, 4), (0, 4), (0, 4), (0, 4), (0, 4), (4, 6), (0, 6), (0, 6), (0, 6), (0, 8), (11, 0), (0, 0), (0, 6), (15, 0), (0, 6), (0, 6), (0, 6), (0, 4), (0, 4), (0, 4), (0, 4), (0, 4), (0, 4), (4, 6), (0, 6), (0, 6), (0, 6), (0, 8), (11, 0), (0, 0), (0, 6), (13, 0), (0, 6), (1, 4), (0, 144), (0, 6), (0, 6), (12, 0), (0, 101), (0, 100), (10, 0), (0, 20), (3, 6), (14, 0), (1, 60), (14, 0), (1, 60), (14, 0), (1, 60), (14, 0), (1, 60), (14, 0), (1, 60), (14, 0), (1, 60), (17, 0), (0, 6), (0, 6), (0, 6), (0, 24), (0, 6), (0, 100), (0, 6), (0, 60), (0, 60), (0, 60), (0, 60), (0, 600), (0, 101), (0, 16), (2, 100), (0, 6), (0, 5), (0, 5), (0, 6), (0, 6), (0, 6), (0, 6), (2, 6), (0, 8), (0, 6), (0, 6), (0, 6), (0, 6), (0, 24), (0, 6), (0, 8), (2, 6), (0, 20), (0, 6), (0, 6), (1, 360), (1, 60)]
def tbL : List (List (Nat × Nat)) := [[(0, 1), (1, 19), (3, 37), (4, 41), (5, 42), (6, 43), (8, 46), (9, 48)], [(1, 2), (2, 3), (3, 4), (4, 11), (5, 12), (11, 13), (12, 14), (14, 15), (16, 18)], [], [], [], [], [], [], [], [], [], [(0, 5), (1, 6), (2, 7), (3, 8), (4, 9), (5, 10)], [], [], [], [], [(2, 17)], [], [], [(1, 20), (2, 21), (3, 22), (4, 29), (5, 30), (11, 31), (12, 32), (14, 33), (16, 36)], [], [], [], [], [], [], [], [], [], [(0, 23), (1, 24), (2, 25), (3, 26), (4, 27), (5, 28)], [], [], [], [], [(2, 35)], [], [], [(0, 38), (1, 1), (2, 39), (3, 40)], [], [], [], [], [], [(2, 44), (6, 45)], [], [], [(1, 47)], [], [(0, 49), (1, 51), (2, 53), (3, 55), (4, 57), (5, 59)], [(2, 50)], [], [(2, 52)], [], [(2, 54)], [], [(2, 56)], [], [(2, 58)], [], [(2, 60)], [], [(5, 62), (6, 63), (7, 64), (8, 65), (9, 66), (15, 67), (16, 68), (17, 69), (18, 70), (19, 71), (20, 72), (21, 73), (22, 74), (26, 75), (27, 76), (31, 77), (32, 78), (33, 79), (35, 80), (36, 81), (40, 82), (42, 83), (43, 84), (45, 85), (55, 86), (56, 87), (57, 88), (58, 89), (59, 90), (60, 91), (61, 92), (62, 93), (64, 94), (65, 95), (66, 96), (67, 97), (68, 98)], [], [], [], [], [], [], [], [], [], [], [], [], [], [], [], [], [], [], [], [], [], [], [], [], [], [], [], [], [], [], [], [], [], [], [], [], []]
def tbR (k j : Nat) : Option Nat := ((tbL.getD k []).find? (fun q => q.1 == j)).map (fun q => q.2)
def Fx (sh : Sh) (R : RR) : Prop := (∀ (k : Nat) (s : Nat × Nat), base[k]? = some s → sh[k]? = some s) ∧ ∀ k j a : Nat, tbR k j = some a → R k j = some a
theorem k_15 : (Cond.selects "ShortStrawModel" ⟨"ShortStrawModel", "layFist", "()V"⟩ ⟨"ShortStrawModel", "layFist", "()V"⟩) ∈ tW := tW_of 15 (by decide +kernel) rfl
theorem k_16 : (Cond.selects "ShortStrawModel" ⟨"ShortStrawModel", "wholeShorts", "()I"⟩ ⟨"ShortStrawModel", "wholeShorts", "()I"⟩) ∈ tW := tW_of 16 (by decide +kernel) rfl
theorem k_17 : (Cond.selects "ShortStrawModel" ⟨"ShortStrawModel", "lastOf", "(II)I"⟩ ⟨"ShortStrawModel", "lastOf", "(II)I"⟩) ∈ tW := tW_of 17 (by decide +kernel) rfl
theorem k_18 : (Cond.selects "ShortStrawModel" ⟨"ShortStrawModel", "begin", "()I"⟩ ⟨"ShortStrawModel", "begin", "()I"⟩) ∈ tW := tW_of 18 (by decide +kernel) rfl
theorem k_19 : (Cond.selects "ShortStrawModel" ⟨"ShortStrawModel", "behind", "()I"⟩ ⟨"ShortStrawModel", "behind", "()I"⟩) ∈ tW := tW_of 19 (by decide +kernel) rfl
theorem k_20 : (Cond.selects "ShortStrawModel" ⟨"ShortStrawModel", "wholeLongs", "()I"⟩ ⟨"ShortStrawModel", "wholeLongs", "()I"⟩) ∈ tW := tW_of 20 (by decide +kernel) rfl
theorem k_21 : (Cond.selects "ShortStrawModel" ⟨"ShortStrawModel", "in", "(III)Z"⟩ ⟨"ShortStrawModel", "in", "(III)Z"⟩) ∈ tW := tW_of 21 (by decide +kernel) rfl
theorem k_22 : (Cond.selects "ShortStrawModel" ⟨"ShortStrawModel", "isDrawer", "(I)Z"⟩ ⟨"ShortStrawModel", "isDrawer", "(I)Z"⟩) ∈ tW := tW_of 22 (by decide +kernel) rfl
theorem k_23 : (Cond.selects "ShortStrawModel" ⟨"ShortStrawModel", "placeOf", "(I)I"⟩ ⟨"ShortStrawModel", "placeOf", "(I)I"⟩) ∈ tW := tW_of 23 (by decide +kernel) rfl
theorem k_24 : (Cond.selects "ShortStrawModel" ⟨"ShortStrawModel", "puts", "(II)V"⟩ ⟨"ShortStrawModel", "puts", "(II)V"⟩) ∈ tW := tW_of 24 (by decide +kernel) rfl
theorem k_25 : (Cond.selects "ShortStrawModel" ⟨"ShortStrawModel", "goesText", "(I)Z"⟩ ⟨"ShortStrawModel", "goesText", "(I)Z"⟩) ∈ tW := tW_of 25 (by decide +kernel) rfl
theorem k_26 : (Cond.selects "ShortStrawModel" ⟨"ShortStrawModel", "takesClause", "(I)Z"⟩ ⟨"ShortStrawModel", "takesClause", "(I)Z"⟩) ∈ tW := tW_of 26 (by decide +kernel) rfl
theorem k_27 : (Cond.selects "ShortStrawModel" ⟨"ShortStrawModel", "takesHead", "(I)Z"⟩ ⟨"ShortStrawModel", "takesHead", "(I)Z"⟩) ∈ tW := tW_of 27 (by decide +kernel) rfl
theorem k_28 : (Cond.selects "ShortStrawModel" ⟨"ShortStrawModel", "next", "()I"⟩ ⟨"ShortStrawModel", "next", "()I"⟩) ∈ tW := tW_of 28 (by decide +kernel) rfl
theorem k_29 : (Cond.selects "ShortStrawModel" ⟨"ShortStrawModel", "takesWord", "(II)Z"⟩ ⟨"ShortStrawModel", "takesWord", "(II)Z"⟩) ∈ tW := tW_of 29 (by decide +kernel) rfl
theorem k_30 : (Cond.selects "ShortStrawModel" ⟨"ShortStrawModel", "takes", "(I)Z"⟩ ⟨"ShortStrawModel", "takes", "(I)Z"⟩) ∈ tW := tW_of 30 (by decide +kernel) rfl
theorem k_31 : (Cond.selects "ShortStrawModel" ⟨"ShortStrawModel", "second", "()I"⟩ ⟨"ShortStrawModel", "second", "()I"⟩) ∈ tW := tW_of 31 (by decide +kernel) rfl
theorem k_32 : (Cond.selects "ShortStrawModel" ⟨"ShortStrawModel", "third", "()I"⟩ ⟨"ShortStrawModel", "third", "()I"⟩) ∈ tW := tW_of 32 (by decide +kernel) rfl
theorem k_33 : (Cond.selects "ShortStrawModel" ⟨"ShortStrawModel", "takesNumber", "()Z"⟩ ⟨"ShortStrawModel", "takesNumber", "()Z"⟩) ∈ tW := tW_of 33 (by decide +kernel) rfl
theorem k_34 : (Cond.selects "ShortStrawModel" ⟨"ShortStrawModel", "isDigit", "()Z"⟩ ⟨"ShortStrawModel", "isDigit", "()Z"⟩) ∈ tW := tW_of 34 (by decide +kernel) rfl
theorem k_35 : (Cond.selects "ShortStrawModel" ⟨"ShortStrawModel", "takesE", "(I)Z"⟩ ⟨"ShortStrawModel", "takesE", "(I)Z"⟩) ∈ tW := tW_of 35 (by decide +kernel) rfl
theorem k_36 : (Cond.selects "ShortStrawModel" ⟨"ShortStrawModel", "takesTest", "()Z"⟩ ⟨"ShortStrawModel", "takesTest", "()Z"⟩) ∈ tW := tW_of 36 (by decide +kernel) rfl
theorem k_37 : (Cond.selects "ShortStrawModel" ⟨"ShortStrawModel", "letterAt", "(I)I"⟩ ⟨"ShortStrawModel", "letterAt", "(I)I"⟩) ∈ tW := tW_of 37 (by decide +kernel) rfl
theorem k_38 : (Cond.selects "ShortStrawModel" ⟨"ShortStrawModel", "emits", "(I)V"⟩ ⟨"ShortStrawModel", "emits", "(I)V"⟩) ∈ tW := tW_of 38 (by decide +kernel) rfl
theorem k_39 : (Cond.selects "ShortStrawModel" ⟨"ShortStrawModel", "whole", "()V"⟩ ⟨"ShortStrawModel", "whole", "()V"⟩) ∈ tW := tW_of 39 (by decide +kernel) rfl
theorem k_40 : (Cond.selects "ShortStrawModel" ⟨"ShortStrawModel", "settle", "(I)V"⟩ ⟨"ShortStrawModel", "settle", "(I)V"⟩) ∈ tW := tW_of 40 (by decide +kernel) rfl
theorem k_41 : (Cond.selects "ShortStrawModel" ⟨"ShortStrawModel", "pull", "(IIII)I"⟩ ⟨"ShortStrawModel", "pull", "(IIII)I"⟩) ∈ tW := tW_of 41 (by decide +kernel) rfl
theorem k_42 : (Cond.selects "ShortStrawModel" ⟨"ShortStrawModel", "keenly", "(I)I"⟩ ⟨"ShortStrawModel", "keenly", "(I)I"⟩) ∈ tW := tW_of 42 (by decide +kernel) rfl
theorem k_43 : (Cond.selects "ShortStrawModel" ⟨"ShortStrawModel", "plainly", "(I)I"⟩ ⟨"ShortStrawModel", "plainly", "(I)I"⟩) ∈ tW := tW_of 43 (by decide +kernel) rfl
theorem k_44 : (Cond.selects "ShortStrawModel" ⟨"ShortStrawModel", "holds", "(II)Z"⟩ ⟨"ShortStrawModel", "holds", "(II)Z"⟩) ∈ tW := tW_of 44 (by decide +kernel) rfl
theorem k_45 : (Cond.selects "ShortStrawModel" ⟨"ShortStrawModel", "factOf", "(II)I"⟩ ⟨"ShortStrawModel", "factOf", "(II)I"⟩) ∈ tW := tW_of 45 (by decide +kernel) rfl
theorem k_46 : (Cond.selects "ShortStrawModel" ⟨"ShortStrawModel", "chance", "(IIII)I"⟩ ⟨"ShortStrawModel", "chance", "(IIII)I"⟩) ∈ tW := tW_of 46 (by decide +kernel) rfl
theorem k_47 : (Cond.selects "ShortStrawModel" ⟨"ShortStrawModel", "isDraw", "(I)Z"⟩ ⟨"ShortStrawModel", "isDraw", "(I)Z"⟩) ∈ tW := tW_of 47 (by decide +kernel) rfl
theorem k_48 : (Cond.selects "ShortStrawModel" ⟨"ShortStrawModel", "goDraw", "(I)Z"⟩ ⟨"ShortStrawModel", "goDraw", "(I)Z"⟩) ∈ tW := tW_of 48 (by decide +kernel) rfl
theorem k_49 : (Cond.selects "ShortStrawModel" ⟨"ShortStrawModel", "isEnd", "()Z"⟩ ⟨"ShortStrawModel", "isEnd", "()Z"⟩) ∈ tW := tW_of 49 (by decide +kernel) rfl
theorem k_50 : (Cond.selects "ShortStrawModel" ⟨"ShortStrawModel", "layLikely", "()V"⟩ ⟨"ShortStrawModel", "layLikely", "()V"⟩) ∈ tW := tW_of 50 (by decide +kernel) rfl
theorem k_51 : (Cond.selects "ShortStrawModel" ⟨"ShortStrawModel", "evenNow", "()I"⟩ ⟨"ShortStrawModel", "evenNow", "()I"⟩) ∈ tW := tW_of 51 (by decide +kernel) rfl
theorem k_52 : (Cond.selects "ShortStrawModel" ⟨"ShortStrawModel", "keepOrder", "()V"⟩ ⟨"ShortStrawModel", "keepOrder", "()V"⟩) ∈ tW := tW_of 52 (by decide +kernel) rfl
theorem k_53 : (Cond.selects "ShortStrawModel" ⟨"ShortStrawModel", "layOrder", "(I)Z"⟩ ⟨"ShortStrawModel", "layOrder", "(I)Z"⟩) ∈ tW := tW_of 53 (by decide +kernel) rfl
theorem k_54 : (Cond.selects "ShortStrawModel" ⟨"ShortStrawModel", "has", "(II)Z"⟩ ⟨"ShortStrawModel", "has", "(II)Z"⟩) ∈ tW := tW_of 54 (by decide +kernel) rfl
theorem k_55 : (Cond.selects "ShortStrawModel" ⟨"ShortStrawModel", "putOrder", "()V"⟩ ⟨"ShortStrawModel", "putOrder", "()V"⟩) ∈ tW := tW_of 55 (by decide +kernel) rfl
theorem k_56 : (Cond.selects "ShortStrawModel" ⟨"ShortStrawModel", "lowest", "(JJI)J"⟩ ⟨"ShortStrawModel", "lowest", "(JJI)J"⟩) ∈ tW := tW_of 56 (by decide +kernel) rfl
theorem k_57 : (Cond.selects "ShortStrawModel" ⟨"ShortStrawModel", "divisor", "(JJ)J"⟩ ⟨"ShortStrawModel", "divisor", "(JJ)J"⟩) ∈ tW := tW_of 57 (by decide +kernel) rfl
theorem k_58 : (Cond.selects "ShortStrawModel" ⟨"ShortStrawModel", "isSeen", "(I)Z"⟩ ⟨"ShortStrawModel", "isSeen", "(I)Z"⟩) ∈ tW := tW_of 58 (by decide +kernel) rfl
theorem k_59 : (Cond.selects "ShortStrawModel" ⟨"ShortStrawModel", "save", "()V"⟩ ⟨"ShortStrawModel", "save", "()V"⟩) ∈ tW := tW_of 59 (by decide +kernel) rfl
theorem k_60 : (Cond.selects "ShortStrawModel" ⟨"ShortStrawModel", "putBack", "()V"⟩ ⟨"ShortStrawModel", "putBack", "()V"⟩) ∈ tW := tW_of 60 (by decide +kernel) rfl
theorem k_61 : (Cond.selects "ShortStrawModel" ⟨"ShortStrawModel", "isTape", "(I)Z"⟩ ⟨"ShortStrawModel", "isTape", "(I)Z"⟩) ∈ tW := tW_of 61 (by decide +kernel) rfl
theorem k_62 : (Cond.selects "ShortStrawModel" ⟨"ShortStrawModel", "drawsAct", "(II)I"⟩ ⟨"ShortStrawModel", "drawsAct", "(II)I"⟩) ∈ tW := tW_of 62 (by decide +kernel) rfl
theorem k_63 : (Cond.selects "ShortStrawModel" ⟨"ShortStrawModel", "body", "(I)V"⟩ ⟨"ShortStrawModel", "body", "(I)V"⟩) ∈ tW := tW_of 63 (by decide +kernel) rfl
theorem k_64 : (Cond.selects "ShortStrawModel" ⟨"ShortStrawModel", "drawerDraws", "(II)I"⟩ ⟨"ShortStrawModel", "drawerDraws", "(II)I"⟩) ∈ tW := tW_of 64 (by decide +kernel) rfl
theorem k_65 : (Cond.selects "ShortStrawModel" ⟨"ShortStrawModel", "showsAct", "(II)I"⟩ ⟨"ShortStrawModel", "showsAct", "(II)I"⟩) ∈ tW := tW_of 65 (by decide +kernel) rfl
theorem k_66 : (Cond.selects "ShortStrawModel" ⟨"ShortStrawModel", "keenShows", "(II)I"⟩ ⟨"ShortStrawModel", "keenShows", "(II)I"⟩) ∈ tW := tW_of 66 (by decide +kernel) rfl
theorem k_67 : (Cond.selects "ShortStrawModel" ⟨"ShortStrawModel", "drawerShows", "(II)I"⟩ ⟨"ShortStrawModel", "drawerShows", "(II)I"⟩) ∈ tW := tW_of 67 (by decide +kernel) rfl
theorem k_68 : (Cond.selects "ShortStrawModel" ⟨"ShortStrawModel", "tellsAct", "(II)I"⟩ ⟨"ShortStrawModel", "tellsAct", "(II)I"⟩) ∈ tW := tW_of 68 (by decide +kernel) rfl
theorem k_69 : (Cond.selects "ShortStrawModel" ⟨"ShortStrawModel", "drawerTells", "(II)I"⟩ ⟨"ShortStrawModel", "drawerTells", "(II)I"⟩) ∈ tW := tW_of 69 (by decide +kernel) rfl
theorem k_70 : (Cond.selects "ShortStrawModel" ⟨"ShortStrawModel", "narrow", "(IJ)J"⟩ ⟨"ShortStrawModel", "narrow", "(IJ)J"⟩) ∈ tW := tW_of 70 (by decide +kernel) rfl
theorem k_79 : (Cond.initialized "ShortStrawModel") ∈ tW := tW_of 79 (by decide +kernel) rfl
theorem k_859 : (Cond.methodLink "ShortStrawModel" 226 ⟨"ShortStrawModel", "layFist", "()V"⟩) ∈ tW := tW_of 859 (by decide +kernel) rfl
theorem k_861 : (Cond.instanceMethod ⟨"ShortStrawModel", "layFist", "()V"⟩) ∈ tW := tW_of 861 (by decide +kernel) rfl
theorem k_862 : (Cond.code ⟨"ShortStrawModel", "layFist", "()V"⟩ cX7_layFist 1 (none)) ∈ tW := tW_of 862 (by decide +kernel) rfl
theorem k_863 : (Cond.methodLink "ShortStrawModel" 303 ⟨"ShortStrawModel", "wholeShorts", "()I"⟩) ∈ tW := tW_of 863 (by decide +kernel) rfl
theorem k_865 : (Cond.instanceMethod ⟨"ShortStrawModel", "wholeShorts", "()I"⟩) ∈ tW := tW_of 865 (by decide +kernel) rfl
theorem k_866 : (Cond.code ⟨"ShortStrawModel", "wholeShorts", "()I"⟩ cX7_wholeShorts 2 (some .int)) ∈ tW := tW_of 866 (by decide +kernel) rfl
theorem k_867 : (Cond.methodLink "ShortStrawModel" 299 ⟨"ShortStrawModel", "lastOf", "(II)I"⟩) ∈ tW := tW_of 867 (by decide +kernel) rfl
theorem k_869 : (Cond.instanceMethod ⟨"ShortStrawModel", "lastOf", "(II)I"⟩) ∈ tW := tW_of 869 (by decide +kernel) rfl
theorem k_870 : (Cond.code ⟨"ShortStrawModel", "lastOf", "(II)I"⟩ cX7_lastOf 5 (some .int)) ∈ tW := tW_of 870 (by decide +kernel) rfl
theorem k_871 : (Cond.methodLink "ShortStrawModel" 293 ⟨"ShortStrawModel", "begin", "()I"⟩) ∈ tW := tW_of 871 (by decide +kernel) rfl
theorem k_873 : (Cond.instanceMethod ⟨"ShortStrawModel", "begin", "()I"⟩) ∈ tW := tW_of 873 (by decide +kernel) rfl
theorem k_874 : (Cond.code ⟨"ShortStrawModel", "begin", "()I"⟩ cX7_begin 1 (some .int)) ∈ tW := tW_of 874 (by decide +kernel) rfl
theorem k_875 : (Cond.methodLink "ShortStrawModel" 296 ⟨"ShortStrawModel", "behind", "()I"⟩) ∈ tW := tW_of 875 (by decide +kernel) rfl
theorem k_877 : (Cond.instanceMethod ⟨"ShortStrawModel", "behind", "()I"⟩) ∈ tW := tW_of 877 (by decide +kernel) rfl
theorem k_878 : (Cond.code ⟨"ShortStrawModel", "behind", "()I"⟩ cX7_behind 1 (some .int)) ∈ tW := tW_of 878 (by decide +kernel) rfl
theorem k_879 : (Cond.methodLink "ShortStrawModel" 306 ⟨"ShortStrawModel", "wholeLongs", "()I"⟩) ∈ tW := tW_of 879 (by decide +kernel) rfl
theorem k_881 : (Cond.instanceMethod ⟨"ShortStrawModel", "wholeLongs", "()I"⟩) ∈ tW := tW_of 881 (by decide +kernel) rfl
theorem k_882 : (Cond.code ⟨"ShortStrawModel", "wholeLongs", "()I"⟩ cX7_wholeLongs 3 (some .int)) ∈ tW := tW_of 882 (by decide +kernel) rfl
theorem k_883 : (Cond.fieldLink "ShortStrawModel" 1 "ShortStrawModel" "drawers" "I") ∈ tW := tW_of 883 (by decide +kernel) rfl
theorem k_884 : (Cond.fieldLink "ShortStrawModel" 18 "ShortStrawModel" "nights" "I") ∈ tW := tW_of 884 (by decide +kernel) rfl
theorem k_885 : (Cond.fieldLink "ShortStrawModel" 21 "ShortStrawModel" "shorts" "I") ∈ tW := tW_of 885 (by decide +kernel) rfl
theorem k_886 : (Cond.fieldLink "ShortStrawModel" 24 "ShortStrawModel" "longs" "I") ∈ tW := tW_of 886 (by decide +kernel) rfl
theorem k_887 : (Cond.fieldLink "ShortStrawModel" 27 "ShortStrawModel" "drawn" "I") ∈ tW := tW_of 887 (by decide +kernel) rfl
theorem k_888 : (Cond.fieldLink "ShortStrawModel" 30 "ShortStrawModel" "kind" "[I") ∈ tW := tW_of 888 (by decide +kernel) rfl
theorem k_889 : (Cond.fieldLink "ShortStrawModel" 34 "ShortStrawModel" "v" "[I") ∈ tW := tW_of 889 (by decide +kernel) rfl
theorem k_890 : (Cond.fieldLink "ShortStrawModel" 37 "ShortStrawModel" "sent" "[I") ∈ tW := tW_of 890 (by decide +kernel) rfl
theorem k_891 : (Cond.fieldLink "ShortStrawModel" 40 "ShortStrawModel" "rows" "[I") ∈ tW := tW_of 891 (by decide +kernel) rfl
theorem k_892 : (Cond.fieldLink "ShortStrawModel" 43 "ShortStrawModel" "order" "[I") ∈ tW := tW_of 892 (by decide +kernel) rfl
theorem k_893 : (Cond.fieldLink "ShortStrawModel" 46 "ShortStrawModel" "huts" "I") ∈ tW := tW_of 893 (by decide +kernel) rfl
theorem k_894 : (Cond.fieldLink "ShortStrawModel" 49 "ShortStrawModel" "the" "I") ∈ tW := tW_of 894 (by decide +kernel) rfl
theorem k_895 : (Cond.fieldLink "ShortStrawModel" 52 "ShortStrawModel" "fed" "I") ∈ tW := tW_of 895 (by decide +kernel) rfl
theorem k_896 : (Cond.fieldLink "ShortStrawModel" 55 "ShortStrawModel" "at" "I") ∈ tW := tW_of 896 (by decide +kernel) rfl
theorem k_897 : (Cond.fieldLink "ShortStrawModel" 58 "ShortStrawModel" "digits" "I") ∈ tW := tW_of 897 (by decide +kernel) rfl
theorem k_898 : (Cond.fieldLink "ShortStrawModel" 61 "ShortStrawModel" "text" "[I") ∈ tW := tW_of 898 (by decide +kernel) rfl
theorem k_899 : (Cond.fieldLink "ShortStrawModel" 64 "ShortStrawModel" "clauses" "[I") ∈ tW := tW_of 899 (by decide +kernel) rfl
theorem k_900 : (Cond.fieldLink "ShortStrawModel" 67 "ShortStrawModel" "word" "[I") ∈ tW := tW_of 900 (by decide +kernel) rfl
theorem k_901 : (Cond.fieldLink "ShortStrawModel" 70 "ShortStrawModel" "number" "[I") ∈ tW := tW_of 901 (by decide +kernel) rfl
theorem k_902 : (Cond.fieldLink "ShortStrawModel" 73 "ShortStrawModel" "from" "[I") ∈ tW := tW_of 902 (by decide +kernel) rfl
theorem k_903 : (Cond.fieldLink "ShortStrawModel" 76 "ShortStrawModel" "to" "[I") ∈ tW := tW_of 903 (by decide +kernel) rfl
theorem k_904 : (Cond.fieldLink "ShortStrawModel" 79 "ShortStrawModel" "sign" "[I") ∈ tW := tW_of 904 (by decide +kernel) rfl
theorem k_905 : (Cond.fieldLink "ShortStrawModel" 82 "ShortStrawModel" "waits" "[I") ∈ tW := tW_of 905 (by decide +kernel) rfl
theorem k_906 : (Cond.fieldLink "ShortStrawModel" 85 "ShortStrawModel" "signs" "I") ∈ tW := tW_of 906 (by decide +kernel) rfl
theorem k_907 : (Cond.fieldLink "ShortStrawModel" 88 "ShortStrawModel" "waiting" "I") ∈ tW := tW_of 907 (by decide +kernel) rfl
theorem k_908 : (Cond.fieldLink "ShortStrawModel" 91 "ShortStrawModel" "open" "I") ∈ tW := tW_of 908 (by decide +kernel) rfl
theorem k_909 : (Cond.fieldLink "ShortStrawModel" 94 "ShortStrawModel" "letters" "[I") ∈ tW := tW_of 909 (by decide +kernel) rfl
theorem k_910 : (Cond.fieldLink "ShortStrawModel" 97 "ShortStrawModel" "pile" "[Z") ∈ tW := tW_of 910 (by decide +kernel) rfl
theorem k_911 : (Cond.fieldLink "ShortStrawModel" 101 "ShortStrawModel" "shortsSeen" "I") ∈ tW := tW_of 911 (by decide +kernel) rfl
theorem k_912 : (Cond.fieldLink "ShortStrawModel" 104 "ShortStrawModel" "longsSeen" "I") ∈ tW := tW_of 912 (by decide +kernel) rfl
theorem k_913 : (Cond.fieldLink "ShortStrawModel" 107 "ShortStrawModel" "placeSeen" "I") ∈ tW := tW_of 913 (by decide +kernel) rfl
theorem k_914 : (Cond.fieldLink "ShortStrawModel" 110 "ShortStrawModel" "likely" "[I") ∈ tW := tW_of 914 (by decide +kernel) rfl
theorem k_915 : (Cond.fieldLink "ShortStrawModel" 113 "ShortStrawModel" "gone" "[I") ∈ tW := tW_of 915 (by decide +kernel) rfl
theorem k_916 : (Cond.fieldLink "ShortStrawModel" 116 "ShortStrawModel" "mass" "[I") ∈ tW := tW_of 916 (by decide +kernel) rfl
theorem k_917 : (Cond.fieldLink "ShortStrawModel" 119 "ShortStrawModel" "longsMore" "I") ∈ tW := tW_of 917 (by decide +kernel) rfl
theorem k_918 : (Cond.fieldLink "ShortStrawModel" 122 "ShortStrawModel" "keptOrder" "[I") ∈ tW := tW_of 918 (by decide +kernel) rfl
theorem k_919 : (Cond.fieldLink "ShortStrawModel" 125 "ShortStrawModel" "bestOrder" "[I") ∈ tW := tW_of 919 (by decide +kernel) rfl
theorem k_920 : (Cond.fieldLink "ShortStrawModel" 128 "ShortStrawModel" "keptShorts" "I") ∈ tW := tW_of 920 (by decide +kernel) rfl
theorem k_921 : (Cond.fieldLink "ShortStrawModel" 131 "ShortStrawModel" "keptLongs" "I") ∈ tW := tW_of 921 (by decide +kernel) rfl
theorem k_922 : (Cond.fieldLink "ShortStrawModel" 134 "ShortStrawModel" "keptDrawn" "I") ∈ tW := tW_of 922 (by decide +kernel) rfl
theorem k_923 : (Cond.fieldLink "ShortStrawModel" 137 "ShortStrawModel" "keptSent" "[I") ∈ tW := tW_of 923 (by decide +kernel) rfl
theorem k_924 : (Cond.fieldLink "ShortStrawModel" 140 "ShortStrawModel" "seen" "I") ∈ tW := tW_of 924 (by decide +kernel) rfl
theorem k_925 : (Cond.fieldLink "ShortStrawModel" 143 "ShortStrawModel" "seenDraw" "[I") ∈ tW := tW_of 925 (by decide +kernel) rfl
theorem k_926 : (Cond.fieldLink "ShortStrawModel" 146 "ShortStrawModel" "seenShort" "[Z") ∈ tW := tW_of 926 (by decide +kernel) rfl
theorem k_927 : (Cond.fieldLink "ShortStrawModel" 149 "ShortStrawModel" "books" "I") ∈ tW := tW_of 927 (by decide +kernel) rfl
theorem k_928 : (Cond.fieldLink "ShortStrawModel" 152 "ShortStrawModel" "book" "[I") ∈ tW := tW_of 928 (by decide +kernel) rfl
theorem k_929 : (Cond.fieldLink "ShortStrawModel" 155 "ShortStrawModel" "hasImage" "Z") ∈ tW := tW_of 929 (by decide +kernel) rfl
theorem k_930 : (Cond.fieldLink "ShortStrawModel" 159 "ShortStrawModel" "imageThe" "I") ∈ tW := tW_of 930 (by decide +kernel) rfl
theorem k_931 : (Cond.fieldLink "ShortStrawModel" 162 "ShortStrawModel" "imageDrawers" "I") ∈ tW := tW_of 931 (by decide +kernel) rfl
theorem k_932 : (Cond.fieldLink "ShortStrawModel" 165 "ShortStrawModel" "imageNights" "I") ∈ tW := tW_of 932 (by decide +kernel) rfl
theorem k_933 : (Cond.fieldLink "ShortStrawModel" 168 "ShortStrawModel" "imageShorts" "I") ∈ tW := tW_of 933 (by decide +kernel) rfl
theorem k_934 : (Cond.fieldLink "ShortStrawModel" 171 "ShortStrawModel" "imageLongs" "I") ∈ tW := tW_of 934 (by decide +kernel) rfl
theorem k_935 : (Cond.fieldLink "ShortStrawModel" 174 "ShortStrawModel" "imageDrawn" "I") ∈ tW := tW_of 935 (by decide +kernel) rfl
theorem k_936 : (Cond.fieldLink "ShortStrawModel" 177 "ShortStrawModel" "imageSeen" "I") ∈ tW := tW_of 936 (by decide +kernel) rfl
theorem k_937 : (Cond.fieldLink "ShortStrawModel" 180 "ShortStrawModel" "imageBooks" "I") ∈ tW := tW_of 937 (by decide +kernel) rfl
theorem k_938 : (Cond.fieldLink "ShortStrawModel" 183 "ShortStrawModel" "imageKind" "[I") ∈ tW := tW_of 938 (by decide +kernel) rfl
theorem k_939 : (Cond.fieldLink "ShortStrawModel" 186 "ShortStrawModel" "imageV" "[I") ∈ tW := tW_of 939 (by decide +kernel) rfl
theorem k_940 : (Cond.fieldLink "ShortStrawModel" 189 "ShortStrawModel" "imageSent" "[I") ∈ tW := tW_of 940 (by decide +kernel) rfl
theorem k_941 : (Cond.fieldLink "ShortStrawModel" 192 "ShortStrawModel" "imageOrder" "[I") ∈ tW := tW_of 941 (by decide +kernel) rfl
theorem k_942 : (Cond.fieldLink "ShortStrawModel" 195 "ShortStrawModel" "imageRows" "[I") ∈ tW := tW_of 942 (by decide +kernel) rfl
theorem k_943 : (Cond.fieldLink "ShortStrawModel" 198 "ShortStrawModel" "imageDraw" "[I") ∈ tW := tW_of 943 (by decide +kernel) rfl
theorem k_944 : (Cond.fieldLink "ShortStrawModel" 201 "ShortStrawModel" "imageBook" "[I") ∈ tW := tW_of 944 (by decide +kernel) rfl
theorem k_945 : (Cond.fieldLink "ShortStrawModel" 204 "ShortStrawModel" "imageShort" "[Z") ∈ tW := tW_of 945 (by decide +kernel) rfl
theorem k_946 : (Cond.fieldLink "ShortStrawModel" 207 "ShortStrawModel" "ran" "I") ∈ tW := tW_of 946 (by decide +kernel) rfl
theorem k_947 : (Cond.fieldLink "ShortStrawModel" 210 "ShortStrawModel" "bodies" "[I") ∈ tW := tW_of 947 (by decide +kernel) rfl
theorem k_948 : (Cond.fieldLink "ShortStrawModel" 213 "ShortStrawModel" "sort" "[I") ∈ tW := tW_of 948 (by decide +kernel) rfl
theorem k_949 : (Cond.fieldLink "ShortStrawModel" 216 "ShortStrawModel" "length" "[I") ∈ tW := tW_of 949 (by decide +kernel) rfl
theorem k_950 : (Cond.fieldLink "ShortStrawModel" 219 "ShortStrawModel" "item" "[J") ∈ tW := tW_of 950 (by decide +kernel) rfl
theorem k_951 : (Cond.fieldLink "ShortStrawModel" 223 "ShortStrawModel" "aside" "[J") ∈ tW := tW_of 951 (by decide +kernel) rfl
theorem k_1096 : (Cond.methodLink "ShortStrawModel" 7 ⟨"ShortStrawModel", "in", "(III)Z"⟩) ∈ tW := tW_of 1096 (by decide +kernel) rfl
theorem k_1098 : (Cond.instanceMethod ⟨"ShortStrawModel", "in", "(III)Z"⟩) ∈ tW := tW_of 1098 (by decide +kernel) rfl
theorem k_1099 : (Cond.code ⟨"ShortStrawModel", "in", "(III)Z"⟩ cX7_in 4 (some .boolean)) ∈ tW := tW_of 1099 (by decide +kernel) rfl
theorem k_1104 : (Cond.methodLink "ShortStrawModel" 229 ⟨"ShortStrawModel", "isDrawer", "(I)Z"⟩) ∈ tW := tW_of 1104 (by decide +kernel) rfl
theorem k_1106 : (Cond.instanceMethod ⟨"ShortStrawModel", "isDrawer", "(I)Z"⟩) ∈ tW := tW_of 1106 (by decide +kernel) rfl
theorem k_1107 : (Cond.code ⟨"ShortStrawModel", "isDrawer", "(I)Z"⟩ cX7_isDrawer 2 (some .boolean)) ∈ tW := tW_of 1107 (by decide +kernel) rfl
theorem k_1116 : (Cond.methodLink "ShortStrawModel" 233 ⟨"ShortStrawModel", "placeOf", "(I)I"⟩) ∈ tW := tW_of 1116 (by decide +kernel) rfl
theorem k_1118 : (Cond.instanceMethod ⟨"ShortStrawModel", "placeOf", "(I)I"⟩) ∈ tW := tW_of 1118 (by decide +kernel) rfl
theorem k_1119 : (Cond.code ⟨"ShortStrawModel", "placeOf", "(I)I"⟩ cX7_placeOf 3 (some .int)) ∈ tW := tW_of 1119 (by decide +kernel) rfl
theorem k_1120 : (Cond.methodLink "ShortStrawModel" 237 ⟨"ShortStrawModel", "puts", "(II)V"⟩) ∈ tW := tW_of 1120 (by decide +kernel) rfl
theorem k_1122 : (Cond.instanceMethod ⟨"ShortStrawModel", "puts", "(II)V"⟩) ∈ tW := tW_of 1122 (by decide +kernel) rfl
theorem k_1123 : (Cond.code ⟨"ShortStrawModel", "puts", "(II)V"⟩ cX7_puts 5 (none)) ∈ tW := tW_of 1123 (by decide +kernel) rfl
theorem k_1132 : (Cond.methodLink "ShortStrawModel" 290 ⟨"ShortStrawModel", "goesText", "(I)Z"⟩) ∈ tW := tW_of 1132 (by decide +kernel) rfl
theorem k_1134 : (Cond.instanceMethod ⟨"ShortStrawModel", "goesText", "(I)Z"⟩) ∈ tW := tW_of 1134 (by decide +kernel) rfl
theorem k_1135 : (Cond.code ⟨"ShortStrawModel", "goesText", "(I)Z"⟩ cX7_goesText 3 (some .boolean)) ∈ tW := tW_of 1135 (by decide +kernel) rfl
theorem k_1136 : (Cond.methodLink "ShortStrawModel" 287 ⟨"ShortStrawModel", "takesClause", "(I)Z"⟩) ∈ tW := tW_of 1136 (by decide +kernel) rfl
theorem k_1138 : (Cond.instanceMethod ⟨"ShortStrawModel", "takesClause", "(I)Z"⟩) ∈ tW := tW_of 1138 (by decide +kernel) rfl
theorem k_1139 : (Cond.code ⟨"ShortStrawModel", "takesClause", "(I)Z"⟩ cX7_takesClause 2 (some .boolean)) ∈ tW := tW_of 1139 (by decide +kernel) rfl
theorem k_1140 : (Cond.methodLink "ShortStrawModel" 281 ⟨"ShortStrawModel", "takesHead", "(I)Z"⟩) ∈ tW := tW_of 1140 (by decide +kernel) rfl
theorem k_1142 : (Cond.instanceMethod ⟨"ShortStrawModel", "takesHead", "(I)Z"⟩) ∈ tW := tW_of 1142 (by decide +kernel) rfl
theorem k_1143 : (Cond.code ⟨"ShortStrawModel", "takesHead", "(I)Z"⟩ cX7_takesHead 2 (some .boolean)) ∈ tW := tW_of 1143 (by decide +kernel) rfl
theorem k_1144 : (Cond.methodLink "ShortStrawModel" 241 ⟨"ShortStrawModel", "next", "()I"⟩) ∈ tW := tW_of 1144 (by decide +kernel) rfl
theorem k_1146 : (Cond.instanceMethod ⟨"ShortStrawModel", "next", "()I"⟩) ∈ tW := tW_of 1146 (by decide +kernel) rfl
theorem k_1147 : (Cond.code ⟨"ShortStrawModel", "next", "()I"⟩ cX7_next 1 (some .int)) ∈ tW := tW_of 1147 (by decide +kernel) rfl
theorem k_1148 : (Cond.methodLink "ShortStrawModel" 271 ⟨"ShortStrawModel", "takesWord", "(II)Z"⟩) ∈ tW := tW_of 1148 (by decide +kernel) rfl
theorem k_1150 : (Cond.instanceMethod ⟨"ShortStrawModel", "takesWord", "(II)Z"⟩) ∈ tW := tW_of 1150 (by decide +kernel) rfl
theorem k_1151 : (Cond.code ⟨"ShortStrawModel", "takesWord", "(II)Z"⟩ cX7_takesWord 4 (some .boolean)) ∈ tW := tW_of 1151 (by decide +kernel) rfl
theorem k_1152 : (Cond.methodLink "ShortStrawModel" 245 ⟨"ShortStrawModel", "takes", "(I)Z"⟩) ∈ tW := tW_of 1152 (by decide +kernel) rfl
theorem k_1154 : (Cond.instanceMethod ⟨"ShortStrawModel", "takes", "(I)Z"⟩) ∈ tW := tW_of 1154 (by decide +kernel) rfl
theorem k_1155 : (Cond.code ⟨"ShortStrawModel", "takes", "(I)Z"⟩ cX7_takes 2 (some .boolean)) ∈ tW := tW_of 1155 (by decide +kernel) rfl
theorem k_1156 : (Cond.methodLink "ShortStrawModel" 275 ⟨"ShortStrawModel", "second", "()I"⟩) ∈ tW := tW_of 1156 (by decide +kernel) rfl
theorem k_1158 : (Cond.instanceMethod ⟨"ShortStrawModel", "second", "()I"⟩) ∈ tW := tW_of 1158 (by decide +kernel) rfl
theorem k_1159 : (Cond.code ⟨"ShortStrawModel", "second", "()I"⟩ cX7_second 1 (some .int)) ∈ tW := tW_of 1159 (by decide +kernel) rfl
theorem k_1160 : (Cond.methodLink "ShortStrawModel" 278 ⟨"ShortStrawModel", "third", "()I"⟩) ∈ tW := tW_of 1160 (by decide +kernel) rfl
theorem k_1162 : (Cond.instanceMethod ⟨"ShortStrawModel", "third", "()I"⟩) ∈ tW := tW_of 1162 (by decide +kernel) rfl
theorem k_1163 : (Cond.code ⟨"ShortStrawModel", "third", "()I"⟩ cX7_third 1 (some .int)) ∈ tW := tW_of 1163 (by decide +kernel) rfl
theorem k_1164 : (Cond.methodLink "ShortStrawModel" 259 ⟨"ShortStrawModel", "takesNumber", "()Z"⟩) ∈ tW := tW_of 1164 (by decide +kernel) rfl
theorem k_1166 : (Cond.instanceMethod ⟨"ShortStrawModel", "takesNumber", "()Z"⟩) ∈ tW := tW_of 1166 (by decide +kernel) rfl
theorem k_1167 : (Cond.code ⟨"ShortStrawModel", "takesNumber", "()Z"⟩ cX7_takesNumber 2 (some .boolean)) ∈ tW := tW_of 1167 (by decide +kernel) rfl
theorem k_1168 : (Cond.methodLink "ShortStrawModel" 248 ⟨"ShortStrawModel", "isDigit", "()Z"⟩) ∈ tW := tW_of 1168 (by decide +kernel) rfl
theorem k_1170 : (Cond.instanceMethod ⟨"ShortStrawModel", "isDigit", "()Z"⟩) ∈ tW := tW_of 1170 (by decide +kernel) rfl
theorem k_1171 : (Cond.code ⟨"ShortStrawModel", "isDigit", "()Z"⟩ cX7_isDigit 1 (some .boolean)) ∈ tW := tW_of 1171 (by decide +kernel) rfl
theorem k_1172 : (Cond.methodLink "ShortStrawModel" 284 ⟨"ShortStrawModel", "takesE", "(I)Z"⟩) ∈ tW := tW_of 1172 (by decide +kernel) rfl
theorem k_1174 : (Cond.instanceMethod ⟨"ShortStrawModel", "takesE", "(I)Z"⟩) ∈ tW := tW_of 1174 (by decide +kernel) rfl
theorem k_1175 : (Cond.code ⟨"ShortStrawModel", "takesE", "(I)Z"⟩ cX7_takesE 4 (some .boolean)) ∈ tW := tW_of 1175 (by decide +kernel) rfl
theorem k_1176 : (Cond.methodLink "ShortStrawModel" 265 ⟨"ShortStrawModel", "takesTest", "()Z"⟩) ∈ tW := tW_of 1176 (by decide +kernel) rfl
theorem k_1178 : (Cond.instanceMethod ⟨"ShortStrawModel", "takesTest", "()Z"⟩) ∈ tW := tW_of 1178 (by decide +kernel) rfl
theorem k_1179 : (Cond.code ⟨"ShortStrawModel", "takesTest", "()Z"⟩ cX7_takesTest 3 (some .boolean)) ∈ tW := tW_of 1179 (by decide +kernel) rfl
theorem k_1180 : (Cond.methodLink "ShortStrawModel" 256 ⟨"ShortStrawModel", "letterAt", "(I)I"⟩) ∈ tW := tW_of 1180 (by decide +kernel) rfl
theorem k_1182 : (Cond.instanceMethod ⟨"ShortStrawModel", "letterAt", "(I)I"⟩) ∈ tW := tW_of 1182 (by decide +kernel) rfl
theorem k_1183 : (Cond.code ⟨"ShortStrawModel", "letterAt", "(I)I"⟩ cX7_letterAt 2 (some .int)) ∈ tW := tW_of 1183 (by decide +kernel) rfl
theorem k_1184 : (Cond.methodLink "ShortStrawModel" 252 ⟨"ShortStrawModel", "emits", "(I)V"⟩) ∈ tW := tW_of 1184 (by decide +kernel) rfl
theorem k_1186 : (Cond.instanceMethod ⟨"ShortStrawModel", "emits", "(I)V"⟩) ∈ tW := tW_of 1186 (by decide +kernel) rfl
theorem k_1187 : (Cond.code ⟨"ShortStrawModel", "emits", "(I)V"⟩ cX7_emits 2 (none)) ∈ tW := tW_of 1187 (by decide +kernel) rfl
theorem k_1188 : (Cond.methodLink "ShortStrawModel" 262 ⟨"ShortStrawModel", "whole", "()V"⟩) ∈ tW := tW_of 1188 (by decide +kernel) rfl
theorem k_1190 : (Cond.instanceMethod ⟨"ShortStrawModel", "whole", "()V"⟩) ∈ tW := tW_of 1190 (by decide +kernel) rfl
theorem k_1191 : (Cond.code ⟨"ShortStrawModel", "whole", "()V"⟩ cX7_whole 1 (none)) ∈ tW := tW_of 1191 (by decide +kernel) rfl
theorem k_1192 : (Cond.methodLink "ShortStrawModel" 268 ⟨"ShortStrawModel", "settle", "(I)V"⟩) ∈ tW := tW_of 1192 (by decide +kernel) rfl
theorem k_1194 : (Cond.instanceMethod ⟨"ShortStrawModel", "settle", "(I)V"⟩) ∈ tW := tW_of 1194 (by decide +kernel) rfl
theorem k_1195 : (Cond.code ⟨"ShortStrawModel", "settle", "(I)V"⟩ cX7_settle 2 (none)) ∈ tW := tW_of 1195 (by decide +kernel) rfl
theorem k_1200 : (Cond.methodLink "ShortStrawModel" 322 ⟨"ShortStrawModel", "pull", "(IIII)I"⟩) ∈ tW := tW_of 1200 (by decide +kernel) rfl
theorem k_1202 : (Cond.instanceMethod ⟨"ShortStrawModel", "pull", "(IIII)I"⟩) ∈ tW := tW_of 1202 (by decide +kernel) rfl
theorem k_1203 : (Cond.code ⟨"ShortStrawModel", "pull", "(IIII)I"⟩ cX7_pull 5 (some .int)) ∈ tW := tW_of 1203 (by decide +kernel) rfl
theorem k_1204 : (Cond.methodLink "ShortStrawModel" 318 ⟨"ShortStrawModel", "keenly", "(I)I"⟩) ∈ tW := tW_of 1204 (by decide +kernel) rfl
theorem k_1206 : (Cond.instanceMethod ⟨"ShortStrawModel", "keenly", "(I)I"⟩) ∈ tW := tW_of 1206 (by decide +kernel) rfl
theorem k_1207 : (Cond.code ⟨"ShortStrawModel", "keenly", "(I)I"⟩ cX7_keenly 3 (some .int)) ∈ tW := tW_of 1207 (by decide +kernel) rfl
theorem k_1208 : (Cond.methodLink "ShortStrawModel" 315 ⟨"ShortStrawModel", "plainly", "(I)I"⟩) ∈ tW := tW_of 1208 (by decide +kernel) rfl
theorem k_1210 : (Cond.instanceMethod ⟨"ShortStrawModel", "plainly", "(I)I"⟩) ∈ tW := tW_of 1210 (by decide +kernel) rfl
theorem k_1211 : (Cond.code ⟨"ShortStrawModel", "plainly", "(I)I"⟩ cX7_plainly 4 (some .int)) ∈ tW := tW_of 1211 (by decide +kernel) rfl
theorem k_1212 : (Cond.methodLink "ShortStrawModel" 312 ⟨"ShortStrawModel", "holds", "(II)Z"⟩) ∈ tW := tW_of 1212 (by decide +kernel) rfl
theorem k_1214 : (Cond.instanceMethod ⟨"ShortStrawModel", "holds", "(II)Z"⟩) ∈ tW := tW_of 1214 (by decide +kernel) rfl
theorem k_1215 : (Cond.code ⟨"ShortStrawModel", "holds", "(II)Z"⟩ cX7_holds 8 (some .boolean)) ∈ tW := tW_of 1215 (by decide +kernel) rfl
theorem k_1216 : (Cond.methodLink "ShortStrawModel" 309 ⟨"ShortStrawModel", "factOf", "(II)I"⟩) ∈ tW := tW_of 1216 (by decide +kernel) rfl
theorem k_1218 : (Cond.instanceMethod ⟨"ShortStrawModel", "factOf", "(II)I"⟩) ∈ tW := tW_of 1218 (by decide +kernel) rfl
theorem k_1219 : (Cond.code ⟨"ShortStrawModel", "factOf", "(II)I"⟩ cX7_factOf 3 (some .int)) ∈ tW := tW_of 1219 (by decide +kernel) rfl
theorem k_1220 : (Cond.methodLink "ShortStrawModel" 330 ⟨"ShortStrawModel", "chance", "(IIII)I"⟩) ∈ tW := tW_of 1220 (by decide +kernel) rfl
theorem k_1222 : (Cond.instanceMethod ⟨"ShortStrawModel", "chance", "(IIII)I"⟩) ∈ tW := tW_of 1222 (by decide +kernel) rfl
theorem k_1223 : (Cond.code ⟨"ShortStrawModel", "chance", "(IIII)I"⟩ cX7_chance 7 (some .int)) ∈ tW := tW_of 1223 (by decide +kernel) rfl
theorem k_1224 : (Cond.constant "ShortStrawModel" 321 (1000000)) ∈ tW := tW_of 1224 (by decide +kernel) rfl
theorem k_1225 : (Cond.constantLong "ShortStrawModel" 326 (1000000)) ∈ tW := tW_of 1225 (by decide +kernel) rfl
theorem k_1226 : (Cond.constantLong "ShortStrawModel" 328 (10)) ∈ tW := tW_of 1226 (by decide +kernel) rfl
theorem k_1235 : (Cond.methodLink "ShortStrawModel" 333 ⟨"ShortStrawModel", "isDraw", "(I)Z"⟩) ∈ tW := tW_of 1235 (by decide +kernel) rfl
theorem k_1237 : (Cond.instanceMethod ⟨"ShortStrawModel", "isDraw", "(I)Z"⟩) ∈ tW := tW_of 1237 (by decide +kernel) rfl
theorem k_1238 : (Cond.code ⟨"ShortStrawModel", "isDraw", "(I)Z"⟩ cX7_isDraw 2 (some .boolean)) ∈ tW := tW_of 1238 (by decide +kernel) rfl
theorem k_1239 : (Cond.constant "ShortStrawModel" 11 (999999)) ∈ tW := tW_of 1239 (by decide +kernel) rfl
theorem k_1240 : (Cond.methodLink "ShortStrawModel" 336 ⟨"ShortStrawModel", "goDraw", "(I)Z"⟩) ∈ tW := tW_of 1240 (by decide +kernel) rfl
theorem k_1242 : (Cond.instanceMethod ⟨"ShortStrawModel", "goDraw", "(I)Z"⟩) ∈ tW := tW_of 1242 (by decide +kernel) rfl
theorem k_1243 : (Cond.code ⟨"ShortStrawModel", "goDraw", "(I)Z"⟩ cX7_goDraw 4 (some .boolean)) ∈ tW := tW_of 1243 (by decide +kernel) rfl
theorem k_1244 : (Cond.methodLink "ShortStrawModel" 339 ⟨"ShortStrawModel", "isEnd", "()Z"⟩) ∈ tW := tW_of 1244 (by decide +kernel) rfl
theorem k_1246 : (Cond.instanceMethod ⟨"ShortStrawModel", "isEnd", "()Z"⟩) ∈ tW := tW_of 1246 (by decide +kernel) rfl
theorem k_1247 : (Cond.code ⟨"ShortStrawModel", "isEnd", "()Z"⟩ cX7_isEnd 1 (some .boolean)) ∈ tW := tW_of 1247 (by decide +kernel) rfl
theorem k_1252 : (Cond.methodLink "ShortStrawModel" 342 ⟨"ShortStrawModel", "layLikely", "()V"⟩) ∈ tW := tW_of 1252 (by decide +kernel) rfl
theorem k_1254 : (Cond.instanceMethod ⟨"ShortStrawModel", "layLikely", "()V"⟩) ∈ tW := tW_of 1254 (by decide +kernel) rfl
theorem k_1255 : (Cond.code ⟨"ShortStrawModel", "layLikely", "()V"⟩ cX7_layLikely 7 (none)) ∈ tW := tW_of 1255 (by decide +kernel) rfl
theorem k_1260 : (Cond.methodLink "ShortStrawModel" 345 ⟨"ShortStrawModel", "evenNow", "()I"⟩) ∈ tW := tW_of 1260 (by decide +kernel) rfl
theorem k_1262 : (Cond.instanceMethod ⟨"ShortStrawModel", "evenNow", "()I"⟩) ∈ tW := tW_of 1262 (by decide +kernel) rfl
theorem k_1263 : (Cond.code ⟨"ShortStrawModel", "evenNow", "()I"⟩ cX7_evenNow 4 (some .int)) ∈ tW := tW_of 1263 (by decide +kernel) rfl
theorem k_1268 : (Cond.constant "ShortStrawModel" 351 (1000001)) ∈ tW := tW_of 1268 (by decide +kernel) rfl
theorem k_1269 : (Cond.methodLink "ShortStrawModel" 352 ⟨"ShortStrawModel", "keepOrder", "()V"⟩) ∈ tW := tW_of 1269 (by decide +kernel) rfl
theorem k_1271 : (Cond.instanceMethod ⟨"ShortStrawModel", "keepOrder", "()V"⟩) ∈ tW := tW_of 1271 (by decide +kernel) rfl
theorem k_1272 : (Cond.code ⟨"ShortStrawModel", "keepOrder", "()V"⟩ cX7_keepOrder 2 (none)) ∈ tW := tW_of 1272 (by decide +kernel) rfl
theorem k_1273 : (Cond.methodLink "ShortStrawModel" 355 ⟨"ShortStrawModel", "layOrder", "(I)Z"⟩) ∈ tW := tW_of 1273 (by decide +kernel) rfl
theorem k_1275 : (Cond.instanceMethod ⟨"ShortStrawModel", "layOrder", "(I)Z"⟩) ∈ tW := tW_of 1275 (by decide +kernel) rfl
theorem k_1276 : (Cond.code ⟨"ShortStrawModel", "layOrder", "(I)Z"⟩ cX7_layOrder 8 (some .boolean)) ∈ tW := tW_of 1276 (by decide +kernel) rfl
theorem k_1277 : (Cond.methodLink "ShortStrawModel" 348 ⟨"ShortStrawModel", "has", "(II)Z"⟩) ∈ tW := tW_of 1277 (by decide +kernel) rfl
theorem k_1279 : (Cond.instanceMethod ⟨"ShortStrawModel", "has", "(II)Z"⟩) ∈ tW := tW_of 1279 (by decide +kernel) rfl
theorem k_1280 : (Cond.code ⟨"ShortStrawModel", "has", "(II)Z"⟩ cX7_has 3 (some .boolean)) ∈ tW := tW_of 1280 (by decide +kernel) rfl
theorem k_1281 : (Cond.methodLink "ShortStrawModel" 358 ⟨"ShortStrawModel", "putOrder", "()V"⟩) ∈ tW := tW_of 1281 (by decide +kernel) rfl
theorem k_1283 : (Cond.instanceMethod ⟨"ShortStrawModel", "putOrder", "()V"⟩) ∈ tW := tW_of 1283 (by decide +kernel) rfl
theorem k_1284 : (Cond.code ⟨"ShortStrawModel", "putOrder", "()V"⟩ cX7_putOrder 2 (none)) ∈ tW := tW_of 1284 (by decide +kernel) rfl
theorem k_1301 : (Cond.constantLong "ShortStrawModel" 365 (-9223372036854775808)) ∈ tW := tW_of 1301 (by decide +kernel) rfl
theorem k_1302 : (Cond.constantLong "ShortStrawModel" 367 (2)) ∈ tW := tW_of 1302 (by decide +kernel) rfl
theorem k_1303 : (Cond.methodLink "ShortStrawModel" 369 ⟨"ShortStrawModel", "lowest", "(JJI)J"⟩) ∈ tW := tW_of 1303 (by decide +kernel) rfl
theorem k_1305 : (Cond.instanceMethod ⟨"ShortStrawModel", "lowest", "(JJI)J"⟩) ∈ tW := tW_of 1305 (by decide +kernel) rfl
theorem k_1306 : (Cond.code ⟨"ShortStrawModel", "lowest", "(JJI)J"⟩ cX7_lowest 8 (some .long)) ∈ tW := tW_of 1306 (by decide +kernel) rfl
theorem k_1307 : (Cond.methodLink "ShortStrawModel" 361 ⟨"ShortStrawModel", "divisor", "(JJ)J"⟩) ∈ tW := tW_of 1307 (by decide +kernel) rfl
theorem k_1309 : (Cond.instanceMethod ⟨"ShortStrawModel", "divisor", "(JJ)J"⟩) ∈ tW := tW_of 1309 (by decide +kernel) rfl
theorem k_1310 : (Cond.code ⟨"ShortStrawModel", "divisor", "(JJ)J"⟩ cX7_divisor 11 (some .long)) ∈ tW := tW_of 1310 (by decide +kernel) rfl
theorem k_1311 : (Cond.constantLong "ShortStrawModel" 373 (10000)) ∈ tW := tW_of 1311 (by decide +kernel) rfl
theorem k_1336 : (Cond.methodLink "ShortStrawModel" 381 ⟨"ShortStrawModel", "isSeen", "(I)Z"⟩) ∈ tW := tW_of 1336 (by decide +kernel) rfl
theorem k_1338 : (Cond.instanceMethod ⟨"ShortStrawModel", "isSeen", "(I)Z"⟩) ∈ tW := tW_of 1338 (by decide +kernel) rfl
theorem k_1339 : (Cond.code ⟨"ShortStrawModel", "isSeen", "(I)Z"⟩ cX7_isSeen 5 (some .boolean)) ∈ tW := tW_of 1339 (by decide +kernel) rfl
theorem k_1340 : (Cond.methodLink "ShortStrawModel" 375 ⟨"ShortStrawModel", "save", "()V"⟩) ∈ tW := tW_of 1340 (by decide +kernel) rfl
theorem k_1342 : (Cond.instanceMethod ⟨"ShortStrawModel", "save", "()V"⟩) ∈ tW := tW_of 1342 (by decide +kernel) rfl
theorem k_1343 : (Cond.code ⟨"ShortStrawModel", "save", "()V"⟩ cX7_save 2 (none)) ∈ tW := tW_of 1343 (by decide +kernel) rfl
theorem k_1344 : (Cond.methodLink "ShortStrawModel" 378 ⟨"ShortStrawModel", "putBack", "()V"⟩) ∈ tW := tW_of 1344 (by decide +kernel) rfl
theorem k_1346 : (Cond.instanceMethod ⟨"ShortStrawModel", "putBack", "()V"⟩) ∈ tW := tW_of 1346 (by decide +kernel) rfl
theorem k_1347 : (Cond.code ⟨"ShortStrawModel", "putBack", "()V"⟩ cX7_putBack 2 (none)) ∈ tW := tW_of 1347 (by decide +kernel) rfl
theorem k_1368 : (Cond.methodLink "ShortStrawModel" 384 ⟨"ShortStrawModel", "isTape", "(I)Z"⟩) ∈ tW := tW_of 1368 (by decide +kernel) rfl
theorem k_1370 : (Cond.instanceMethod ⟨"ShortStrawModel", "isTape", "(I)Z"⟩) ∈ tW := tW_of 1370 (by decide +kernel) rfl
theorem k_1371 : (Cond.code ⟨"ShortStrawModel", "isTape", "(I)Z"⟩ cX7_isTape 2 (some .boolean)) ∈ tW := tW_of 1371 (by decide +kernel) rfl
theorem k_1384 : (Cond.methodLink "ShortStrawModel" 393 ⟨"ShortStrawModel", "drawsAct", "(II)I"⟩) ∈ tW := tW_of 1384 (by decide +kernel) rfl
theorem k_1386 : (Cond.instanceMethod ⟨"ShortStrawModel", "drawsAct", "(II)I"⟩) ∈ tW := tW_of 1386 (by decide +kernel) rfl
theorem k_1387 : (Cond.code ⟨"ShortStrawModel", "drawsAct", "(II)I"⟩ cX7_drawsAct 3 (some .int)) ∈ tW := tW_of 1387 (by decide +kernel) rfl
theorem k_1388 : (Cond.methodLink "ShortStrawModel" 387 ⟨"ShortStrawModel", "body", "(I)V"⟩) ∈ tW := tW_of 1388 (by decide +kernel) rfl
theorem k_1390 : (Cond.instanceMethod ⟨"ShortStrawModel", "body", "(I)V"⟩) ∈ tW := tW_of 1390 (by decide +kernel) rfl
theorem k_1391 : (Cond.code ⟨"ShortStrawModel", "body", "(I)V"⟩ cX7_body 2 (none)) ∈ tW := tW_of 1391 (by decide +kernel) rfl
theorem k_1392 : (Cond.methodLink "ShortStrawModel" 390 ⟨"ShortStrawModel", "drawerDraws", "(II)I"⟩) ∈ tW := tW_of 1392 (by decide +kernel) rfl
theorem k_1394 : (Cond.instanceMethod ⟨"ShortStrawModel", "drawerDraws", "(II)I"⟩) ∈ tW := tW_of 1394 (by decide +kernel) rfl
theorem k_1395 : (Cond.code ⟨"ShortStrawModel", "drawerDraws", "(II)I"⟩ cX7_drawerDraws 3 (some .int)) ∈ tW := tW_of 1395 (by decide +kernel) rfl
theorem k_1396 : (Cond.methodLink "ShortStrawModel" 402 ⟨"ShortStrawModel", "showsAct", "(II)I"⟩) ∈ tW := tW_of 1396 (by decide +kernel) rfl
theorem k_1398 : (Cond.instanceMethod ⟨"ShortStrawModel", "showsAct", "(II)I"⟩) ∈ tW := tW_of 1398 (by decide +kernel) rfl
theorem k_1399 : (Cond.code ⟨"ShortStrawModel", "showsAct", "(II)I"⟩ cX7_showsAct 4 (some .int)) ∈ tW := tW_of 1399 (by decide +kernel) rfl
theorem k_1400 : (Cond.methodLink "ShortStrawModel" 399 ⟨"ShortStrawModel", "keenShows", "(II)I"⟩) ∈ tW := tW_of 1400 (by decide +kernel) rfl
theorem k_1402 : (Cond.instanceMethod ⟨"ShortStrawModel", "keenShows", "(II)I"⟩) ∈ tW := tW_of 1402 (by decide +kernel) rfl
theorem k_1403 : (Cond.code ⟨"ShortStrawModel", "keenShows", "(II)I"⟩ cX7_keenShows 3 (some .int)) ∈ tW := tW_of 1403 (by decide +kernel) rfl
theorem k_1404 : (Cond.methodLink "ShortStrawModel" 396 ⟨"ShortStrawModel", "drawerShows", "(II)I"⟩) ∈ tW := tW_of 1404 (by decide +kernel) rfl
theorem k_1406 : (Cond.instanceMethod ⟨"ShortStrawModel", "drawerShows", "(II)I"⟩) ∈ tW := tW_of 1406 (by decide +kernel) rfl
theorem k_1407 : (Cond.code ⟨"ShortStrawModel", "drawerShows", "(II)I"⟩ cX7_drawerShows 3 (some .int)) ∈ tW := tW_of 1407 (by decide +kernel) rfl
theorem k_1408 : (Cond.methodLink "ShortStrawModel" 408 ⟨"ShortStrawModel", "tellsAct", "(II)I"⟩) ∈ tW := tW_of 1408 (by decide +kernel) rfl
theorem k_1410 : (Cond.instanceMethod ⟨"ShortStrawModel", "tellsAct", "(II)I"⟩) ∈ tW := tW_of 1410 (by decide +kernel) rfl
theorem k_1411 : (Cond.code ⟨"ShortStrawModel", "tellsAct", "(II)I"⟩ cX7_tellsAct 4 (some .int)) ∈ tW := tW_of 1411 (by decide +kernel) rfl
theorem k_1412 : (Cond.methodLink "ShortStrawModel" 405 ⟨"ShortStrawModel", "drawerTells", "(II)I"⟩) ∈ tW := tW_of 1412 (by decide +kernel) rfl
theorem k_1414 : (Cond.instanceMethod ⟨"ShortStrawModel", "drawerTells", "(II)I"⟩) ∈ tW := tW_of 1414 (by decide +kernel) rfl
theorem k_1415 : (Cond.code ⟨"ShortStrawModel", "drawerTells", "(II)I"⟩ cX7_drawerTells 3 (some .int)) ∈ tW := tW_of 1415 (by decide +kernel) rfl
theorem k_1436 : (Cond.methodLink "ShortStrawModel" 411 ⟨"ShortStrawModel", "narrow", "(IJ)J"⟩) ∈ tW := tW_of 1436 (by decide +kernel) rfl
theorem k_1438 : (Cond.instanceMethod ⟨"ShortStrawModel", "narrow", "(IJ)J"⟩) ∈ tW := tW_of 1438 (by decide +kernel) rfl
theorem k_1439 : (Cond.code ⟨"ShortStrawModel", "narrow", "(IJ)J"⟩ cX7_narrow 4 (some .long)) ∈ tW := tW_of 1439 (by decide +kernel) rfl
theorem lb_m38 : (Int8.ofInt (-38)).toInt32 = (-38) := by decide
theorem lb_m33 : (Int8.ofInt (-33)).toInt32 = (-33) := by decide
theorem lb_m14 : (Int8.ofInt (-14)).toInt32 = (-14) := by decide
theorem lb_m13 : (Int8.ofInt (-13)).toInt32 = (-13) := by decide
theorem lb_m12 : (Int8.ofInt (-12)).toInt32 = (-12) := by decide
theorem lb_m11 : (Int8.ofInt (-11)).toInt32 = (-11) := by decide
theorem lb_m10 : (Int8.ofInt (-10)).toInt32 = (-10) := by decide
theorem lb_m9 : (Int8.ofInt (-9)).toInt32 = (-9) := by decide
theorem lb_m5 : (Int8.ofInt (-5)).toInt32 = (-5) := by decide
theorem lb_m4 : (Int8.ofInt (-4)).toInt32 = (-4) := by decide
theorem lb_m3 : (Int8.ofInt (-3)).toInt32 = (-3) := by decide
theorem lb_m2 : (Int8.ofInt (-2)).toInt32 = (-2) := by decide
theorem lb_6 : (Int8.ofInt (6)).toInt32 = 6 := by decide
theorem lb_7 : (Int8.ofInt (7)).toInt32 = 7 := by decide
theorem lb_8 : (Int8.ofInt (8)).toInt32 = 8 := by decide
theorem lb_9 : (Int8.ofInt (9)).toInt32 = 9 := by decide
theorem lb_10 : (Int8.ofInt (10)).toInt32 = 10 := by decide
theorem lb_11 : (Int8.ofInt (11)).toInt32 = 11 := by decide
theorem lb_12 : (Int8.ofInt (12)).toInt32 = 12 := by decide
theorem lb_16 : (Int8.ofInt (16)).toInt32 = 16 := by decide
theorem lb_19 : (Int8.ofInt (19)).toInt32 = 19 := by decide
theorem lb_20 : (Int8.ofInt (20)).toInt32 = 20 := by decide
theorem lb_21 : (Int8.ofInt (21)).toInt32 = 21 := by decide
theorem lb_24 : (Int8.ofInt (24)).toInt32 = 24 := by decide
theorem lb_30 : (Int8.ofInt (30)).toInt32 = 30 := by decide
theorem lb_32 : (Int8.ofInt (32)).toInt32 = 32 := by decide
theorem lb_33 : (Int8.ofInt (33)).toInt32 = 33 := by decide
theorem lb_38 : (Int8.ofInt (38)).toInt32 = 38 := by decide
theorem lb_40 : (Int8.ofInt (40)).toInt32 = 40 := by decide
theorem lb_41 : (Int8.ofInt (41)).toInt32 = 41 := by decide
theorem lb_48 : (Int8.ofInt (48)).toInt32 = 48 := by decide
theorem lb_50 : (Int8.ofInt (50)).toInt32 = 50 := by decide
theorem lb_51 : (Int8.ofInt (51)).toInt32 = 51 := by decide
theorem lb_57 : (Int8.ofInt (57)).toInt32 = 57 := by decide
theorem lb_59 : (Int8.ofInt (59)).toInt32 = 59 := by decide
theorem lb_60 : (Int8.ofInt (60)).toInt32 = 60 := by decide
theorem lb_62 : (Int8.ofInt (62)).toInt32 = 62 := by decide
theorem lb_70 : (Int8.ofInt (70)).toInt32 = 70 := by decide
theorem lb_71 : (Int8.ofInt (71)).toInt32 = 71 := by decide
theorem lb_99 : (Int8.ofInt (99)).toInt32 = 99 := by decide
theorem lb_100 : (Int8.ofInt (100)).toInt32 = 100 := by decide
theorem lb_104 : (Int8.ofInt (104)).toInt32 = 104 := by decide
theorem lb_111 : (Int8.ofInt (111)).toInt32 = 111 := by decide
theorem lb_124 : (Int8.ofInt (124)).toInt32 = 124 := by decide
theorem lb_127 : (Int8.ofInt (127)).toInt32 = 127 := by decide
theorem lc_m1 : Int32.ofInt (-1) = (-1) := by decide
theorem lc_0 : Int32.ofInt (0) = 0 := by decide
theorem lc_1 : Int32.ofInt (1) = 1 := by decide
theorem lc_2 : Int32.ofInt (2) = 2 := by decide
theorem lc_3 : Int32.ofInt (3) = 3 := by decide
theorem lc_4 : Int32.ofInt (4) = 4 := by decide
theorem lc_5 : Int32.ofInt (5) = 5 := by decide
theorem ls_999 : (Int16.ofInt (999)).toInt32 = 999 := by decide
theorem ls_1000 : (Int16.ofInt (1000)).toInt32 = 1000 := by decide
theorem ls_9999 : (Int16.ofInt (9999)).toInt32 = 9999 := by decide
abbrev YX7_act : YD := (yX7_act, cX7_act, 4, some .int)
abbrev YX7_begin : YD := (yX7_begin, cX7_begin, 1, some .int)
abbrev YX7_behind : YD := (yX7_behind, cX7_behind, 1, some .int)
abbrev YX7_best : YD := (yX7_best, cX7_best, 6, some .int)
abbrev YX7_body : YD := (yX7_body, cX7_body, 2, none)
abbrev YX7_book : YD := (yX7_book, cX7_book, 2, some .int)
abbrev YX7_chance : YD := (yX7_chance, cX7_chance, 7, some .int)
abbrev YX7_coin : YD := (yX7_coin, cX7_coin, 8, some .long)
abbrev YX7_count : YD := (yX7_count, cX7_count, 2, some .int)
abbrev YX7_dice : YD := (yX7_dice, cX7_dice, 8, some .long)
abbrev YX7_divisor : YD := (yX7_divisor, cX7_divisor, 11, some .long)
abbrev YX7_draw : YD := (yX7_draw, cX7_draw, 3, some .int)
abbrev YX7_drawer : YD := (yX7_drawer, cX7_drawer, 4, some .int)
abbrev YX7_drawerDraws : YD := (yX7_drawerDraws, cX7_drawerDraws, 3, some .int)
abbrev YX7_drawerShows : YD := (yX7_drawerShows, cX7_drawerShows, 3, some .int)
abbrev YX7_drawerTells : YD := (yX7_drawerTells, cX7_drawerTells, 3, some .int)
abbrev YX7_drawsAct : YD := (yX7_drawsAct, cX7_drawsAct, 3, some .int)
abbrev YX7_emits : YD := (yX7_emits, cX7_emits, 2, none)
abbrev YX7_enough : YD := (yX7_enough, cX7_enough, 4, some .int)
abbrev YX7_even : YD := (yX7_even, cX7_even, 1, some .int)
abbrev YX7_evenNow : YD := (yX7_evenNow, cX7_evenNow, 4, some .int)
abbrev YX7_factOf : YD := (yX7_factOf, cX7_factOf, 3, some .int)
abbrev YX7_feed : YD := (yX7_feed, cX7_feed, 2, some .int)
abbrev YX7_fits : YD := (yX7_fits, cX7_fits, 3, some .int)
abbrev YX7_goDraw : YD := (yX7_goDraw, cX7_goDraw, 4, some .boolean)
abbrev YX7_goesText : YD := (yX7_goesText, cX7_goesText, 3, some .boolean)
abbrev YX7_has : YD := (yX7_has, cX7_has, 3, some .boolean)
abbrev YX7_holds : YD := (yX7_holds, cX7_holds, 8, some .boolean)
abbrev YX7_hut : YD := (yX7_hut, cX7_hut, 2, some .int)
abbrev YX7_image : YD := (yX7_image, cX7_image, 2, some .int)
abbrev YX7_in : YD := (yX7_in, cX7_in, 4, some .boolean)
abbrev YX7_isDigit : YD := (yX7_isDigit, cX7_isDigit, 1, some .boolean)
abbrev YX7_isDraw : YD := (yX7_isDraw, cX7_isDraw, 2, some .boolean)
abbrev YX7_isDrawer : YD := (yX7_isDrawer, cX7_isDrawer, 2, some .boolean)
abbrev YX7_isEnd : YD := (yX7_isEnd, cX7_isEnd, 1, some .boolean)
abbrev YX7_isSeen : YD := (yX7_isSeen, cX7_isSeen, 5, some .boolean)
abbrev YX7_isTape : YD := (yX7_isTape, cX7_isTape, 2, some .boolean)
abbrev YX7_item : YD := (yX7_item, cX7_item, 5, some .int)
abbrev YX7_judge : YD := (yX7_judge, cX7_judge, 4, some .int)
abbrev YX7_keenShows : YD := (yX7_keenShows, cX7_keenShows, 3, some .int)
abbrev YX7_keenly : YD := (yX7_keenly, cX7_keenly, 3, some .int)
abbrev YX7_keepOrder : YD := (yX7_keepOrder, cX7_keepOrder, 2, none)
abbrev YX7_lastOf : YD := (yX7_lastOf, cX7_lastOf, 5, some .int)
abbrev YX7_layFist : YD := (yX7_layFist, cX7_layFist, 1, none)
abbrev YX7_layLikely : YD := (yX7_layLikely, cX7_layLikely, 7, none)
abbrev YX7_layOrder : YD := (yX7_layOrder, cX7_layOrder, 8, some .boolean)
abbrev YX7_leans : YD := (yX7_leans, cX7_leans, 5, some .int)
abbrev YX7_letterAt : YD := (yX7_letterAt, cX7_letterAt, 2, some .int)
abbrev YX7_likely : YD := (yX7_likely, cX7_likely, 2, some .int)
abbrev YX7_looked : YD := (yX7_looked, cX7_looked, 3, some .int)
abbrev YX7_lowest : YD := (yX7_lowest, cX7_lowest, 8, some .long)
abbrev YX7_mean : YD := (yX7_mean, cX7_mean, 5, some .long)
abbrev YX7_most : YD := (yX7_most, cX7_most, 5, some .int)
abbrev YX7_narrow : YD := (yX7_narrow, cX7_narrow, 4, some .long)
abbrev YX7_next : YD := (yX7_next, cX7_next, 1, some .int)
abbrev YX7_odds : YD := (yX7_odds, cX7_odds, 3, some .long)
abbrev YX7_of : YD := (yX7_of, cX7_of, 3, some .int)
abbrev YX7_place : YD := (yX7_place, cX7_place, 4, some .int)
abbrev YX7_placeOf : YD := (yX7_placeOf, cX7_placeOf, 3, some .int)
abbrev YX7_plainly : YD := (yX7_plainly, cX7_plainly, 4, some .int)
abbrev YX7_pull : YD := (yX7_pull, cX7_pull, 5, some .int)
abbrev YX7_putBack : YD := (yX7_putBack, cX7_putBack, 2, none)
abbrev YX7_putOrder : YD := (yX7_putOrder, cX7_putOrder, 2, none)
abbrev YX7_puts : YD := (yX7_puts, cX7_puts, 5, none)
abbrev YX7_read : YD := (yX7_read, cX7_read, 3, some .long)
abbrev YX7_row : YD := (yX7_row, cX7_row, 5, some .int)
abbrev YX7_safest : YD := (yX7_safest, cX7_safest, 6, some .int)
abbrev YX7_save : YD := (yX7_save, cX7_save, 2, none)
abbrev YX7_second : YD := (yX7_second, cX7_second, 1, some .int)
abbrev YX7_see : YD := (yX7_see, cX7_see, 3, some .int)
abbrev YX7_sent : YD := (yX7_sent, cX7_sent, 4, some .int)
abbrev YX7_settle : YD := (yX7_settle, cX7_settle, 2, none)
abbrev YX7_shift : YD := (yX7_shift, cX7_shift, 7, some .int)
abbrev YX7_showsAct : YD := (yX7_showsAct, cX7_showsAct, 4, some .int)
abbrev YX7_taken : YD := (yX7_taken, cX7_taken, 4, some .int)
abbrev YX7_takes : YD := (yX7_takes, cX7_takes, 2, some .boolean)
abbrev YX7_takesClause : YD := (yX7_takesClause, cX7_takesClause, 2, some .boolean)
abbrev YX7_takesE : YD := (yX7_takesE, cX7_takesE, 4, some .boolean)
abbrev YX7_takesHead : YD := (yX7_takesHead, cX7_takesHead, 2, some .boolean)
abbrev YX7_takesNumber : YD := (yX7_takesNumber, cX7_takesNumber, 2, some .boolean)
abbrev YX7_takesTest : YD := (yX7_takesTest, cX7_takesTest, 3, some .boolean)
abbrev YX7_takesWord : YD := (yX7_takesWord, cX7_takesWord, 4, some .boolean)
abbrev YX7_tape : YD := (yX7_tape, cX7_tape, 5, some .int)
abbrev YX7_tellsAct : YD := (yX7_tellsAct, cX7_tellsAct, 4, some .int)
abbrev YX7_third : YD := (yX7_third, cX7_third, 1, some .int)
abbrev YX7_told : YD := (yX7_told, cX7_told, 2, some .int)
abbrev YX7_trace : YD := (yX7_trace, cX7_trace, 2, some .int)
abbrev YX7_turn : YD := (yX7_turn, cX7_turn, 3, some .int)
abbrev YX7_undo : YD := (yX7_undo, cX7_undo, 2, some .int)
abbrev YX7_uneven : YD := (yX7_uneven, cX7_uneven, 4, some .int)
abbrev YX7_whole : YD := (yX7_whole, cX7_whole, 1, none)
abbrev YX7_wholeLongs : YD := (yX7_wholeLongs, cX7_wholeLongs, 3, some .int)
abbrev YX7_wholeShorts : YD := (yX7_wholeShorts, cX7_wholeShorts, 2, some .int)
theorem pn_X7 : plainName RX7 = true := by decide +kernel
theorem cm_X7_begin : CMo YX7_begin 7 0 := ⟨_, rfl, rfl, k_873, k_18, k_79, k_874, ⟨by decide +kernel, by decide +kernel, by decide +kernel⟩, Nat.le_of_ble_eq_true rfl⟩
theorem cm_X7_behind : CMo YX7_behind 7 0 := ⟨_, rfl, rfl, k_877, k_19, k_79, k_878, ⟨by decide +kernel, by decide +kernel, by decide +kernel⟩, Nat.le_of_ble_eq_true rfl⟩
theorem cm_X7_body : CMo YX7_body 7 1 := ⟨_, rfl, rfl, k_1390, k_63, k_79, k_1391, ⟨by decide +kernel, by decide +kernel, by decide +kernel⟩, Nat.le_of_ble_eq_true rfl⟩
theorem cm_X7_chance : CMo YX7_chance 7 4 := ⟨_, rfl, rfl, k_1222, k_46, k_79, k_1223, ⟨by decide +kernel, by decide +kernel, by decide +kernel⟩, Nat.le_of_ble_eq_true rfl⟩
theorem cm_X7_divisor : CMo YX7_divisor 7 2 := ⟨_, rfl, rfl, k_1309, k_57, k_79, k_1310, ⟨by decide +kernel, by decide +kernel, by decide +kernel⟩, Nat.le_of_ble_eq_true rfl⟩
theorem cm_X7_drawerDraws : CMo YX7_drawerDraws 7 2 := ⟨_, rfl, rfl, k_1394, k_64, k_79, k_1395, ⟨by decide +kernel, by decide +kernel, by decide +kernel⟩, Nat.le_of_ble_eq_true rfl⟩
theorem cm_X7_drawerShows : CMo YX7_drawerShows 7 2 := ⟨_, rfl, rfl, k_1406, k_67, k_79, k_1407, ⟨by decide +kernel, by decide +kernel, by decide +kernel⟩, Nat.le_of_ble_eq_true rfl⟩
theorem cm_X7_drawerTells : CMo YX7_drawerTells 7 2 := ⟨_, rfl, rfl, k_1414, k_69, k_79, k_1415, ⟨by decide +kernel, by decide +kernel, by decide +kernel⟩, Nat.le_of_ble_eq_true rfl⟩
theorem cm_X7_drawsAct : CMo YX7_drawsAct 7 2 := ⟨_, rfl, rfl, k_1386, k_62, k_79, k_1387, ⟨by decide +kernel, by decide +kernel, by decide +kernel⟩, Nat.le_of_ble_eq_true rfl⟩
theorem cm_X7_emits : CMo YX7_emits 7 1 := ⟨_, rfl, rfl, k_1186, k_38, k_79, k_1187, ⟨by decide +kernel, by decide +kernel, by decide +kernel⟩, Nat.le_of_ble_eq_true rfl⟩
theorem cm_X7_evenNow : CMo YX7_evenNow 7 0 := ⟨_, rfl, rfl, k_1262, k_51, k_79, k_1263, ⟨by decide +kernel, by decide +kernel, by decide +kernel⟩, Nat.le_of_ble_eq_true rfl⟩
theorem cm_X7_factOf : CMo YX7_factOf 7 2 := ⟨_, rfl, rfl, k_1218, k_45, k_79, k_1219, ⟨by decide +kernel, by decide +kernel, by decide +kernel⟩, Nat.le_of_ble_eq_true rfl⟩
theorem cm_X7_goDraw : CMo YX7_goDraw 7 1 := ⟨_, rfl, rfl, k_1242, k_48, k_79, k_1243, ⟨by decide +kernel, by decide +kernel, by decide +kernel⟩, Nat.le_of_ble_eq_true rfl⟩
theorem cm_X7_goesText : CMo YX7_goesText 7 1 := ⟨_, rfl, rfl, k_1134, k_25, k_79, k_1135, ⟨by decide +kernel, by decide +kernel, by decide +kernel⟩, Nat.le_of_ble_eq_true rfl⟩
theorem cm_X7_has : CMo YX7_has 7 2 := ⟨_, rfl, rfl, k_1279, k_54, k_79, k_1280, ⟨by decide +kernel, by decide +kernel, by decide +kernel⟩, Nat.le_of_ble_eq_true rfl⟩
theorem cm_X7_holds : CMo YX7_holds 7 2 := ⟨_, rfl, rfl, k_1214, k_44, k_79, k_1215, ⟨by decide +kernel, by decide +kernel, by decide +kernel⟩, Nat.le_of_ble_eq_true rfl⟩
theorem cm_X7_in : CMo YX7_in 7 3 := ⟨_, rfl, rfl, k_1098, k_21, k_79, k_1099, ⟨by decide +kernel, by decide +kernel, by decide +kernel⟩, Nat.le_of_ble_eq_true rfl⟩
theorem cm_X7_isDigit : CMo YX7_isDigit 7 0 := ⟨_, rfl, rfl, k_1170, k_34, k_79, k_1171, ⟨by decide +kernel, by decide +kernel, by decide +kernel⟩, Nat.le_of_ble_eq_true rfl⟩
theorem cm_X7_isDraw : CMo YX7_isDraw 7 1 := ⟨_, rfl, rfl, k_1237, k_47, k_79, k_1238, ⟨by decide +kernel, by decide +kernel, by decide +kernel⟩, Nat.le_of_ble_eq_true rfl⟩
theorem cm_X7_isDrawer : CMo YX7_isDrawer 7 1 := ⟨_, rfl, rfl, k_1106, k_22, k_79, k_1107, ⟨by decide +kernel, by decide +kernel, by decide +kernel⟩, Nat.le_of_ble_eq_true rfl⟩
theorem cm_X7_isEnd : CMo YX7_isEnd 7 0 := ⟨_, rfl, rfl, k_1246, k_49, k_79, k_1247, ⟨by decide +kernel, by decide +kernel, by decide +kernel⟩, Nat.le_of_ble_eq_true rfl⟩
theorem cm_X7_isSeen : CMo YX7_isSeen 7 1 := ⟨_, rfl, rfl, k_1338, k_58, k_79, k_1339, ⟨by decide +kernel, by decide +kernel, by decide +kernel⟩, Nat.le_of_ble_eq_true rfl⟩
theorem cm_X7_isTape : CMo YX7_isTape 7 1 := ⟨_, rfl, rfl, k_1370, k_61, k_79, k_1371, ⟨by decide +kernel, by decide +kernel, by decide +kernel⟩, Nat.le_of_ble_eq_true rfl⟩
theorem cm_X7_keenShows : CMo YX7_keenShows 7 2 := ⟨_, rfl, rfl, k_1402, k_66, k_79, k_1403, ⟨by decide +kernel, by decide +kernel, by decide +kernel⟩, Nat.le_of_ble_eq_true rfl⟩
theorem cm_X7_keenly : CMo YX7_keenly 7 1 := ⟨_, rfl, rfl, k_1206, k_42, k_79, k_1207, ⟨by decide +kernel, by decide +kernel, by decide +kernel⟩, Nat.le_of_ble_eq_true rfl⟩
theorem cm_X7_keepOrder : CMo YX7_keepOrder 7 0 := ⟨_, rfl, rfl, k_1271, k_52, k_79, k_1272, ⟨by decide +kernel, by decide +kernel, by decide +kernel⟩, Nat.le_of_ble_eq_true rfl⟩
theorem cm_X7_lastOf : CMo YX7_lastOf 7 2 := ⟨_, rfl, rfl, k_869, k_17, k_79, k_870, ⟨by decide +kernel, by decide +kernel, by decide +kernel⟩, Nat.le_of_ble_eq_true rfl⟩
theorem cm_X7_layFist : CMo YX7_layFist 7 0 := ⟨_, rfl, rfl, k_861, k_15, k_79, k_862, ⟨by decide +kernel, by decide +kernel, by decide +kernel⟩, Nat.le_of_ble_eq_true rfl⟩
theorem cm_X7_layLikely : CMo YX7_layLikely 7 0 := ⟨_, rfl, rfl, k_1254, k_50, k_79, k_1255, ⟨by decide +kernel, by decide +kernel, by decide +kernel⟩, Nat.le_of_ble_eq_true rfl⟩
theorem cm_X7_layOrder : CMo YX7_layOrder 7 1 := ⟨_, rfl, rfl, k_1275, k_53, k_79, k_1276, ⟨by decide +kernel, by decide +kernel, by decide +kernel⟩, Nat.le_of_ble_eq_true rfl⟩
theorem cm_X7_letterAt : CMo YX7_letterAt 7 1 := ⟨_, rfl, rfl, k_1182, k_37, k_79, k_1183, ⟨by decide +kernel, by decide +kernel, by decide +kernel⟩, Nat.le_of_ble_eq_true rfl⟩
theorem cm_X7_lowest : CMo YX7_lowest 7 3 := ⟨_, rfl, rfl, k_1305, k_56, k_79, k_1306, ⟨by decide +kernel, by decide +kernel, by decide +kernel⟩, Nat.le_of_ble_eq_true rfl⟩
theorem cm_X7_narrow : CMo YX7_narrow 7 2 := ⟨_, rfl, rfl, k_1438, k_70, k_79, k_1439, ⟨by decide +kernel, by decide +kernel, by decide +kernel⟩, Nat.le_of_ble_eq_true rfl⟩
theorem cm_X7_next : CMo YX7_next 7 0 := ⟨_, rfl, rfl, k_1146, k_28, k_79, k_1147, ⟨by decide +kernel, by decide +kernel, by decide +kernel⟩, Nat.le_of_ble_eq_true rfl⟩
theorem cm_X7_placeOf : CMo YX7_placeOf 7 1 := ⟨_, rfl, rfl, k_1118, k_23, k_79, k_1119, ⟨by decide +kernel, by decide +kernel, by decide +kernel⟩, Nat.le_of_ble_eq_true rfl⟩
theorem cm_X7_plainly : CMo YX7_plainly 7 1 := ⟨_, rfl, rfl, k_1210, k_43, k_79, k_1211, ⟨by decide +kernel, by decide +kernel, by decide +kernel⟩, Nat.le_of_ble_eq_true rfl⟩
theorem cm_X7_pull : CMo YX7_pull 7 4 := ⟨_, rfl, rfl, k_1202, k_41, k_79, k_1203, ⟨by decide +kernel, by decide +kernel, by decide +kernel⟩, Nat.le_of_ble_eq_true rfl⟩
theorem cm_X7_putBack : CMo YX7_putBack 7 0 := ⟨_, rfl, rfl, k_1346, k_60, k_79, k_1347, ⟨by decide +kernel, by decide +kernel, by decide +kernel⟩, Nat.le_of_ble_eq_true rfl⟩
theorem cm_X7_putOrder : CMo YX7_putOrder 7 0 := ⟨_, rfl, rfl, k_1283, k_55, k_79, k_1284, ⟨by decide +kernel, by decide +kernel, by decide +kernel⟩, Nat.le_of_ble_eq_true rfl⟩
theorem cm_X7_puts : CMo YX7_puts 7 2 := ⟨_, rfl, rfl, k_1122, k_24, k_79, k_1123, ⟨by decide +kernel, by decide +kernel, by decide +kernel⟩, Nat.le_of_ble_eq_true rfl⟩
theorem cm_X7_save : CMo YX7_save 7 0 := ⟨_, rfl, rfl, k_1342, k_59, k_79, k_1343, ⟨by decide +kernel, by decide +kernel, by decide +kernel⟩, Nat.le_of_ble_eq_true rfl⟩
theorem cm_X7_second : CMo YX7_second 7 0 := ⟨_, rfl, rfl, k_1158, k_31, k_79, k_1159, ⟨by decide +kernel, by decide +kernel, by decide +kernel⟩, Nat.le_of_ble_eq_true rfl⟩
theorem cm_X7_settle : CMo YX7_settle 7 1 := ⟨_, rfl, rfl, k_1194, k_40, k_79, k_1195, ⟨by decide +kernel, by decide +kernel, by decide +kernel⟩, Nat.le_of_ble_eq_true rfl⟩
theorem cm_X7_showsAct : CMo YX7_showsAct 7 2 := ⟨_, rfl, rfl, k_1398, k_65, k_79, k_1399, ⟨by decide +kernel, by decide +kernel, by decide +kernel⟩, Nat.le_of_ble_eq_true rfl⟩
theorem cm_X7_takes : CMo YX7_takes 7 1 := ⟨_, rfl, rfl, k_1154, k_30, k_79, k_1155, ⟨by decide +kernel, by decide +kernel, by decide +kernel⟩, Nat.le_of_ble_eq_true rfl⟩
theorem cm_X7_takesClause : CMo YX7_takesClause 7 1 := ⟨_, rfl, rfl, k_1138, k_26, k_79, k_1139, ⟨by decide +kernel, by decide +kernel, by decide +kernel⟩, Nat.le_of_ble_eq_true rfl⟩
theorem cm_X7_takesE : CMo YX7_takesE 7 1 := ⟨_, rfl, rfl, k_1174, k_35, k_79, k_1175, ⟨by decide +kernel, by decide +kernel, by decide +kernel⟩, Nat.le_of_ble_eq_true rfl⟩
theorem cm_X7_takesHead : CMo YX7_takesHead 7 1 := ⟨_, rfl, rfl, k_1142, k_27, k_79, k_1143, ⟨by decide +kernel, by decide +kernel, by decide +kernel⟩, Nat.le_of_ble_eq_true rfl⟩
theorem cm_X7_takesNumber : CMo YX7_takesNumber 7 0 := ⟨_, rfl, rfl, k_1166, k_33, k_79, k_1167, ⟨by decide +kernel, by decide +kernel, by decide +kernel⟩, Nat.le_of_ble_eq_true rfl⟩
theorem cm_X7_takesTest : CMo YX7_takesTest 7 0 := ⟨_, rfl, rfl, k_1178, k_36, k_79, k_1179, ⟨by decide +kernel, by decide +kernel, by decide +kernel⟩, Nat.le_of_ble_eq_true rfl⟩
theorem cm_X7_takesWord : CMo YX7_takesWord 7 2 := ⟨_, rfl, rfl, k_1150, k_29, k_79, k_1151, ⟨by decide +kernel, by decide +kernel, by decide +kernel⟩, Nat.le_of_ble_eq_true rfl⟩
theorem cm_X7_tellsAct : CMo YX7_tellsAct 7 2 := ⟨_, rfl, rfl, k_1410, k_68, k_79, k_1411, ⟨by decide +kernel, by decide +kernel, by decide +kernel⟩, Nat.le_of_ble_eq_true rfl⟩
theorem cm_X7_third : CMo YX7_third 7 0 := ⟨_, rfl, rfl, k_1162, k_32, k_79, k_1163, ⟨by decide +kernel, by decide +kernel, by decide +kernel⟩, Nat.le_of_ble_eq_true rfl⟩
theorem cm_X7_whole : CMo YX7_whole 7 0 := ⟨_, rfl, rfl, k_1190, k_39, k_79, k_1191, ⟨by decide +kernel, by decide +kernel, by decide +kernel⟩, Nat.le_of_ble_eq_true rfl⟩
theorem cm_X7_wholeLongs : CMo YX7_wholeLongs 7 0 := ⟨_, rfl, rfl, k_881, k_20, k_79, k_882, ⟨by decide +kernel, by decide +kernel, by decide +kernel⟩, Nat.le_of_ble_eq_true rfl⟩
theorem cm_X7_wholeShorts : CMo YX7_wholeShorts 7 0 := ⟨_, rfl, rfl, k_865, k_16, k_79, k_866, ⟨by decide +kernel, by decide +kernel, by decide +kernel⟩, Nat.le_of_ble_eq_true rfl⟩
