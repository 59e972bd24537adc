section
-- ===== PART A: goes FIRST, ahead of the names: the tables' words, and 'selects' of the private methods out of them =====
/-- a private method of a class that the tables say can be made, by its rows of tables_1 -/
def lw_okq (q : MethodName × Nat) : Prop := (q.1.cls ≠ "java/lang/invoke/MethodHandle" ∧ q.1.cls ≠ "java/lang/invoke/VarHandle") ∧ Cond.instantiable q.1.cls q.2 ∈ tables_1 ∧ Cond.privateMethod q.1 ∈ tables_1 ∧ Cond.instanceMethod q.1 ∈ tables_1
theorem lw_p0 : lw_okq (⟨"ShortStraw$HutReader", "readsClause", "()Z"⟩, 7) := ⟨⟨by decide +kernel, by decide +kernel⟩, List.mem_of_getElem? (i := 149) (by decide +kernel), List.mem_of_getElem? (i := 343) (by decide +kernel), List.mem_of_getElem? (i := 344) (by decide +kernel)⟩
theorem lw_p1 : lw_okq (⟨"ShortStraw$HutReader", "word", "()I"⟩, 7) := ⟨⟨by decide +kernel, by decide +kernel⟩, List.mem_of_getElem? (i := 149) (by decide +kernel), List.mem_of_getElem? (i := 347) (by decide +kernel), List.mem_of_getElem? (i := 348) (by decide +kernel)⟩
theorem lw_p2 : lw_okq (⟨"ShortStraw$HutReader", "readsWord", "(Ljava/lang/String;)Z"⟩, 7) := ⟨⟨by decide +kernel, by decide +kernel⟩, List.mem_of_getElem? (i := 149) (by decide +kernel), List.mem_of_getElem? (i := 352) (by decide +kernel), List.mem_of_getElem? (i := 353) (by decide +kernel)⟩
theorem lw_p3 : lw_okq (⟨"ShortStraw$HutReader", "reads", "(I)Z"⟩, 7) := ⟨⟨by decide +kernel, by decide +kernel⟩, List.mem_of_getElem? (i := 149) (by decide +kernel), List.mem_of_getElem? (i := 404) (by decide +kernel), List.mem_of_getElem? (i := 405) (by decide +kernel)⟩
theorem lw_p4 : lw_okq (⟨"ShortStraw$HutReader", "number", "()I"⟩, 7) := ⟨⟨by decide +kernel, by decide +kernel⟩, List.mem_of_getElem? (i := 149) (by decide +kernel), List.mem_of_getElem? (i := 411) (by decide +kernel), List.mem_of_getElem? (i := 412) (by decide +kernel)⟩
theorem lw_p5 : lw_okq (⟨"ShortStraw$HutReader", "readsEither", "(I)Z"⟩, 7) := ⟨⟨by decide +kernel, by decide +kernel⟩, List.mem_of_getElem? (i := 149) (by decide +kernel), List.mem_of_getElem? (i := 415) (by decide +kernel), List.mem_of_getElem? (i := 416) (by decide +kernel)⟩
theorem lw_p6 : lw_okq (⟨"ShortStraw$HutReader", "readsFactor", "(I)Z"⟩, 7) := ⟨⟨by decide +kernel, by decide +kernel⟩, List.mem_of_getElem? (i := 149) (by decide +kernel), List.mem_of_getElem? (i := 419) (by decide +kernel), List.mem_of_getElem? (i := 420) (by decide +kernel)⟩
theorem lw_p7 : lw_okq (⟨"ShortStraw$HutReader", "readsTest", "()Z"⟩, 7) := ⟨⟨by decide +kernel, by decide +kernel⟩, List.mem_of_getElem? (i := 149) (by decide +kernel), List.mem_of_getElem? (i := 423) (by decide +kernel), List.mem_of_getElem? (i := 424) (by decide +kernel)⟩
theorem lw_p8 : lw_okq (⟨"ShortStraw$HutReader", "oneOf", "(Ljava/lang/String;)I"⟩, 7) := ⟨⟨by decide +kernel, by decide +kernel⟩, List.mem_of_getElem? (i := 149) (by decide +kernel), List.mem_of_getElem? (i := 428) (by decide +kernel), List.mem_of_getElem? (i := 429) (by decide +kernel)⟩
theorem lw_p9 : lw_okq (⟨"ShortStraw$HutReader", "keep", "(I)V"⟩, 7) := ⟨⟨by decide +kernel, by decide +kernel⟩, List.mem_of_getElem? (i := 149) (by decide +kernel), List.mem_of_getElem? (i := 493) (by decide +kernel), List.mem_of_getElem? (i := 494) (by decide +kernel)⟩
theorem lw_p10 : lw_okq (⟨"ShortStraw$Likelihood", "chance", "(III)I"⟩, 6) := ⟨⟨by decide +kernel, by decide +kernel⟩, List.mem_of_getElem? (i := 122) (by decide +kernel), List.mem_of_getElem? (i := 567) (by decide +kernel), List.mem_of_getElem? (i := 568) (by decide +kernel)⟩
theorem lw_p11 : lw_okq (⟨"ShortStraw", "tapeAt", "(I)LShortStraw$Tape;"⟩, 10) := ⟨⟨by decide +kernel, by decide +kernel⟩, List.mem_of_getElem? (i := 18) (by decide +kernel), List.mem_of_getElem? (i := 690) (by decide +kernel), List.mem_of_getElem? (i := 691) (by decide +kernel)⟩
theorem lw_p12 : lw_okq (⟨"ShortStraw$Acts", "run", "(IIII)I"⟩, 5) := ⟨⟨by decide +kernel, by decide +kernel⟩, List.mem_of_getElem? (i := 179) (by decide +kernel), List.mem_of_getElem? (i := 719) (by decide +kernel), List.mem_of_getElem? (i := 720) (by decide +kernel)⟩
theorem lw_p13 : lw_okq (⟨"ShortStraw$Acts", "keep", "(I)V"⟩, 5) := ⟨⟨by decide +kernel, by decide +kernel⟩, List.mem_of_getElem? (i := 179) (by decide +kernel), List.mem_of_getElem? (i := 730) (by decide +kernel), List.mem_of_getElem? (i := 731) (by decide +kernel)⟩
theorem lw_p14 : lw_okq (⟨"ShortStraw$Acts", "work", "(III)I"⟩, 5) := ⟨⟨by decide +kernel, by decide +kernel⟩, List.mem_of_getElem? (i := 179) (by decide +kernel), List.mem_of_getElem? (i := 734) (by decide +kernel), List.mem_of_getElem? (i := 735) (by decide +kernel)⟩
theorem lw_p15 : lw_okq (⟨"ShortStrawModel", "layFist", "()V"⟩, 69) := ⟨⟨by decide +kernel, by decide +kernel⟩, List.mem_of_getElem? (i := 783) (by decide +kernel), List.mem_of_getElem? (i := 789) (by decide +kernel), List.mem_of_getElem? (i := 790) (by decide +kernel)⟩
def lw_privs_1 : List (MethodName × Nat) := [(⟨"ShortStraw$HutReader", "readsClause", "()Z"⟩, 7), (⟨"ShortStraw$HutReader", "word", "()I"⟩, 7), (⟨"ShortStraw$HutReader", "readsWord", "(Ljava/lang/String;)Z"⟩, 7), (⟨"ShortStraw$HutReader", "reads", "(I)Z"⟩, 7), (⟨"ShortStraw$HutReader", "number", "()I"⟩, 7), (⟨"ShortStraw$HutReader", "readsEither", "(I)Z"⟩, 7), (⟨"ShortStraw$HutReader", "readsFactor", "(I)Z"⟩, 7), (⟨"ShortStraw$HutReader", "readsTest", "()Z"⟩, 7), (⟨"ShortStraw$HutReader", "oneOf", "(Ljava/lang/String;)I"⟩, 7), (⟨"ShortStraw$HutReader", "keep", "(I)V"⟩, 7), (⟨"ShortStraw$Likelihood", "chance", "(III)I"⟩, 6), (⟨"ShortStraw", "tapeAt", "(I)LShortStraw$Tape;"⟩, 10), (⟨"ShortStraw$Acts", "run", "(IIII)I"⟩, 5), (⟨"ShortStraw$Acts", "keep", "(I)V"⟩, 5), (⟨"ShortStraw$Acts", "work", "(III)I"⟩, 5), (⟨"ShortStrawModel", "layFist", "()V"⟩, 69)]
theorem lw_r1 : ∀ q ∈ lw_privs_1, lw_okq q := List.forall_mem_cons.mpr ⟨lw_p0, List.forall_mem_cons.mpr ⟨lw_p1, List.forall_mem_cons.mpr ⟨lw_p2, List.forall_mem_cons.mpr ⟨lw_p3, List.forall_mem_cons.mpr ⟨lw_p4, List.forall_mem_cons.mpr ⟨lw_p5, List.forall_mem_cons.mpr ⟨lw_p6, List.forall_mem_cons.mpr ⟨lw_p7, List.forall_mem_cons.mpr ⟨lw_p8, List.forall_mem_cons.mpr ⟨lw_p9, List.forall_mem_cons.mpr ⟨lw_p10, List.forall_mem_cons.mpr ⟨lw_p11, List.forall_mem_cons.mpr ⟨lw_p12, List.forall_mem_cons.mpr ⟨lw_p13, List.forall_mem_cons.mpr ⟨lw_p14, List.forall_mem_cons.mpr ⟨lw_p15, fun _ h => absurd h List.not_mem_nil⟩⟩⟩⟩⟩⟩⟩⟩⟩⟩⟩⟩⟩⟩⟩⟩
theorem lw_p16 : lw_okq (⟨"ShortStrawModel", "wholeShorts", "()I"⟩, 69) := ⟨⟨by decide +kernel, by decide +kernel⟩, List.mem_of_getElem? (i := 783) (by decide +kernel), List.mem_of_getElem? (i := 793) (by decide +kernel), List.mem_of_getElem? (i := 794) (by decide +kernel)⟩
theorem lw_p17 : lw_okq (⟨"ShortStrawModel", "lastOf", "(II)I"⟩, 69) := ⟨⟨by decide +kernel, by decide +kernel⟩, List.mem_of_getElem? (i := 783) (by decide +kernel), List.mem_of_getElem? (i := 797) (by decide +kernel), List.mem_of_getElem? (i := 798) (by decide +kernel)⟩
theorem lw_p18 : lw_okq (⟨"ShortStrawModel", "begin", "()I"⟩, 69) := ⟨⟨by decide +kernel, by decide +kernel⟩, List.mem_of_getElem? (i := 783) (by decide +kernel), List.mem_of_getElem? (i := 801) (by decide +kernel), List.mem_of_getElem? (i := 802) (by decide +kernel)⟩
theorem lw_p19 : lw_okq (⟨"ShortStrawModel", "behind", "()I"⟩, 69) := ⟨⟨by decide +kernel, by decide +kernel⟩, List.mem_of_getElem? (i := 783) (by decide +kernel), List.mem_of_getElem? (i := 805) (by decide +kernel), List.mem_of_getElem? (i := 806) (by decide +kernel)⟩
theorem lw_p20 : lw_okq (⟨"ShortStrawModel", "wholeLongs", "()I"⟩, 69) := ⟨⟨by decide +kernel, by decide +kernel⟩, List.mem_of_getElem? (i := 783) (by decide +kernel), List.mem_of_getElem? (i := 809) (by decide +kernel), List.mem_of_getElem? (i := 810) (by decide +kernel)⟩
theorem lw_p21 : lw_okq (⟨"ShortStrawModel", "in", "(III)Z"⟩, 69) := ⟨⟨by decide +kernel, by decide +kernel⟩, List.mem_of_getElem? (i := 783) (by decide +kernel), List.mem_of_getElem? (i := 1026) (by decide +kernel), List.mem_of_getElem? (i := 1027) (by decide +kernel)⟩
theorem lw_p22 : lw_okq (⟨"ShortStrawModel", "isDrawer", "(I)Z"⟩, 69) := ⟨⟨by decide +kernel, by decide +kernel⟩, List.mem_of_getElem? (i := 783) (by decide +kernel), List.mem_of_getElem? (i := 1034) (by decide +kernel), List.mem_of_getElem? (i := 1035) (by decide +kernel)⟩
theorem lw_p23 : lw_okq (⟨"ShortStrawModel", "placeOf", "(I)I"⟩, 69) := ⟨⟨by decide +kernel, by decide +kernel⟩, List.mem_of_getElem? (i := 783) (by decide +kernel), List.mem_of_getElem? (i := 1046) (by decide +kernel), List.mem_of_getElem? (i := 1047) (by decide +kernel)⟩
theorem lw_p24 : lw_okq (⟨"ShortStrawModel", "puts", "(II)V"⟩, 69) := ⟨⟨by decide +kernel, by decide +kernel⟩, List.mem_of_getElem? (i := 783) (by decide +kernel), List.mem_of_getElem? (i := 1050) (by decide +kernel), List.mem_of_getElem? (i := 1051) (by decide +kernel)⟩
theorem lw_p25 : lw_okq (⟨"ShortStrawModel", "goesText", "(I)Z"⟩, 69) := ⟨⟨by decide +kernel, by decide +kernel⟩, List.mem_of_getElem? (i := 783) (by decide +kernel), List.mem_of_getElem? (i := 1062) (by decide +kernel), List.mem_of_getElem? (i := 1063) (by decide +kernel)⟩
theorem lw_p26 : lw_okq (⟨"ShortStrawModel", "takesClause", "(I)Z"⟩, 69) := ⟨⟨by decide +kernel, by decide +kernel⟩, List.mem_of_getElem? (i := 783) (by decide +kernel), List.mem_of_getElem? (i := 1066) (by decide +kernel), List.mem_of_getElem? (i := 1067) (by decide +kernel)⟩
theorem lw_p27 : lw_okq (⟨"ShortStrawModel", "takesHead", "(I)Z"⟩, 69) := ⟨⟨by decide +kernel, by decide +kernel⟩, List.mem_of_getElem? (i := 783) (by decide +kernel), List.mem_of_getElem? (i := 1070) (by decide +kernel), List.mem_of_getElem? (i := 1071) (by decide +kernel)⟩
theorem lw_p28 : lw_okq (⟨"ShortStrawModel", "next", "()I"⟩, 69) := ⟨⟨by decide +kernel, by decide +kernel⟩, List.mem_of_getElem? (i := 783) (by decide +kernel), List.mem_of_getElem? (i := 1074) (by decide +kernel), List.mem_of_getElem? (i := 1075) (by decide +kernel)⟩
theorem lw_p29 : lw_okq (⟨"ShortStrawModel", "takesWord", "(II)Z"⟩, 69) := ⟨⟨by decide +kernel, by decide +kernel⟩, List.mem_of_getElem? (i := 783) (by decide +kernel), List.mem_of_getElem? (i := 1078) (by decide +kernel), List.mem_of_getElem? (i := 1079) (by decide +kernel)⟩
theorem lw_p30 : lw_okq (⟨"ShortStrawModel", "takes", "(I)Z"⟩, 69) := ⟨⟨by decide +kernel, by decide +kernel⟩, List.mem_of_getElem? (i := 783) (by decide +kernel), List.mem_of_getElem? (i := 1082) (by decide +kernel), List.mem_of_getElem? (i := 1083) (by decide +kernel)⟩
theorem lw_p31 : lw_okq (⟨"ShortStrawModel", "second", "()I"⟩, 69) := ⟨⟨by decide +kernel, by decide +kernel⟩, List.mem_of_getElem? (i := 783) (by decide +kernel), List.mem_of_getElem? (i := 1086) (by decide +kernel), List.mem_of_getElem? (i := 1087) (by decide +kernel)⟩
def lw_privs_2 : List (MethodName × Nat) := [(⟨"ShortStrawModel", "wholeShorts", "()I"⟩, 69), (⟨"ShortStrawModel", "lastOf", "(II)I"⟩, 69), (⟨"ShortStrawModel", "begin", "()I"⟩, 69), (⟨"ShortStrawModel", "behind", "()I"⟩, 69), (⟨"ShortStrawModel", "wholeLongs", "()I"⟩, 69), (⟨"ShortStrawModel", "in", "(III)Z"⟩, 69), (⟨"ShortStrawModel", "isDrawer", "(I)Z"⟩, 69), (⟨"ShortStrawModel", "placeOf", "(I)I"⟩, 69), (⟨"ShortStrawModel", "puts", "(II)V"⟩, 69), (⟨"ShortStrawModel", "goesText", "(I)Z"⟩, 69), (⟨"ShortStrawModel", "takesClause", "(I)Z"⟩, 69), (⟨"ShortStrawModel", "takesHead", "(I)Z"⟩, 69), (⟨"ShortStrawModel", "next", "()I"⟩, 69), (⟨"ShortStrawModel", "takesWord", "(II)Z"⟩, 69), (⟨"ShortStrawModel", "takes", "(I)Z"⟩, 69), (⟨"ShortStrawModel", "second", "()I"⟩, 69)]
theorem lw_r2 : ∀ q ∈ lw_privs_2, lw_okq q := List.forall_mem_cons.mpr ⟨lw_p16, List.forall_mem_cons.mpr ⟨lw_p17, List.forall_mem_cons.mpr ⟨lw_p18, List.forall_mem_cons.mpr ⟨lw_p19, List.forall_mem_cons.mpr ⟨lw_p20, List.forall_mem_cons.mpr ⟨lw_p21, List.forall_mem_cons.mpr ⟨lw_p22, List.forall_mem_cons.mpr ⟨lw_p23, List.forall_mem_cons.mpr ⟨lw_p24, List.forall_mem_cons.mpr ⟨lw_p25, List.forall_mem_cons.mpr ⟨lw_p26, List.forall_mem_cons.mpr ⟨lw_p27, List.forall_mem_cons.mpr ⟨lw_p28, List.forall_mem_cons.mpr ⟨lw_p29, List.forall_mem_cons.mpr ⟨lw_p30, List.forall_mem_cons.mpr ⟨lw_p31, fun _ h => absurd h List.not_mem_nil⟩⟩⟩⟩⟩⟩⟩⟩⟩⟩⟩⟩⟩⟩⟩⟩
theorem lw_p32 : lw_okq (⟨"ShortStrawModel", "third", "()I"⟩, 69) := ⟨⟨by decide +kernel, by decide +kernel⟩, List.mem_of_getElem? (i := 783) (by decide +kernel), List.mem_of_getElem? (i := 1090) (by decide +kernel), List.mem_of_getElem? (i := 1091) (by decide +kernel)⟩
theorem lw_p33 : lw_okq (⟨"ShortStrawModel", "takesNumber", "()Z"⟩, 69) := ⟨⟨by decide +kernel, by decide +kernel⟩, List.mem_of_getElem? (i := 783) (by decide +kernel), List.mem_of_getElem? (i := 1094) (by decide +kernel), List.mem_of_getElem? (i := 1095) (by decide +kernel)⟩
theorem lw_p34 : lw_okq (⟨"ShortStrawModel", "isDigit", "()Z"⟩, 69) := ⟨⟨by decide +kernel, by decide +kernel⟩, List.mem_of_getElem? (i := 783) (by decide +kernel), List.mem_of_getElem? (i := 1098) (by decide +kernel), List.mem_of_getElem? (i := 1099) (by decide +kernel)⟩
theorem lw_p35 : lw_okq (⟨"ShortStrawModel", "takesE", "(I)Z"⟩, 69) := ⟨⟨by decide +kernel, by decide +kernel⟩, List.mem_of_getElem? (i := 783) (by decide +kernel), List.mem_of_getElem? (i := 1102) (by decide +kernel), List.mem_of_getElem? (i := 1103) (by decide +kernel)⟩
theorem lw_p36 : lw_okq (⟨"ShortStrawModel", "takesTest", "()Z"⟩, 69) := ⟨⟨by decide +kernel, by decide +kernel⟩, List.mem_of_getElem? (i := 783) (by decide +kernel), List.mem_of_getElem? (i := 1106) (by decide +kernel), List.mem_of_getElem? (i := 1107) (by decide +kernel)⟩
theorem lw_p37 : lw_okq (⟨"ShortStrawModel", "letterAt", "(I)I"⟩, 69) := ⟨⟨by decide +kernel, by decide +kernel⟩, List.mem_of_getElem? (i := 783) (by decide +kernel), List.mem_of_getElem? (i := 1110) (by decide +kernel), List.mem_of_getElem? (i := 1111) (by decide +kernel)⟩
theorem lw_p38 : lw_okq (⟨"ShortStrawModel", "emits", "(I)V"⟩, 69) := ⟨⟨by decide +kernel, by decide +kernel⟩, List.mem_of_getElem? (i := 783) (by decide +kernel), List.mem_of_getElem? (i := 1114) (by decide +kernel), List.mem_of_getElem? (i := 1115) (by decide +kernel)⟩
theorem lw_p39 : lw_okq (⟨"ShortStrawModel", "whole", "()V"⟩, 69) := ⟨⟨by decide +kernel, by decide +kernel⟩, List.mem_of_getElem? (i := 783) (by decide +kernel), List.mem_of_getElem? (i := 1118) (by decide +kernel), List.mem_of_getElem? (i := 1119) (by decide +kernel)⟩
theorem lw_p40 : lw_okq (⟨"ShortStrawModel", "settle", "(I)V"⟩, 69) := ⟨⟨by decide +kernel, by decide +kernel⟩, List.mem_of_getElem? (i := 783) (by decide +kernel), List.mem_of_getElem? (i := 1122) (by decide +kernel), List.mem_of_getElem? (i := 1123) (by decide +kernel)⟩
theorem lw_p41 : lw_okq (⟨"ShortStrawModel", "pull", "(IIII)I"⟩, 69) := ⟨⟨by decide +kernel, by decide +kernel⟩, List.mem_of_getElem? (i := 783) (by decide +kernel), List.mem_of_getElem? (i := 1130) (by decide +kernel), List.mem_of_getElem? (i := 1131) (by decide +kernel)⟩
theorem lw_p42 : lw_okq (⟨"ShortStrawModel", "keenly", "(I)I"⟩, 69) := ⟨⟨by decide +kernel, by decide +kernel⟩, List.mem_of_getElem? (i := 783) (by decide +kernel), List.mem_of_getElem? (i := 1134) (by decide +kernel), List.mem_of_getElem? (i := 1135) (by decide +kernel)⟩
theorem lw_p43 : lw_okq (⟨"ShortStrawModel", "plainly", "(I)I"⟩, 69) := ⟨⟨by decide +kernel, by decide +kernel⟩, List.mem_of_getElem? (i := 783) (by decide +kernel), List.mem_of_getElem? (i := 1138) (by decide +kernel), List.mem_of_getElem? (i := 1139) (by decide +kernel)⟩
theorem lw_p44 : lw_okq (⟨"ShortStrawModel", "holds", "(II)Z"⟩, 69) := ⟨⟨by decide +kernel, by decide +kernel⟩, List.mem_of_getElem? (i := 783) (by decide +kernel), List.mem_of_getElem? (i := 1142) (by decide +kernel), List.mem_of_getElem? (i := 1143) (by decide +kernel)⟩
theorem lw_p45 : lw_okq (⟨"ShortStrawModel", "factOf", "(II)I"⟩, 69) := ⟨⟨by decide +kernel, by decide +kernel⟩, List.mem_of_getElem? (i := 783) (by decide +kernel), List.mem_of_getElem? (i := 1146) (by decide +kernel), List.mem_of_getElem? (i := 1147) (by decide +kernel)⟩
theorem lw_p46 : lw_okq (⟨"ShortStrawModel", "chance", "(IIII)I"⟩, 69) := ⟨⟨by decide +kernel, by decide +kernel⟩, List.mem_of_getElem? (i := 783) (by decide +kernel), List.mem_of_getElem? (i := 1150) (by decide +kernel), List.mem_of_getElem? (i := 1151) (by decide +kernel)⟩
theorem lw_p47 : lw_okq (⟨"ShortStrawModel", "isDraw", "(I)Z"⟩, 69) := ⟨⟨by decide +kernel, by decide +kernel⟩, List.mem_of_getElem? (i := 783) (by decide +kernel), List.mem_of_getElem? (i := 1165) (by decide +kernel), List.mem_of_getElem? (i := 1166) (by decide +kernel)⟩
def lw_privs_3 : List (MethodName × Nat) := [(⟨"ShortStrawModel", "third", "()I"⟩, 69), (⟨"ShortStrawModel", "takesNumber", "()Z"⟩, 69), (⟨"ShortStrawModel", "isDigit", "()Z"⟩, 69), (⟨"ShortStrawModel", "takesE", "(I)Z"⟩, 69), (⟨"ShortStrawModel", "takesTest", "()Z"⟩, 69), (⟨"ShortStrawModel", "letterAt", "(I)I"⟩, 69), (⟨"ShortStrawModel", "emits", "(I)V"⟩, 69), (⟨"ShortStrawModel", "whole", "()V"⟩, 69), (⟨"ShortStrawModel", "settle", "(I)V"⟩, 69), (⟨"ShortStrawModel", "pull", "(IIII)I"⟩, 69), (⟨"ShortStrawModel", "keenly", "(I)I"⟩, 69), (⟨"ShortStrawModel", "plainly", "(I)I"⟩, 69), (⟨"ShortStrawModel", "holds", "(II)Z"⟩, 69), (⟨"ShortStrawModel", "factOf", "(II)I"⟩, 69), (⟨"ShortStrawModel", "chance", "(IIII)I"⟩, 69), (⟨"ShortStrawModel", "isDraw", "(I)Z"⟩, 69)]
theorem lw_r3 : ∀ q ∈ lw_privs_3, lw_okq q := List.forall_mem_cons.mpr ⟨lw_p32, List.forall_mem_cons.mpr ⟨lw_p33, List.forall_mem_cons.mpr ⟨lw_p34, List.forall_mem_cons.mpr ⟨lw_p35, List.forall_mem_cons.mpr ⟨lw_p36, List.forall_mem_cons.mpr ⟨lw_p37, List.forall_mem_cons.mpr ⟨lw_p38, List.forall_mem_cons.mpr ⟨lw_p39, List.forall_mem_cons.mpr ⟨lw_p40, List.forall_mem_cons.mpr ⟨lw_p41, List.forall_mem_cons.mpr ⟨lw_p42, List.forall_mem_cons.mpr ⟨lw_p43, List.forall_mem_cons.mpr ⟨lw_p44, List.forall_mem_cons.mpr ⟨lw_p45, List.forall_mem_cons.mpr ⟨lw_p46, List.forall_mem_cons.mpr ⟨lw_p47, fun _ h => absurd h List.not_mem_nil⟩⟩⟩⟩⟩⟩⟩⟩⟩⟩⟩⟩⟩⟩⟩⟩
theorem lw_p48 : lw_okq (⟨"ShortStrawModel", "goDraw", "(I)Z"⟩, 69) := ⟨⟨by decide +kernel, by decide +kernel⟩, List.mem_of_getElem? (i := 783) (by decide +kernel), List.mem_of_getElem? (i := 1170) (by decide +kernel), List.mem_of_getElem? (i := 1171) (by decide +kernel)⟩
theorem lw_p49 : lw_okq (⟨"ShortStrawModel", "isEnd", "()Z"⟩, 69) := ⟨⟨by decide +kernel, by decide +kernel⟩, List.mem_of_getElem? (i := 783) (by decide +kernel), List.mem_of_getElem? (i := 1174) (by decide +kernel), List.mem_of_getElem? (i := 1175) (by decide +kernel)⟩
theorem lw_p50 : lw_okq (⟨"ShortStrawModel", "layLikely", "()V"⟩, 69) := ⟨⟨by decide +kernel, by decide +kernel⟩, List.mem_of_getElem? (i := 783) (by decide +kernel), List.mem_of_getElem? (i := 1182) (by decide +kernel), List.mem_of_getElem? (i := 1183) (by decide +kernel)⟩
theorem lw_p51 : lw_okq (⟨"ShortStrawModel", "evenNow", "()I"⟩, 69) := ⟨⟨by decide +kernel, by decide +kernel⟩, List.mem_of_getElem? (i := 783) (by decide +kernel), List.mem_of_getElem? (i := 1190) (by decide +kernel), List.mem_of_getElem? (i := 1191) (by decide +kernel)⟩
theorem lw_p52 : lw_okq (⟨"ShortStrawModel", "keepOrder", "()V"⟩, 69) := ⟨⟨by decide +kernel, by decide +kernel⟩, List.mem_of_getElem? (i := 783) (by decide +kernel), List.mem_of_getElem? (i := 1199) (by decide +kernel), List.mem_of_getElem? (i := 1200) (by decide +kernel)⟩
theorem lw_p53 : lw_okq (⟨"ShortStrawModel", "layOrder", "(I)Z"⟩, 69) := ⟨⟨by decide +kernel, by decide +kernel⟩, List.mem_of_getElem? (i := 783) (by decide +kernel), List.mem_of_getElem? (i := 1203) (by decide +kernel), List.mem_of_getElem? (i := 1204) (by decide +kernel)⟩
theorem lw_p54 : lw_okq (⟨"ShortStrawModel", "has", "(II)Z"⟩, 69) := ⟨⟨by decide +kernel, by decide +kernel⟩, List.mem_of_getElem? (i := 783) (by decide +kernel), List.mem_of_getElem? (i := 1207) (by decide +kernel), List.mem_of_getElem? (i := 1208) (by decide +kernel)⟩
theorem lw_p55 : lw_okq (⟨"ShortStrawModel", "putOrder", "()V"⟩, 69) := ⟨⟨by decide +kernel, by decide +kernel⟩, List.mem_of_getElem? (i := 783) (by decide +kernel), List.mem_of_getElem? (i := 1211) (by decide +kernel), List.mem_of_getElem? (i := 1212) (by decide +kernel)⟩
theorem lw_p56 : lw_okq (⟨"ShortStrawModel", "lowest", "(JJI)J"⟩, 69) := ⟨⟨by decide +kernel, by decide +kernel⟩, List.mem_of_getElem? (i := 783) (by decide +kernel), List.mem_of_getElem? (i := 1233) (by decide +kernel), List.mem_of_getElem? (i := 1234) (by decide +kernel)⟩
theorem lw_p57 : lw_okq (⟨"ShortStrawModel", "divisor", "(JJ)J"⟩, 69) := ⟨⟨by decide +kernel, by decide +kernel⟩, List.mem_of_getElem? (i := 783) (by decide +kernel), List.mem_of_getElem? (i := 1237) (by decide +kernel), List.mem_of_getElem? (i := 1238) (by decide +kernel)⟩
theorem lw_p58 : lw_okq (⟨"ShortStrawModel", "isSeen", "(I)Z"⟩, 69) := ⟨⟨by decide +kernel, by decide +kernel⟩, List.mem_of_getElem? (i := 783) (by decide +kernel), List.mem_of_getElem? (i := 1266) (by decide +kernel), List.mem_of_getElem? (i := 1267) (by decide +kernel)⟩
theorem lw_p59 : lw_okq (⟨"ShortStrawModel", "save", "()V"⟩, 69) := ⟨⟨by decide +kernel, by decide +kernel⟩, List.mem_of_getElem? (i := 783) (by decide +kernel), List.mem_of_getElem? (i := 1270) (by decide +kernel), List.mem_of_getElem? (i := 1271) (by decide +kernel)⟩
theorem lw_p60 : lw_okq (⟨"ShortStrawModel", "putBack", "()V"⟩, 69) := ⟨⟨by decide +kernel, by decide +kernel⟩, List.mem_of_getElem? (i := 783) (by decide +kernel), List.mem_of_getElem? (i := 1274) (by decide +kernel), List.mem_of_getElem? (i := 1275) (by decide +kernel)⟩
theorem lw_p61 : lw_okq (⟨"ShortStrawModel", "isTape", "(I)Z"⟩, 69) := ⟨⟨by decide +kernel, by decide +kernel⟩, List.mem_of_getElem? (i := 783) (by decide +kernel), List.mem_of_getElem? (i := 1298) (by decide +kernel), List.mem_of_getElem? (i := 1299) (by decide +kernel)⟩
theorem lw_p62 : lw_okq (⟨"ShortStrawModel", "drawsAct", "(II)I"⟩, 69) := ⟨⟨by decide +kernel, by decide +kernel⟩, List.mem_of_getElem? (i := 783) (by decide +kernel), List.mem_of_getElem? (i := 1314) (by decide +kernel), List.mem_of_getElem? (i := 1315) (by decide +kernel)⟩
theorem lw_p63 : lw_okq (⟨"ShortStrawModel", "body", "(I)V"⟩, 69) := ⟨⟨by decide +kernel, by decide +kernel⟩, List.mem_of_getElem? (i := 783) (by decide +kernel), List.mem_of_getElem? (i := 1318) (by decide +kernel), List.mem_of_getElem? (i := 1319) (by decide +kernel)⟩
def lw_privs_4 : List (MethodName × Nat) := [(⟨"ShortStrawModel", "goDraw", "(I)Z"⟩, 69), (⟨"ShortStrawModel", "isEnd", "()Z"⟩, 69), (⟨"ShortStrawModel", "layLikely", "()V"⟩, 69), (⟨"ShortStrawModel", "evenNow", "()I"⟩, 69), (⟨"ShortStrawModel", "keepOrder", "()V"⟩, 69), (⟨"ShortStrawModel", "layOrder", "(I)Z"⟩, 69), (⟨"ShortStrawModel", "has", "(II)Z"⟩, 69), (⟨"ShortStrawModel", "putOrder", "()V"⟩, 69), (⟨"ShortStrawModel", "lowest", "(JJI)J"⟩, 69), (⟨"ShortStrawModel", "divisor", "(JJ)J"⟩, 69), (⟨"ShortStrawModel", "isSeen", "(I)Z"⟩, 69), (⟨"ShortStrawModel", "save", "()V"⟩, 69), (⟨"ShortStrawModel", "putBack", "()V"⟩, 69), (⟨"ShortStrawModel", "isTape", "(I)Z"⟩, 69), (⟨"ShortStrawModel", "drawsAct", "(II)I"⟩, 69), (⟨"ShortStrawModel", "body", "(I)V"⟩, 69)]
theorem lw_r4 : ∀ q ∈ lw_privs_4, lw_okq q := List.forall_mem_cons.mpr ⟨lw_p48, List.forall_mem_cons.mpr ⟨lw_p49, List.forall_mem_cons.mpr ⟨lw_p50, List.forall_mem_cons.mpr ⟨lw_p51, List.forall_mem_cons.mpr ⟨lw_p52, List.forall_mem_cons.mpr ⟨lw_p53, List.forall_mem_cons.mpr ⟨lw_p54, List.forall_mem_cons.mpr ⟨lw_p55, List.forall_mem_cons.mpr ⟨lw_p56, List.forall_mem_cons.mpr ⟨lw_p57, List.forall_mem_cons.mpr ⟨lw_p58, List.forall_mem_cons.mpr ⟨lw_p59, List.forall_mem_cons.mpr ⟨lw_p60, List.forall_mem_cons.mpr ⟨lw_p61, List.forall_mem_cons.mpr ⟨lw_p62, List.forall_mem_cons.mpr ⟨lw_p63, fun _ h => absurd h List.not_mem_nil⟩⟩⟩⟩⟩⟩⟩⟩⟩⟩⟩⟩⟩⟩⟩⟩
theorem lw_p64 : lw_okq (⟨"ShortStrawModel", "drawerDraws", "(II)I"⟩, 69) := ⟨⟨by decide +kernel, by decide +kernel⟩, List.mem_of_getElem? (i := 783) (by decide +kernel), List.mem_of_getElem? (i := 1322) (by decide +kernel), List.mem_of_getElem? (i := 1323) (by decide +kernel)⟩
theorem lw_p65 : lw_okq (⟨"ShortStrawModel", "showsAct", "(II)I"⟩, 69) := ⟨⟨by decide +kernel, by decide +kernel⟩, List.mem_of_getElem? (i := 783) (by decide +kernel), List.mem_of_getElem? (i := 1326) (by decide +kernel), List.mem_of_getElem? (i := 1327) (by decide +kernel)⟩
theorem lw_p66 : lw_okq (⟨"ShortStrawModel", "keenShows", "(II)I"⟩, 69) := ⟨⟨by decide +kernel, by decide +kernel⟩, List.mem_of_getElem? (i := 783) (by decide +kernel), List.mem_of_getElem? (i := 1330) (by decide +kernel), List.mem_of_getElem? (i := 1331) (by decide +kernel)⟩
theorem lw_p67 : lw_okq (⟨"ShortStrawModel", "drawerShows", "(II)I"⟩, 69) := ⟨⟨by decide +kernel, by decide +kernel⟩, List.mem_of_getElem? (i := 783) (by decide +kernel), List.mem_of_getElem? (i := 1334) (by decide +kernel), List.mem_of_getElem? (i := 1335) (by decide +kernel)⟩
theorem lw_p68 : lw_okq (⟨"ShortStrawModel", "tellsAct", "(II)I"⟩, 69) := ⟨⟨by decide +kernel, by decide +kernel⟩, List.mem_of_getElem? (i := 783) (by decide +kernel), List.mem_of_getElem? (i := 1338) (by decide +kernel), List.mem_of_getElem? (i := 1339) (by decide +kernel)⟩
theorem lw_p69 : lw_okq (⟨"ShortStrawModel", "drawerTells", "(II)I"⟩, 69) := ⟨⟨by decide +kernel, by decide +kernel⟩, List.mem_of_getElem? (i := 783) (by decide +kernel), List.mem_of_getElem? (i := 1342) (by decide +kernel), List.mem_of_getElem? (i := 1343) (by decide +kernel)⟩
theorem lw_p70 : lw_okq (⟨"ShortStrawModel", "narrow", "(IJ)J"⟩, 69) := ⟨⟨by decide +kernel, by decide +kernel⟩, List.mem_of_getElem? (i := 783) (by decide +kernel), List.mem_of_getElem? (i := 1366) (by decide +kernel), List.mem_of_getElem? (i := 1367) (by decide +kernel)⟩
def lw_privs_5 : List (MethodName × Nat) := [(⟨"ShortStrawModel", "drawerDraws", "(II)I"⟩, 69), (⟨"ShortStrawModel", "showsAct", "(II)I"⟩, 69), (⟨"ShortStrawModel", "keenShows", "(II)I"⟩, 69), (⟨"ShortStrawModel", "drawerShows", "(II)I"⟩, 69), (⟨"ShortStrawModel", "tellsAct", "(II)I"⟩, 69), (⟨"ShortStrawModel", "drawerTells", "(II)I"⟩, 69), (⟨"ShortStrawModel", "narrow", "(IJ)J"⟩, 69)]
theorem lw_r5 : ∀ q ∈ lw_privs_5, lw_okq q := List.forall_mem_cons.mpr ⟨lw_p64, List.forall_mem_cons.mpr ⟨lw_p65, List.forall_mem_cons.mpr ⟨lw_p66, List.forall_mem_cons.mpr ⟨lw_p67, List.forall_mem_cons.mpr ⟨lw_p68, List.forall_mem_cons.mpr ⟨lw_p69, List.forall_mem_cons.mpr ⟨lw_p70, fun _ h => absurd h List.not_mem_nil⟩⟩⟩⟩⟩⟩⟩
def lw_privs : List (MethodName × Nat) := lw_privs_1 ++ (lw_privs_2 ++ (lw_privs_3 ++ (lw_privs_4 ++ (lw_privs_5))))
def lw_tbl : List Cond := k2_sels lw_privs ++ tables_1
theorem lw_privs_ok : ∀ q ∈ lw_privs, lw_okq q := by
  show ∀ q ∈ lw_privs_1 ++ (lw_privs_2 ++ (lw_privs_3 ++ (lw_privs_4 ++ (lw_privs_5)))), lw_okq q
  exact List.forall_mem_append.mpr ⟨lw_r1, List.forall_mem_append.mpr ⟨lw_r2, List.forall_mem_append.mpr ⟨lw_r3, List.forall_mem_append.mpr ⟨lw_r4, lw_r5⟩⟩⟩⟩
end
section
def RX0 : String := "ShortStraw$Acts"
def TX0 : u_T := fun k => match k with
  | 0 => ("ShortStraw$Acts", "ran", "I", false)
  | 1 => ("ShortStraw$Acts", "bodies", "[I", true)
  | 2 => ("ShortStraw$Acts", "number", "I", false)
  | 3 => ("ShortStraw$Acts", "kind", "I", false)
  | _ => ("ShortStraw$Acts", "v", "I", false)
def tyX0 : Nat → FieldType := fun k => match k with
  | 0 => .int
  | 1 => .array .int
  | 2 => .int
  | 3 => .int
  | _ => .int
theorem nmX0 : ∀ a, a < 5 → ∀ b, b < 5 → a ≠ b → (TX0 a).2.1 ≠ (TX0 b).2.1 := by decide +kernel
theorem tyX0_ok : ∀ k, k < 5 → parseFieldDescriptor (TX0 k).2.2.1 = some (tyX0 k) := by decide +kernel
abbrev cX0_init : ByteArray := prog_2_method_1_code
def yX0_init : MethodName := ⟨RX0, "<init>", "()V"⟩
abbrev cX0_begin : ByteArray := prog_2_method_2_code
def yX0_begin : MethodName := ⟨RX0, "begin", "(IIIII)I"⟩
abbrev cX0_run : ByteArray := prog_2_method_3_code
def yX0_run : MethodName := ⟨RX0, "run", "(IIII)I"⟩
abbrev cX0_work : ByteArray := prog_2_method_4_code
def yX0_work : MethodName := ⟨RX0, "work", "(III)I"⟩
abbrev cX0_bodyOf : ByteArray := prog_2_method_5_code
def yX0_bodyOf : MethodName := ⟨RX0, "bodyOf", "(II)I"⟩
abbrev cX0_keep : ByteArray := prog_2_method_6_code
def yX0_keep : MethodName := ⟨RX0, "keep", "(I)V"⟩
def RX1 : String := "ShortStraw$Hut"
def TX1 : u_T := fun k => match k with
  | 0 => ("ShortStraw$Hut", "shorts", "I", true)
  | 1 => ("ShortStraw$Hut", "longsMore", "I", true)
  | _ => ("ShortStraw$Hut", "signs", "[I", true)
def tyX1 : Nat → FieldType := fun k => match k with
  | 0 => .int
  | 1 => .int
  | _ => .array .int
theorem nmX1 : ∀ a, a < 3 → ∀ b, b < 3 → a ≠ b → (TX1 a).2.1 ≠ (TX1 b).2.1 := by decide +kernel
theorem tyX1_ok : ∀ k, k < 3 → parseFieldDescriptor (TX1 k).2.2.1 = some (tyX1 k) := by decide +kernel
abbrev cX1_init : ByteArray := prog_3_method_1_code
def yX1_init : MethodName := ⟨RX1, "<init>", "()V"⟩
abbrev cX1_init_ : ByteArray := prog_3_method_2_code
def yX1_init_ : MethodName := ⟨RX1, "<init>", "(II[I)V"⟩
abbrev cX1_test : ByteArray := prog_3_method_3_code
def yX1_test : MethodName := ⟨RX1, "test", "(III)I"⟩
abbrev cX1_clause : ByteArray := prog_3_method_4_code
def yX1_clause : MethodName := ⟨RX1, "clause", "(II)I"⟩
abbrev cX1_plain : ByteArray := prog_3_method_5_code
def yX1_plain : MethodName := ⟨RX1, "plain", "([I)I"⟩
def RX2 : String := "ShortStraw$HutReader"
def TX2 : u_T := fun k => match k with
  | 0 => ("ShortStraw$HutReader", "length", "I", false)
  | 1 => ("ShortStraw$HutReader", "at", "I", false)
  | 2 => ("ShortStraw$HutReader", "text", "[I", true)
  | 3 => ("ShortStraw$HutReader", "shorts", "I", false)
  | 4 => ("ShortStraw$HutReader", "longsMore", "I", false)
  | 5 => ("ShortStraw$HutReader", "signsRead", "I", false)
  | _ => ("ShortStraw$HutReader", "signs", "[I", true)
def tyX2 : Nat → FieldType := fun k => match k with
  | 0 => .int
  | 1 => .int
  | 2 => .array .int
  | 3 => .int
  | 4 => .int
  | 5 => .int
  | _ => .array .int
theorem nmX2 : ∀ a, a < 7 → ∀ b, b < 7 → a ≠ b → (TX2 a).2.1 ≠ (TX2 b).2.1 := by decide +kernel
theorem tyX2_ok : ∀ k, k < 7 → parseFieldDescriptor (TX2 k).2.2.1 = some (tyX2 k) := by decide +kernel
abbrev cX2_init : ByteArray := prog_4_method_1_code
def yX2_init : MethodName := ⟨RX2, "<init>", "()V"⟩
abbrev cX2_add : ByteArray := prog_4_method_2_code
def yX2_add : MethodName := ⟨RX2, "add", "(I)I"⟩
abbrev cX2_readsAll : ByteArray := prog_4_method_3_code
def yX2_readsAll : MethodName := ⟨RX2, "readsAll", "()Z"⟩
abbrev cX2_newHut : ByteArray := prog_4_method_4_code
def yX2_newHut : MethodName := ⟨RX2, "newHut", "()LShortStraw$Hut;"⟩
abbrev cX2_readsClause : ByteArray := prog_4_method_5_code
def yX2_readsClause : MethodName := ⟨RX2, "readsClause", "()Z"⟩
abbrev cX2_word : ByteArray := prog_4_method_6_code
def yX2_word : MethodName := ⟨RX2, "word", "()I"⟩
abbrev cX2_readsEither : ByteArray := prog_4_method_7_code
def yX2_readsEither : MethodName := ⟨RX2, "readsEither", "(I)Z"⟩
abbrev cX2_readsFactor : ByteArray := prog_4_method_8_code
def yX2_readsFactor : MethodName := ⟨RX2, "readsFactor", "(I)Z"⟩
abbrev cX2_readsTest : ByteArray := prog_4_method_9_code
def yX2_readsTest : MethodName := ⟨RX2, "readsTest", "()Z"⟩
abbrev cX2_number : ByteArray := prog_4_method_10_code
def yX2_number : MethodName := ⟨RX2, "number", "()I"⟩
abbrev cX2_oneOf : ByteArray := prog_4_method_11_code
def yX2_oneOf : MethodName := ⟨RX2, "oneOf", "(Ljava/lang/String;)I"⟩
abbrev cX2_readsWord : ByteArray := prog_4_method_12_code
def yX2_readsWord : MethodName := ⟨RX2, "readsWord", "(Ljava/lang/String;)Z"⟩
abbrev cX2_reads : ByteArray := prog_4_method_13_code
def yX2_reads : MethodName := ⟨RX2, "reads", "(I)Z"⟩
abbrev cX2_keep : ByteArray := prog_4_method_14_code
def yX2_keep : MethodName := ⟨RX2, "keep", "(I)V"⟩
def RX3 : String := "ShortStraw$Likelihood"
def TX3 : u_T := fun k => match k with
  | 0 => ("ShortStraw$Likelihood", "likely", "[I", true)
  | 1 => ("ShortStraw$Likelihood", "winter", "LShortStraw$Winter;", true)
  | 2 => ("ShortStraw$Likelihood", "mass", "[J", true)
  | 3 => ("ShortStraw$Likelihood", "chances", "[I", true)
  | 4 => ("ShortStraw$Likelihood", "shorts", "I", false)
  | _ => ("ShortStraw$Likelihood", "longs", "I", false)
def tyX3 : Nat → FieldType := fun k => match k with
  | 0 => .array .int
  | 1 => .object "ShortStraw$Winter"
  | 2 => .array .long
  | 3 => .array .int
  | 4 => .int
  | _ => .int
theorem nmX3 : ∀ a, a < 6 → ∀ b, b < 6 → a ≠ b → (TX3 a).2.1 ≠ (TX3 b).2.1 := by decide +kernel
theorem tyX3_ok : ∀ k, k < 6 → parseFieldDescriptor (TX3 k).2.2.1 = some (tyX3 k) := by decide +kernel
abbrev cX3_init : ByteArray := prog_5_method_1_code
def yX3_init : MethodName := ⟨RX3, "<init>", "(LShortStraw$Winter;)V"⟩
abbrev cX3_begin : ByteArray := prog_5_method_2_code
def yX3_begin : MethodName := ⟨RX3, "begin", "(I)V"⟩
abbrev cX3_ofOne : ByteArray := prog_5_method_3_code
def yX3_ofOne : MethodName := ⟨RX3, "ofOne", "(I[I)I"⟩
abbrev cX3_evenBy : ByteArray := prog_5_method_4_code
def yX3_evenBy : MethodName := ⟨RX3, "evenBy", "([I)I"⟩
abbrev cX3_goThrough : ByteArray := prog_5_method_5_code
def yX3_goThrough : MethodName := ⟨RX3, "goThrough", "([I)V"⟩
abbrev cX3_chance : ByteArray := prog_5_method_6_code
def yX3_chance : MethodName := ⟨RX3, "chance", "(III)I"⟩
def RX4 : String := "ShortStraw$Tape"
def TX4 : u_T := fun k => match k with
  | 0 => ("ShortStraw$Tape", "sort", "I", false)
  | 1 => ("ShortStraw$Tape", "length", "I", false)
  | _ => ("ShortStraw$Tape", "items", "[J", true)
def tyX4 : Nat → FieldType := fun k => match k with
  | 0 => .int
  | 1 => .int
  | _ => .array .long
theorem nmX4 : ∀ a, a < 3 → ∀ b, b < 3 → a ≠ b → (TX4 a).2.1 ≠ (TX4 b).2.1 := by decide +kernel
theorem tyX4_ok : ∀ k, k < 3 → parseFieldDescriptor (TX4 k).2.2.1 = some (tyX4 k) := by decide +kernel
abbrev cX4_init : ByteArray := prog_6_method_1_code
def yX4_init : MethodName := ⟨RX4, "<init>", "()V"⟩
abbrev cX4_become : ByteArray := prog_6_method_2_code
def yX4_become : MethodName := ⟨RX4, "become", "(II)V"⟩
abbrev cX4_has : ByteArray := prog_6_method_3_code
def yX4_has : MethodName := ⟨RX4, "has", "(I)Z"⟩
abbrev cX4_hasRun : ByteArray := prog_6_method_4_code
def yX4_hasRun : MethodName := ⟨RX4, "hasRun", "(II)Z"⟩
abbrev cX4_cut : ByteArray := prog_6_method_5_code
def yX4_cut : MethodName := ⟨RX4, "cut", "(J)J"⟩
def RX5 : String := "ShortStraw$Winter"
def TX5 : u_T := fun k => match k with
  | 0 => ("ShortStraw$Winter", "drawers", "I", false)
  | 1 => ("ShortStraw$Winter", "kinds", "[I", true)
  | 2 => ("ShortStraw$Winter", "numbers", "[I", true)
  | 3 => ("ShortStraw$Winter", "sents", "[I", true)
  | 4 => ("ShortStraw$Winter", "rows", "[[I", true)
  | 5 => ("ShortStraw$Winter", "order", "[I", true)
  | 6 => ("ShortStraw$Winter", "shorts", "I", false)
  | 7 => ("ShortStraw$Winter", "longs", "I", false)
  | 8 => ("ShortStraw$Winter", "drawn", "I", false)
  | 9 => ("ShortStraw$Winter", "night", "I", false)
  | 10 => ("ShortStraw$Winter", "seen", "I", false)
  | 11 => ("ShortStraw$Winter", "seenNumbers", "[I", true)
  | 12 => ("ShortStraw$Winter", "seenShorts", "[I", true)
  | 13 => ("ShortStraw$Winter", "booked", "I", false)
  | 14 => ("ShortStraw$Winter", "book", "[I", true)
  | 15 => ("ShortStraw$Winter", "hut", "LShortStraw$Hut;", false)
  | _ => ("ShortStraw$Winter", "letters", "[I", true)
def tyX5 : Nat → FieldType := fun k => match k with
  | 0 => .int
  | 1 => .array .int
  | 2 => .array .int
  | 3 => .array .int
  | 4 => .array (.array .int)
  | 5 => .array .int
  | 6 => .int
  | 7 => .int
  | 8 => .int
  | 9 => .int
  | 10 => .int
  | 11 => .array .int
  | 12 => .array .int
  | 13 => .int
  | 14 => .array .int
  | 15 => .object "ShortStraw$Hut"
  | _ => .array .int
theorem nmX5 : ∀ a, a < 17 → ∀ b, b < 17 → a ≠ b → (TX5 a).2.1 ≠ (TX5 b).2.1 := by decide +kernel
theorem tyX5_ok : ∀ k, k < 17 → parseFieldDescriptor (TX5 k).2.2.1 = some (tyX5 k) := by decide +kernel
abbrev cX5_init : ByteArray := prog_7_method_1_code
def yX5_init : MethodName := ⟨RX5, "<init>", "()V"⟩
abbrev cX5_has : ByteArray := prog_7_method_2_code
def yX5_has : MethodName := ⟨RX5, "has", "(I)Z"⟩
abbrev cX5_welcome : ByteArray := prog_7_method_3_code
def yX5_welcome : MethodName := ⟨RX5, "welcome", "(II)I"⟩
abbrev cX5_become : ByteArray := prog_7_method_4_code
def yX5_become : MethodName := ⟨RX5, "become", "(LShortStraw$Winter;)V"⟩
abbrev cX5_wholeShorts : ByteArray := prog_7_method_5_code
def yX5_wholeShorts : MethodName := ⟨RX5, "wholeShorts", "()I"⟩
abbrev cX5_wholeLongs : ByteArray := prog_7_method_6_code
def yX5_wholeLongs : MethodName := ⟨RX5, "wholeLongs", "()I"⟩
abbrev cX5_makeWhole : ByteArray := prog_7_method_7_code
def yX5_makeWhole : MethodName := ⟨RX5, "makeWhole", "()V"⟩
abbrev cX5_placeOf : ByteArray := prog_7_method_8_code
def yX5_placeOf : MethodName := ⟨RX5, "placeOf", "(I)I"⟩
abbrev cX5_orderWith : ByteArray := prog_7_method_9_code
def yX5_orderWith : MethodName := ⟨RX5, "orderWith", "(II[I)V"⟩
abbrev cX5_next : ByteArray := prog_7_method_10_code
def yX5_next : MethodName := ⟨RX5, "next", "()I"⟩
abbrev cX5_drawNext : ByteArray := prog_7_method_11_code
def yX5_drawNext : MethodName := ⟨RX5, "drawNext", "(I)I"⟩
abbrev cX5_chance : ByteArray := prog_7_method_12_code
def yX5_chance : MethodName := ⟨RX5, "chance", "(IIII)I"⟩
abbrev cX5_pull : ByteArray := prog_7_method_13_code
def yX5_pull : MethodName := ⟨RX5, "pull", "(IIII)I"⟩
abbrev cX5_isSeenBy : ByteArray := prog_7_method_14_code
def yX5_isSeenBy : MethodName := ⟨RX5, "isSeenBy", "(II)Z"⟩
abbrev cX5_firstShortOfBook : ByteArray := prog_7_method_15_code
def yX5_firstShortOfBook : MethodName := ⟨RX5, "firstShortOfBook", "()I"⟩
def RX6 : String := "ShortStraw"
def TX6 : u_T := fun k => match k with
  | 0 => ("ShortStraw", "winter", "LShortStraw$Winter;", true)
  | 1 => ("ShortStraw", "kept", "LShortStraw$Winter;", true)
  | 2 => ("ShortStraw", "isKept", "Z", false)
  | 3 => ("ShortStraw", "likelihood", "LShortStraw$Likelihood;", true)
  | 4 => ("ShortStraw", "otherOrder", "[I", true)
  | 5 => ("ShortStraw", "bestOrder", "[I", true)
  | 6 => ("ShortStraw", "reader", "LShortStraw$HutReader;", true)
  | 7 => ("ShortStraw", "huts", "I", false)
  | 8 => ("ShortStraw", "acts", "LShortStraw$Acts;", true)
  | _ => ("ShortStraw", "tapes", "[LShortStraw$Tape;", true)
def tyX6 : Nat → FieldType := fun k => match k with
  | 0 => .object "ShortStraw$Winter"
  | 1 => .object "ShortStraw$Winter"
  | 2 => .boolean
  | 3 => .object "ShortStraw$Likelihood"
  | 4 => .array .int
  | 5 => .array .int
  | 6 => .object "ShortStraw$HutReader"
  | 7 => .int
  | 8 => .object "ShortStraw$Acts"
  | _ => .array (.object "ShortStraw$Tape")
theorem nmX6 : ∀ a, a < 10 → ∀ b, b < 10 → a ≠ b → (TX6 a).2.1 ≠ (TX6 b).2.1 := by decide +kernel
theorem tyX6_ok : ∀ k, k < 10 → parseFieldDescriptor (TX6 k).2.2.1 = some (tyX6 k) := by decide +kernel
abbrev cX6_init : ByteArray := prog_1_method_1_code
def yX6_init : MethodName := ⟨RX6, "<init>", "()V"⟩
abbrev cX6_drawer : ByteArray := prog_1_method_2_code
def yX6_drawer : MethodName := ⟨RX6, "drawer", "(II)I"⟩
abbrev cX6_of : ByteArray := prog_1_method_3_code
def yX6_of : MethodName := ⟨RX6, "of", "(II)I"⟩
abbrev cX6_sent : ByteArray := prog_1_method_4_code
def yX6_sent : MethodName := ⟨RX6, "sent", "(II)I"⟩
abbrev cX6_row : ByteArray := prog_1_method_5_code
def yX6_row : MethodName := ⟨RX6, "row", "(III)I"⟩
abbrev cX6_place : ByteArray := prog_1_method_6_code
def yX6_place : MethodName := ⟨RX6, "place", "(II)I"⟩
abbrev cX6_feed : ByteArray := prog_1_method_7_code
def yX6_feed : MethodName := ⟨RX6, "feed", "(I)I"⟩
abbrev cX6_hut : ByteArray := prog_1_method_8_code
def yX6_hut : MethodName := ⟨RX6, "hut", "()I"⟩
abbrev cX6_told : ByteArray := prog_1_method_9_code
def yX6_told : MethodName := ⟨RX6, "told", "(I)I"⟩
abbrev cX6_draw : ByteArray := prog_1_method_10_code
def yX6_draw : MethodName := ⟨RX6, "draw", "(I)I"⟩
abbrev cX6_likely : ByteArray := prog_1_method_11_code
def yX6_likely : MethodName := ⟨RX6, "likely", "(I)I"⟩
abbrev cX6_even : ByteArray := prog_1_method_12_code
def yX6_even : MethodName := ⟨RX6, "even", "()I"⟩
abbrev cX6_best : ByteArray := prog_1_method_13_code
def yX6_best : MethodName := ⟨RX6, "best", "(I)I"⟩
abbrev cX6_safest : ByteArray := prog_1_method_14_code
def yX6_safest : MethodName := ⟨RX6, "safest", "(II)I"⟩
abbrev cX6_enough : ByteArray := prog_1_method_15_code
def yX6_enough : MethodName := ⟨RX6, "enough", "(II)I"⟩
abbrev cX6_leans : ByteArray := prog_1_method_16_code
def yX6_leans : MethodName := ⟨RX6, "leans", "()I"⟩
abbrev cX6_coin : ByteArray := prog_1_method_17_code
def yX6_coin : MethodName := ⟨RX6, "coin", "(III)J"⟩
abbrev cX6_dice : ByteArray := prog_1_method_18_code
def yX6_dice : MethodName := ⟨RX6, "dice", "(III)J"⟩
abbrev cX6_turn : ByteArray := prog_1_method_19_code
def yX6_turn : MethodName := ⟨RX6, "turn", "()I"⟩
abbrev cX6_uneven : ByteArray := prog_1_method_20_code
def yX6_uneven : MethodName := ⟨RX6, "uneven", "()I"⟩
abbrev cX6_most : ByteArray := prog_1_method_21_code
def yX6_most : MethodName := ⟨RX6, "most", "(I)I"⟩
abbrev cX6_see : ByteArray := prog_1_method_22_code
def yX6_see : MethodName := ⟨RX6, "see", "(IZ)I"⟩
abbrev cX6_fits : ByteArray := prog_1_method_23_code
def yX6_fits : MethodName := ⟨RX6, "fits", "()I"⟩
abbrev cX6_odds : ByteArray := prog_1_method_24_code
def yX6_odds : MethodName := ⟨RX6, "odds", "(II)J"⟩
abbrev cX6_mean : ByteArray := prog_1_method_25_code
def yX6_mean : MethodName := ⟨RX6, "mean", "(I)J"⟩
abbrev cX6_book : ByteArray := prog_1_method_26_code
def yX6_book : MethodName := ⟨RX6, "book", "(I)I"⟩
abbrev cX6_looked : ByteArray := prog_1_method_27_code
def yX6_looked : MethodName := ⟨RX6, "looked", "()I"⟩
abbrev cX6_judge : ByteArray := prog_1_method_28_code
def yX6_judge : MethodName := ⟨RX6, "judge", "(II)I"⟩
abbrev cX6_image : ByteArray := prog_1_method_29_code
def yX6_image : MethodName := ⟨RX6, "image", "()I"⟩
abbrev cX6_undo : ByteArray := prog_1_method_30_code
def yX6_undo : MethodName := ⟨RX6, "undo", "()I"⟩
abbrev cX6_act : ByteArray := prog_1_method_31_code
def yX6_act : MethodName := ⟨RX6, "act", "(III)I"⟩
abbrev cX6_trace : ByteArray := prog_1_method_32_code
def yX6_trace : MethodName := ⟨RX6, "trace", "(I)I"⟩
abbrev cX6_taken : ByteArray := prog_1_method_33_code
def yX6_taken : MethodName := ⟨RX6, "taken", "(II)I"⟩
abbrev cX6_count : ByteArray := prog_1_method_34_code
def yX6_count : MethodName := ⟨RX6, "count", "(I)I"⟩
abbrev cX6_tape : ByteArray := prog_1_method_35_code
def yX6_tape : MethodName := ⟨RX6, "tape", "(III)I"⟩
abbrev cX6_item : ByteArray := prog_1_method_36_code
def yX6_item : MethodName := ⟨RX6, "item", "(IIJ)I"⟩
abbrev cX6_read : ByteArray := prog_1_method_37_code
def yX6_read : MethodName := ⟨RX6, "read", "(II)J"⟩
abbrev cX6_shift : ByteArray := prog_1_method_38_code
def yX6_shift : MethodName := ⟨RX6, "shift", "(IIIII)I"⟩
abbrev cX6_isDrawNumber : ByteArray := prog_1_method_39_code
def yX6_isDrawNumber : MethodName := ⟨RX6, "isDrawNumber", "(I)Z"⟩
abbrev cX6_isPart : ByteArray := prog_1_method_40_code
def yX6_isPart : MethodName := ⟨RX6, "isPart", "(I)Z"⟩
abbrev cX6_isChosen : ByteArray := prog_1_method_41_code
def yX6_isChosen : MethodName := ⟨RX6, "isChosen", "(I)Z"⟩
abbrev cX6_isKindOf : ByteArray := prog_1_method_42_code
def yX6_isKindOf : MethodName := ⟨RX6, "isKindOf", "(II)Z"⟩
abbrev cX6_tapeAt : ByteArray := prog_1_method_43_code
def yX6_tapeAt : MethodName := ⟨RX6, "tapeAt", "(I)LShortStraw$Tape;"⟩
abbrev cX6_throwsFor : ByteArray := prog_1_method_44_code
def yX6_throwsFor : MethodName := ⟨RX6, "throwsFor", "(II)I"⟩
abbrev cX6_power : ByteArray := prog_1_method_45_code
def yX6_power : MethodName := ⟨RX6, "power", "(II)J"⟩
abbrev cX6_lowest : ByteArray := prog_1_method_46_code
def yX6_lowest : MethodName := ⟨RX6, "lowest", "(JJI)J"⟩
abbrev cX6_commonDivisor : ByteArray := prog_1_method_47_code
def yX6_commonDivisor : MethodName := ⟨RX6, "commonDivisor", "(JJ)J"⟩
abbrev cX6_firstOrder : ByteArray := prog_1_method_48_code
def yX6_firstOrder : MethodName := ⟨RX6, "firstOrder", "([II)V"⟩
abbrev cX6_stepOrder : ByteArray := prog_1_method_49_code
def yX6_stepOrder : MethodName := ⟨RX6, "stepOrder", "([II)Z"⟩
abbrev cX6_swap : ByteArray := prog_1_method_50_code
def yX6_swap : MethodName := ⟨RX6, "swap", "([III)V"⟩
def RX7 : String := "ShortStrawModel"
def TX7 : u_T := fun k => match k with
  | 0 => ("ShortStrawModel", "drawers", "I", false)
  | 1 => ("ShortStrawModel", "nights", "I", false)
  | 2 => ("ShortStrawModel", "shorts", "I", false)
  | 3 => ("ShortStrawModel", "longs", "I", false)
  | 4 => ("ShortStrawModel", "drawn", "I", false)
  | 5 => ("ShortStrawModel", "kind", "[I", true)
  | 6 => ("ShortStrawModel", "v", "[I", true)
  | 7 => ("ShortStrawModel", "sent", "[I", true)
  | 8 => ("ShortStrawModel", "rows", "[I", true)
  | 9 => ("ShortStrawModel", "order", "[I", true)
  | 10 => ("ShortStrawModel", "huts", "I", false)
  | 11 => ("ShortStrawModel", "the", "I", false)
  | 12 => ("ShortStrawModel", "fed", "I", false)
  | 13 => ("ShortStrawModel", "at", "I", false)
  | 14 => ("ShortStrawModel", "digits", "I", false)
  | 15 => ("ShortStrawModel", "text", "[I", true)
  | 16 => ("ShortStrawModel", "clauses", "[I", true)
  | 17 => ("ShortStrawModel", "word", "[I", true)
  | 18 => ("ShortStrawModel", "number", "[I", true)
  | 19 => ("ShortStrawModel", "from", "[I", true)
  | 20 => ("ShortStrawModel", "to", "[I", true)
  | 21 => ("ShortStrawModel", "sign", "[I", true)
  | 22 => ("ShortStrawModel", "waits", "[I", true)
  | 23 => ("ShortStrawModel", "signs", "I", false)
  | 24 => ("ShortStrawModel", "waiting", "I", false)
  | 25 => ("ShortStrawModel", "open", "I", false)
  | 26 => ("ShortStrawModel", "letters", "[I", true)
  | 27 => ("ShortStrawModel", "pile", "[Z", true)
  | 28 => ("ShortStrawModel", "shortsSeen", "I", false)
  | 29 => ("ShortStrawModel", "longsSeen", "I", false)
  | 30 => ("ShortStrawModel", "placeSeen", "I", false)
  | 31 => ("ShortStrawModel", "likely", "[I", true)
  | 32 => ("ShortStrawModel", "gone", "[I", true)
  | 33 => ("ShortStrawModel", "mass", "[I", true)
  | 34 => ("ShortStrawModel", "longsMore", "I", false)
  | 35 => ("ShortStrawModel", "keptOrder", "[I", true)
  | 36 => ("ShortStrawModel", "bestOrder", "[I", true)
  | 37 => ("ShortStrawModel", "keptShorts", "I", false)
  | 38 => ("ShortStrawModel", "keptLongs", "I", false)
  | 39 => ("ShortStrawModel", "keptDrawn", "I", false)
  | 40 => ("ShortStrawModel", "keptSent", "[I", true)
  | 41 => ("ShortStrawModel", "seen", "I", false)
  | 42 => ("ShortStrawModel", "seenDraw", "[I", true)
  | 43 => ("ShortStrawModel", "seenShort", "[Z", true)
  | 44 => ("ShortStrawModel", "books", "I", false)
  | 45 => ("ShortStrawModel", "book", "[I", true)
  | 46 => ("ShortStrawModel", "hasImage", "Z", false)
  | 47 => ("ShortStrawModel", "imageThe", "I", false)
  | 48 => ("ShortStrawModel", "imageDrawers", "I", false)
  | 49 => ("ShortStrawModel", "imageNights", "I", false)
  | 50 => ("ShortStrawModel", "imageShorts", "I", false)
  | 51 => ("ShortStrawModel", "imageLongs", "I", false)
  | 52 => ("ShortStrawModel", "imageDrawn", "I", false)
  | 53 => ("ShortStrawModel", "imageSeen", "I", false)
  | 54 => ("ShortStrawModel", "imageBooks", "I", false)
  | 55 => ("ShortStrawModel", "imageKind", "[I", true)
  | 56 => ("ShortStrawModel", "imageV", "[I", true)
  | 57 => ("ShortStrawModel", "imageSent", "[I", true)
  | 58 => ("ShortStrawModel", "imageOrder", "[I", true)
  | 59 => ("ShortStrawModel", "imageRows", "[I", true)
  | 60 => ("ShortStrawModel", "imageDraw", "[I", true)
  | 61 => ("ShortStrawModel", "imageBook", "[I", true)
  | 62 => ("ShortStrawModel", "imageShort", "[Z", true)
  | 63 => ("ShortStrawModel", "ran", "I", false)
  | 64 => ("ShortStrawModel", "bodies", "[I", true)
  | 65 => ("ShortStrawModel", "sort", "[I", true)
  | 66 => ("ShortStrawModel", "length", "[I", true)
  | 67 => ("ShortStrawModel", "item", "[J", true)
  | _ => ("ShortStrawModel", "aside", "[J", true)
def tyX7 : Nat → FieldType := fun k => match k with
  | 0 => .int
  | 1 => .int
  | 2 => .int
  | 3 => .int
  | 4 => .int
  | 5 => .array .int
  | 6 => .array .int
  | 7 => .array .int
  | 8 => .array .int
  | 9 => .array .int
  | 10 => .int
  | 11 => .int
  | 12 => .int
  | 13 => .int
  | 14 => .int
  | 15 => .array .int
  | 16 => .array .int
  | 17 => .array .int
  | 18 => .array .int
  | 19 => .array .int
  | 20 => .array .int
  | 21 => .array .int
  | 22 => .array .int
  | 23 => .int
  | 24 => .int
  | 25 => .int
  | 26 => .array .int
  | 27 => .array .boolean
  | 28 => .int
  | 29 => .int
  | 30 => .int
  | 31 => .array .int
  | 32 => .array .int
  | 33 => .array .int
  | 34 => .int
  | 35 => .array .int
  | 36 => .array .int
  | 37 => .int
  | 38 => .int
  | 39 => .int
  | 40 => .array .int
  | 41 => .int
  | 42 => .array .int
  | 43 => .array .boolean
  | 44 => .int
  | 45 => .array .int
  | 46 => .boolean
  | 47 => .int
  | 48 => .int
  | 49 => .int
  | 50 => .int
  | 51 => .int
  | 52 => .int
  | 53 => .int
  | 54 => .int
  | 55 => .array .int
  | 56 => .array .int
  | 57 => .array .int
  | 58 => .array .int
  | 59 => .array .int
  | 60 => .array .int
  | 61 => .array .int
  | 62 => .array .boolean
  | 63 => .int
  | 64 => .array .int
  | 65 => .array .int
  | 66 => .array .int
  | 67 => .array .long
  | _ => .array .long
theorem nmX7 : ∀ a, a < 69 → ∀ b, b < 69 → a ≠ b → (TX7 a).2.1 ≠ (TX7 b).2.1 := by decide +kernel
theorem tyX7_ok : ∀ k, k < 69 → parseFieldDescriptor (TX7 k).2.2.1 = some (tyX7 k) := by decide +kernel
abbrev cX7_in : ByteArray := prog_9_method_1_code
def yX7_in : MethodName := ⟨RX7, "in", "(III)Z"⟩
abbrev cX7_has : ByteArray := prog_9_method_2_code
def yX7_has : MethodName := ⟨RX7, "has", "(II)Z"⟩
abbrev cX7_isDrawer : ByteArray := prog_9_method_3_code
def yX7_isDrawer : MethodName := ⟨RX7, "isDrawer", "(I)Z"⟩
abbrev cX7_isDraw : ByteArray := prog_9_method_4_code
def yX7_isDraw : MethodName := ⟨RX7, "isDraw", "(I)Z"⟩
abbrev cX7_init : ByteArray := prog_9_method_5_code
def yX7_init : MethodName := ⟨RX7, "<init>", "()V"⟩
abbrev cX7_drawer : ByteArray := prog_9_method_6_code
def yX7_drawer : MethodName := ⟨RX7, "drawer", "(II)I"⟩
abbrev cX7_sent : ByteArray := prog_9_method_7_code
def yX7_sent : MethodName := ⟨RX7, "sent", "(II)I"⟩
abbrev cX7_row : ByteArray := prog_9_method_8_code
def yX7_row : MethodName := ⟨RX7, "row", "(III)I"⟩
abbrev cX7_placeOf : ByteArray := prog_9_method_9_code
def yX7_placeOf : MethodName := ⟨RX7, "placeOf", "(I)I"⟩
abbrev cX7_puts : ByteArray := prog_9_method_10_code
def yX7_puts : MethodName := ⟨RX7, "puts", "(II)V"⟩
abbrev cX7_place : ByteArray := prog_9_method_11_code
def yX7_place : MethodName := ⟨RX7, "place", "(II)I"⟩
abbrev cX7_feed : ByteArray := prog_9_method_12_code
def yX7_feed : MethodName := ⟨RX7, "feed", "(I)I"⟩
abbrev cX7_next : ByteArray := prog_9_method_13_code
def yX7_next : MethodName := ⟨RX7, "next", "()I"⟩
abbrev cX7_second : ByteArray := prog_9_method_14_code
def yX7_second : MethodName := ⟨RX7, "second", "()I"⟩
abbrev cX7_takes : ByteArray := prog_9_method_15_code
def yX7_takes : MethodName := ⟨RX7, "takes", "(I)Z"⟩
abbrev cX7_takesWord : ByteArray := prog_9_method_16_code
def yX7_takesWord : MethodName := ⟨RX7, "takesWord", "(II)Z"⟩
abbrev cX7_isDigit : ByteArray := prog_9_method_17_code
def yX7_isDigit : MethodName := ⟨RX7, "isDigit", "()Z"⟩
abbrev cX7_takesNumber : ByteArray := prog_9_method_18_code
def yX7_takesNumber : MethodName := ⟨RX7, "takesNumber", "()Z"⟩
abbrev cX7_emits : ByteArray := prog_9_method_19_code
def yX7_emits : MethodName := ⟨RX7, "emits", "(I)V"⟩
abbrev cX7_whole : ByteArray := prog_9_method_20_code
def yX7_whole : MethodName := ⟨RX7, "whole", "()V"⟩
abbrev cX7_settle : ByteArray := prog_9_method_21_code
def yX7_settle : MethodName := ⟨RX7, "settle", "(I)V"⟩
abbrev cX7_letterAt : ByteArray := prog_9_method_22_code
def yX7_letterAt : MethodName := ⟨RX7, "letterAt", "(I)I"⟩
abbrev cX7_takesTest : ByteArray := prog_9_method_23_code
def yX7_takesTest : MethodName := ⟨RX7, "takesTest", "()Z"⟩
abbrev cX7_takesE : ByteArray := prog_9_method_24_code
def yX7_takesE : MethodName := ⟨RX7, "takesE", "(I)Z"⟩
abbrev cX7_third : ByteArray := prog_9_method_25_code
def yX7_third : MethodName := ⟨RX7, "third", "()I"⟩
abbrev cX7_takesHead : ByteArray := prog_9_method_26_code
def yX7_takesHead : MethodName := ⟨RX7, "takesHead", "(I)Z"⟩
abbrev cX7_takesClause : ByteArray := prog_9_method_27_code
def yX7_takesClause : MethodName := ⟨RX7, "takesClause", "(I)Z"⟩
abbrev cX7_goesText : ByteArray := prog_9_method_28_code
def yX7_goesText : MethodName := ⟨RX7, "goesText", "(I)Z"⟩
abbrev cX7_hut : ByteArray := prog_9_method_29_code
def yX7_hut : MethodName := ⟨RX7, "hut", "()I"⟩
abbrev cX7_begin : ByteArray := prog_9_method_30_code
def yX7_begin : MethodName := ⟨RX7, "begin", "()I"⟩
abbrev cX7_behind : ByteArray := prog_9_method_31_code
def yX7_behind : MethodName := ⟨RX7, "behind", "()I"⟩
abbrev cX7_lastOf : ByteArray := prog_9_method_32_code
def yX7_lastOf : MethodName := ⟨RX7, "lastOf", "(II)I"⟩
abbrev cX7_wholeShorts : ByteArray := prog_9_method_33_code
def yX7_wholeShorts : MethodName := ⟨RX7, "wholeShorts", "()I"⟩
abbrev cX7_wholeLongs : ByteArray := prog_9_method_34_code
def yX7_wholeLongs : MethodName := ⟨RX7, "wholeLongs", "()I"⟩
abbrev cX7_layFist : ByteArray := prog_9_method_35_code
def yX7_layFist : MethodName := ⟨RX7, "layFist", "()V"⟩
abbrev cX7_factOf : ByteArray := prog_9_method_36_code
def yX7_factOf : MethodName := ⟨RX7, "factOf", "(II)I"⟩
abbrev cX7_holds : ByteArray := prog_9_method_37_code
def yX7_holds : MethodName := ⟨RX7, "holds", "(II)Z"⟩
abbrev cX7_plainly : ByteArray := prog_9_method_38_code
def yX7_plainly : MethodName := ⟨RX7, "plainly", "(I)I"⟩
abbrev cX7_keenly : ByteArray := prog_9_method_39_code
def yX7_keenly : MethodName := ⟨RX7, "keenly", "(I)I"⟩
abbrev cX7_pull : ByteArray := prog_9_method_40_code
def yX7_pull : MethodName := ⟨RX7, "pull", "(IIII)I"⟩
abbrev cX7_chance : ByteArray := prog_9_method_41_code
def yX7_chance : MethodName := ⟨RX7, "chance", "(IIII)I"⟩
abbrev cX7_of : ByteArray := prog_9_method_42_code
def yX7_of : MethodName := ⟨RX7, "of", "(II)I"⟩
abbrev cX7_told : ByteArray := prog_9_method_43_code
def yX7_told : MethodName := ⟨RX7, "told", "(I)I"⟩
abbrev cX7_goDraw : ByteArray := prog_9_method_44_code
def yX7_goDraw : MethodName := ⟨RX7, "goDraw", "(I)Z"⟩
abbrev cX7_isEnd : ByteArray := prog_9_method_45_code
def yX7_isEnd : MethodName := ⟨RX7, "isEnd", "()Z"⟩
abbrev cX7_draw : ByteArray := prog_9_method_46_code
def yX7_draw : MethodName := ⟨RX7, "draw", "(I)I"⟩
abbrev cX7_layLikely : ByteArray := prog_9_method_47_code
def yX7_layLikely : MethodName := ⟨RX7, "layLikely", "()V"⟩
abbrev cX7_likely : ByteArray := prog_9_method_48_code
def yX7_likely : MethodName := ⟨RX7, "likely", "(I)I"⟩
abbrev cX7_evenNow : ByteArray := prog_9_method_49_code
def yX7_evenNow : MethodName := ⟨RX7, "evenNow", "()I"⟩
abbrev cX7_even : ByteArray := prog_9_method_50_code
def yX7_even : MethodName := ⟨RX7, "even", "()I"⟩
abbrev cX7_keepOrder : ByteArray := prog_9_method_51_code
def yX7_keepOrder : MethodName := ⟨RX7, "keepOrder", "()V"⟩
abbrev cX7_putOrder : ByteArray := prog_9_method_52_code
def yX7_putOrder : MethodName := ⟨RX7, "putOrder", "()V"⟩
abbrev cX7_layOrder : ByteArray := prog_9_method_53_code
def yX7_layOrder : MethodName := ⟨RX7, "layOrder", "(I)Z"⟩
abbrev cX7_best : ByteArray := prog_9_method_54_code
def yX7_best : MethodName := ⟨RX7, "best", "(I)I"⟩
abbrev cX7_safest : ByteArray := prog_9_method_55_code
def yX7_safest : MethodName := ⟨RX7, "safest", "(II)I"⟩
abbrev cX7_enough : ByteArray := prog_9_method_56_code
def yX7_enough : MethodName := ⟨RX7, "enough", "(II)I"⟩
abbrev cX7_leans : ByteArray := prog_9_method_57_code
def yX7_leans : MethodName := ⟨RX7, "leans", "()I"⟩
abbrev cX7_divisor : ByteArray := prog_9_method_58_code
def yX7_divisor : MethodName := ⟨RX7, "divisor", "(JJ)J"⟩
abbrev cX7_lowest : ByteArray := prog_9_method_59_code
def yX7_lowest : MethodName := ⟨RX7, "lowest", "(JJI)J"⟩
abbrev cX7_coin : ByteArray := prog_9_method_60_code
def yX7_coin : MethodName := ⟨RX7, "coin", "(III)J"⟩
abbrev cX7_dice : ByteArray := prog_9_method_61_code
def yX7_dice : MethodName := ⟨RX7, "dice", "(III)J"⟩
abbrev cX7_turn : ByteArray := prog_9_method_62_code
def yX7_turn : MethodName := ⟨RX7, "turn", "()I"⟩
abbrev cX7_uneven : ByteArray := prog_9_method_63_code
def yX7_uneven : MethodName := ⟨RX7, "uneven", "()I"⟩
abbrev cX7_most : ByteArray := prog_9_method_64_code
def yX7_most : MethodName := ⟨RX7, "most", "(I)I"⟩
abbrev cX7_save : ByteArray := prog_9_method_65_code
def yX7_save : MethodName := ⟨RX7, "save", "()V"⟩
abbrev cX7_putBack : ByteArray := prog_9_method_66_code
def yX7_putBack : MethodName := ⟨RX7, "putBack", "()V"⟩
abbrev cX7_see : ByteArray := prog_9_method_67_code
def yX7_see : MethodName := ⟨RX7, "see", "(IZ)I"⟩
abbrev cX7_isSeen : ByteArray := prog_9_method_68_code
def yX7_isSeen : MethodName := ⟨RX7, "isSeen", "(I)Z"⟩
abbrev cX7_fits : ByteArray := prog_9_method_69_code
def yX7_fits : MethodName := ⟨RX7, "fits", "()I"⟩
abbrev cX7_odds : ByteArray := prog_9_method_70_code
def yX7_odds : MethodName := ⟨RX7, "odds", "(II)J"⟩
abbrev cX7_mean : ByteArray := prog_9_method_71_code
def yX7_mean : MethodName := ⟨RX7, "mean", "(I)J"⟩
abbrev cX7_book : ByteArray := prog_9_method_72_code
def yX7_book : MethodName := ⟨RX7, "book", "(I)I"⟩
abbrev cX7_looked : ByteArray := prog_9_method_73_code
def yX7_looked : MethodName := ⟨RX7, "looked", "()I"⟩
abbrev cX7_judge : ByteArray := prog_9_method_74_code
def yX7_judge : MethodName := ⟨RX7, "judge", "(II)I"⟩
abbrev cX7_image : ByteArray := prog_9_method_75_code
def yX7_image : MethodName := ⟨RX7, "image", "()I"⟩
abbrev cX7_undo : ByteArray := prog_9_method_76_code
def yX7_undo : MethodName := ⟨RX7, "undo", "()I"⟩
abbrev cX7_body : ByteArray := prog_9_method_77_code
def yX7_body : MethodName := ⟨RX7, "body", "(I)V"⟩
abbrev cX7_drawerDraws : ByteArray := prog_9_method_78_code
def yX7_drawerDraws : MethodName := ⟨RX7, "drawerDraws", "(II)I"⟩
abbrev cX7_drawsAct : ByteArray := prog_9_method_79_code
def yX7_drawsAct : MethodName := ⟨RX7, "drawsAct", "(II)I"⟩
abbrev cX7_drawerShows : ByteArray := prog_9_method_80_code
def yX7_drawerShows : MethodName := ⟨RX7, "drawerShows", "(II)I"⟩
abbrev cX7_keenShows : ByteArray := prog_9_method_81_code
def yX7_keenShows : MethodName := ⟨RX7, "keenShows", "(II)I"⟩
abbrev cX7_showsAct : ByteArray := prog_9_method_82_code
def yX7_showsAct : MethodName := ⟨RX7, "showsAct", "(II)I"⟩
abbrev cX7_drawerTells : ByteArray := prog_9_method_83_code
def yX7_drawerTells : MethodName := ⟨RX7, "drawerTells", "(II)I"⟩
abbrev cX7_tellsAct : ByteArray := prog_9_method_84_code
def yX7_tellsAct : MethodName := ⟨RX7, "tellsAct", "(II)I"⟩
abbrev cX7_act : ByteArray := prog_9_method_85_code
def yX7_act : MethodName := ⟨RX7, "act", "(III)I"⟩
abbrev cX7_trace : ByteArray := prog_9_method_86_code
def yX7_trace : MethodName := ⟨RX7, "trace", "(I)I"⟩
abbrev cX7_taken : ByteArray := prog_9_method_87_code
def yX7_taken : MethodName := ⟨RX7, "taken", "(II)I"⟩
abbrev cX7_count : ByteArray := prog_9_method_88_code
def yX7_count : MethodName := ⟨RX7, "count", "(I)I"⟩
abbrev cX7_isTape : ByteArray := prog_9_method_89_code
def yX7_isTape : MethodName := ⟨RX7, "isTape", "(I)Z"⟩
abbrev cX7_tape : ByteArray := prog_9_method_90_code
def yX7_tape : MethodName := ⟨RX7, "tape", "(III)I"⟩
abbrev cX7_narrow : ByteArray := prog_9_method_91_code
def yX7_narrow : MethodName := ⟨RX7, "narrow", "(IJ)J"⟩
abbrev cX7_item : ByteArray := prog_9_method_92_code
def yX7_item : MethodName := ⟨RX7, "item", "(IIJ)I"⟩
abbrev cX7_read : ByteArray := prog_9_method_93_code
def yX7_read : MethodName := ⟨RX7, "read", "(II)J"⟩
abbrev cX7_shift : ByteArray := prog_9_method_94_code
def yX7_shift : MethodName := ⟨RX7, "shift", "(IIIII)I"⟩
def RJ11 : String := "java/lang/Character"
abbrev cJ11_isValidCodePoint_9a6ad : ByteArray := prog_10_method_11_code
def yJ11_isValidCodePoint_9a6ad : MethodName := ⟨RJ11, "isValidCodePoint", "(I)Z"⟩
abbrev cJ11_highSurrogate_5068e : ByteArray := prog_10_method_28_code
def yJ11_highSurrogate_5068e : MethodName := ⟨RJ11, "highSurrogate", "(I)C"⟩
abbrev cJ11_lowSurrogate_5068e : ByteArray := prog_10_method_29_code
def yJ11_lowSurrogate_5068e : MethodName := ⟨RJ11, "lowSurrogate", "(I)C"⟩
def RJ9 : String := "java/lang/Math"
abbrev cJ9_max_7cf53 : ByteArray := prog_12_method_65_code
def yJ9_max_7cf53 : MethodName := ⟨RJ9, "max", "(II)I"⟩
abbrev cJ9_min_7cf53 : ByteArray := prog_12_method_69_code
def yJ9_min_7cf53 : MethodName := ⟨RJ9, "min", "(II)I"⟩
def RJ0 : String := "java/lang/String"
abbrev cJ0_length_8abf5 : ByteArray := prog_13_method_54_code
def yJ0_length_8abf5 : MethodName := ⟨RJ0, "length", "()I"⟩
abbrev cJ0_charAt_5068e : ByteArray := prog_13_method_56_code
def yJ0_charAt_5068e : MethodName := ⟨RJ0, "charAt", "(I)C"⟩
abbrev cJ0_indexOf_0f7a4 : ByteArray := prog_13_method_79_code
def yJ0_indexOf_0f7a4 : MethodName := ⟨RJ0, "indexOf", "(I)I"⟩
abbrev cJ0_indexOf_7cf53 : ByteArray := prog_13_method_80_code
def yJ0_indexOf_7cf53 : MethodName := ⟨RJ0, "indexOf", "(II)I"⟩
abbrev cJ0_coder_7d493 : ByteArray := prog_13_method_152_code
def yJ0_coder_7d493 : MethodName := ⟨RJ0, "coder", "()B"⟩
abbrev cJ0_isLatin1_aae02 : ByteArray := prog_13_method_154_code
def yJ0_isLatin1_aae02 : MethodName := ⟨RJ0, "isLatin1", "()Z"⟩
abbrev cJ0_checkIndex_df160 : ByteArray := prog_13_method_155_code
def yJ0_checkIndex_df160 : MethodName := ⟨RJ0, "checkIndex", "(II)V"⟩
abbrev cJ0_checkBoundsBeginEnd_23922 : ByteArray := prog_13_method_158_code
def yJ0_checkBoundsBeginEnd_23922 : MethodName := ⟨RJ0, "checkBoundsBeginEnd", "(III)V"⟩
def RJ1 : String := "java/lang/StringLatin1"
abbrev cJ1_charAt_3b067 : ByteArray := prog_14_method_2_code
def yJ1_charAt_3b067 : MethodName := ⟨RJ1, "charAt", "([BI)C"⟩
abbrev cJ1_canEncode_9a6ad : ByteArray := prog_14_method_4_code
def yJ1_canEncode_9a6ad : MethodName := ⟨RJ1, "canEncode", "(I)Z"⟩
abbrev cJ1_indexOf_4cfef : ByteArray := prog_14_method_22_code
def yJ1_indexOf_4cfef : MethodName := ⟨RJ1, "indexOf", "([BIII)I"⟩
abbrev cJ1_indexOfChar_4cfef : ByteArray := prog_14_method_23_code
def yJ1_indexOfChar_4cfef : MethodName := ⟨RJ1, "indexOfChar", "([BIII)I"⟩
def RJ2 : String := "java/lang/StringUTF16"
abbrev cJ2_getChar_3b067 : ByteArray := prog_15_method_5_code
def yJ2_getChar_3b067 : MethodName := ⟨RJ2, "getChar", "([BI)C"⟩
abbrev cJ2_length_9d52b : ByteArray := prog_15_method_6_code
def yJ2_length_9d52b : MethodName := ⟨RJ2, "length", "([B)I"⟩
abbrev cJ2_indexOf_4cfef : ByteArray := prog_15_method_40_code
def yJ2_indexOf_4cfef : MethodName := ⟨RJ2, "indexOf", "([BIII)I"⟩
abbrev cJ2_indexOfChar_4cfef : ByteArray := prog_15_method_47_code
def yJ2_indexOfChar_4cfef : MethodName := ⟨RJ2, "indexOfChar", "([BIII)I"⟩
abbrev cJ2_indexOfCharUnsafe_4cfef : ByteArray := prog_15_method_48_code
def yJ2_indexOfCharUnsafe_4cfef : MethodName := ⟨RJ2, "indexOfCharUnsafe", "([BIII)I"⟩
abbrev cJ2_indexOfSupplementary_4cfef : ByteArray := prog_15_method_49_code
def yJ2_indexOfSupplementary_4cfef : MethodName := ⟨RJ2, "indexOfSupplementary", "([BIII)I"⟩
abbrev cJ2_charAt_3b067 : ByteArray := prog_15_method_83_code
def yJ2_charAt_3b067 : MethodName := ⟨RJ2, "charAt", "([BI)C"⟩
abbrev cJ2_checkIndex_2214a : ByteArray := prog_15_method_91_code
def yJ2_checkIndex_2214a : MethodName := ⟨RJ2, "checkIndex", "(I[B)V"⟩
abbrev cJ2_checkBoundsBeginEnd_d044e : ByteArray := prog_15_method_93_code
def yJ2_checkBoundsBeginEnd_d044e : MethodName := ⟨RJ2, "checkBoundsBeginEnd", "(II[B)V"⟩
def RJ10 : String := "java/lang/System"
def RJ7 : String := "java/util/Arrays"
abbrev cJ7_fill_d0a16 : ByteArray := prog_17_method_101_code
def yJ7_fill_d0a16 : MethodName := ⟨RJ7, "fill", "([JJ)V"⟩
abbrev cJ7_fill_53178 : ByteArray := prog_17_method_103_code
def yJ7_fill_53178 : MethodName := ⟨RJ7, "fill", "([II)V"⟩
abbrev cJ7_copyOf_59c91 : ByteArray := prog_17_method_123_code
def yJ7_copyOf_59c91 : MethodName := ⟨RJ7, "copyOf", "([II)[I"⟩
def RJ3 : String := "jdk/internal/util/Preconditions"
abbrev cJ3_checkIndex_8e157 : ByteArray := prog_18_method_11_code
def yJ3_checkIndex_8e157 : MethodName := ⟨RJ3, "checkIndex", "(IILjava/util/function/BiFunction;)I"⟩
abbrev cJ3_checkFromToIndex_8c36e : ByteArray := prog_18_method_12_code
def yJ3_checkFromToIndex_8c36e : MethodName := ⟨RJ3, "checkFromToIndex", "(IIILjava/util/function/BiFunction;)I"⟩
def RL : String := "ShortStrawLaw"
abbrev cL_law : ByteArray := code
def yL_law : MethodName := ⟨RL, "law", "([I)Z"⟩
end
section
/-! THE MINI WORLD: cells by index, contents as functions; how it lies in the machine's heap -/
def tW : List Cond := lw_tbl.filter goodWord
theorem tW_of {w : Cond} (i : Nat) (h : lw_tbl[i]? = some w) (g : goodWord w = true) : w ∈ tW := List.mem_filter.mpr ⟨List.mem_of_getElem? h, g⟩
theorem tW_ok {s : State} {args : Array Value} (h : ∀ w ∈ lw_tbl, w.before args s = true) : ∀ w ∈ tW, w.before args s = true := fun w hw => h w (List.mem_filter.mp hw).1
theorem tW_good : GoodIn tW tW := fun _ h => ⟨h, good_of_word (List.mem_filter.mp h).2⟩
abbrev cls8 : List vw_C := [(RX0, TX0, 5), (RX1, TX1, 3), (RX2, TX2, 7), (RX3, TX3, 6), (RX4, TX4, 3), (RX5, TX5, 17), (RX6, TX6, 10), (RX7, TX7, 69)]
set_option maxRecDepth 100000 in
theorem in8_b : cls8.all (fun q => (u_ws q.1 q.2.1 q.2.2).all (fun w => decide (w ∈ lw_tbl) && goodWord w)) = true := by decide +kernel
theorem in8 {ci : Nat} {q : vw_C} (h : cls8[ci]? = some q) : ∀ w ∈ u_ws q.1 q.2.1 q.2.2, w ∈ tW := by
  intro w hw
  have h1 := List.all_eq_true.mp (List.all_eq_true.mp in8_b q (List.mem_of_getElem? h)) w hw
  simp only [Bool.and_eq_true, decide_eq_true_eq] at h1
  exact List.mem_filter.mpr h1
def ty8 (ci : Nat) : Nat → FieldType := match ci with
  | 0 => tyX0
  | 1 => tyX1
  | 2 => tyX2
  | 3 => tyX3
  | 4 => tyX4
  | 5 => tyX5
  | 6 => tyX6
  | _ => tyX7
theorem ty8_ok : ∀ {ci : Nat} {q : vw_C}, cls8[ci]? = some q → ∀ k, k < q.2.2 → parseFieldDescriptor (q.2.1 k).2.2.1 = some (ty8 ci k) := by
  intro ci q h
  match ci, h with
  | 0, h => cases h; exact tyX0_ok
  | 1, h => cases h; exact tyX1_ok
  | 2, h => cases h; exact tyX2_ok
  | 3, h => cases h; exact tyX3_ok
  | 4, h => cases h; exact tyX4_ok
  | 5, h => cases h; exact tyX5_ok
  | 6, h => cases h; exact tyX6_ok
  | 7, h => cases h; exact tyX7_ok
  | k + 8, h => simp [cls8] at h
theorem nm8 : ∀ {ci : Nat} {q : vw_C}, cls8[ci]? = some q → ∀ a, a < q.2.2 → ∀ b, b < q.2.2 → a ≠ b → (q.2.1 a).2.1 ≠ (q.2.1 b).2.1 := by
  intro ci q h
  match ci, h with
  | 0, h => cases h; exact nmX0
  | 1, h => cases h; exact nmX1
  | 2, h => cases h; exact nmX2
  | 3, h => cases h; exact nmX3
  | 4, h => cases h; exact nmX4
  | 5, h => cases h; exact nmX5
  | 6, h => cases h; exact nmX6
  | 7, h => cases h; exact nmX7
  | k + 8, h => simp [cls8] at h
-- the mini memory: ints, longs, references; a shape: (kind, length), kind below 10 an array, else class kind - 10
abbrev MM : Type := (Nat → Nat → Int32) × (Nat → Nat → Int64) × (Nat → Nat → Option Nat)
abbrev Sh : Type := List (Nat × Nat)
def ur {α : Type} (f : Nat → Nat → α) (k : Nat) (g : Nat → α) : Nat → Nat → α := fun k' => if k' = k then g else f k'
theorem ur_s {α : Type} {f : Nat → Nat → α} {k : Nat} {g : Nat → α} : ur f k g k = g := if_pos rfl
theorem ur_n {α : Type} {f : Nat → Nat → α} {k k' : Nat} {g : Nat → α} (h : k' ≠ k) : ur f k g k' = f k' := if_neg h
def wI (M : MM) (k : Nat) (g : Nat → Int32) : MM := (ur M.1 k g, M.2)
def wJ (M : MM) (k : Nat) (g : Nat → Int64) : MM := (M.1, ur M.2.1 k g, M.2.2)
def wR (M : MM) (k : Nat) (g : Nat → Option Nat) : MM := (M.1, M.2.1, ur M.2.2 k g)
/-- which fields are references -/
def fRt : List (List Nat) := [[1], [2], [2, 6], [0, 1, 2, 3], [2], [1, 2, 3, 4, 5, 11, 12, 14, 15, 16], [0, 1, 3, 4, 5, 6, 8, 9], [5, 6, 7, 8, 9, 15, 16, 17, 18, 19, 20, 21, 22, 26, 27, 31, 32, 33, 35, 36, 40, 42, 43, 45, 55, 56, 57, 58, 59, 60, 61, 62, 64, 65, 66, 67, 68]]
def fR (ci j : Nat) : Bool := (fRt.getD ci []).contains j
def nF (ci : Nat) : Nat := [5, 3, 7, 6, 3, 17, 10, 69].getD ci 0
def cF (ad : Nat → Nat) (M : MM) (k ci : Nat) : List Value := (List.range (nF ci)).map (fun j => if fR ci j = true then va_re ad (M.2.2 k j) else .int (M.1 k j))
def cE (ct : Nat → ClassId) (ad : Nat → Nat) (M : MM) (k : Nat) (s : Nat × Nat) : va_E :=
  if s.1 < 10 then .inl (ct s.1, s.2, if s.1 = 1 then .inr (.inl (M.2.1 k)) else if s.1 = 3 ∨ s.1 = 4 then .inr (.inr (.inr (.inr (fun i => (M.2.2 k i).map ad)))) else .inl (M.1 k))
  else .inr (s.1 - 10, cF ad M k (s.1 - 10))
def cW (ct : Nat → ClassId) (ad : Nat → Nat) (sh : Sh) (M : MM) : va_W := sh.mapIdx (fun k s => (ad k, cE ct ad M k s))
theorem cW_get {ct : Nat → ClassId} {ad : Nat → Nat} {sh : Sh} {M : MM} {k : Nat} {s : Nat × Nat} (h : sh[k]? = some s) : (cW ct ad sh M)[k]? = some (ad k, cE ct ad M k s) := by
  simp [cW, h]
theorem cW_inv {ct : Nat → ClassId} {ad : Nat → Nat} {sh : Sh} {M : MM} {k : Nat} {q : Nat × va_E} (h : (cW ct ad sh M)[k]? = some q) : ∃ s, sh[k]? = some s ∧ q = (ad k, cE ct ad M k s) := by
  simp only [cW, List.getElem?_mapIdx, Option.map_eq_some_iff] at h
  obtain ⟨s, h1, h2⟩ := h
  exact ⟨s, h1, h2.symm⟩
theorem cE_ext {ct : Nat → ClassId} {ad ad' : Nat → Nat} {M M' : MM} {k : Nat} {s : Nat × Nat} (h1 : M'.1 k = M.1 k) (h2 : M'.2.1 k = M.2.1 k) (h3 : ∀ i, (M'.2.2 k i).map ad' = (M.2.2 k i).map ad) : cE ct ad' M' k s = cE ct ad M k s := by
  unfold cE cF va_re
  rw [h1, h2, funext h3]
  simp only [h3]
theorem cW_set {ct : Nat → ClassId} {ad : Nat → Nat} {sh : Sh} {M M' : MM} {k : Nat} {s : Nat × Nat} {e : va_E} (h : sh[k]? = some s) (h1 : ∀ k', k' ≠ k → M'.1 k' = M.1 k' ∧ M'.2.1 k' = M.2.1 k' ∧ M'.2.2 k' = M.2.2 k') (h2 : cE ct ad M' k s = e) : (cW ct ad sh M).set k (ad k, e) = cW ct ad sh M' := by
  apply List.ext_getElem?
  intro i
  rw [List.getElem?_set]
  by_cases hi : k = i
  · subst hi
    have hl : k < sh.length := (List.getElem?_eq_some_iff.mp h).1
    rw [if_pos rfl, if_pos (by simpa [cW] using hl), cW_get h, h2]
  · rw [if_neg hi]
    obtain ⟨a, b, c⟩ := h1 i (fun q => hi q.symm)
    simp only [cW, List.getElem?_mapIdx]
    cases sh[i]? with
    | none => rfl
    | some s' => simp only [Option.map_some]; rw [cE_ext a b (fun i => by rw [c])]
theorem wI_off {M : MM} {k : Nat} {g : Nat → Int32} : ∀ k', k' ≠ k → (wI M k g).1 k' = M.1 k' ∧ (wI M k g).2.1 k' = M.2.1 k' ∧ (wI M k g).2.2 k' = M.2.2 k' := fun _ h => ⟨ur_n h, rfl, rfl⟩
theorem wJ_off {M : MM} {k : Nat} {g : Nat → Int64} : ∀ k', k' ≠ k → (wJ M k g).1 k' = M.1 k' ∧ (wJ M k g).2.1 k' = M.2.1 k' ∧ (wJ M k g).2.2 k' = M.2.2 k' := fun _ h => ⟨rfl, ur_n h, rfl⟩
theorem wR_off {M : MM} {k : Nat} {g : Nat → Option Nat} : ∀ k', k' ≠ k → (wR M k g).1 k' = M.1 k' ∧ (wR M k g).2.1 k' = M.2.1 k' ∧ (wR M k g).2.2 k' = M.2.2 k' := fun _ h => ⟨rfl, rfl, ur_n h⟩
-- values
def cV (ad : Nat → Nat) : Value → Value
  | .ref k => .ref (ad k)
  | v => v
abbrev cL (ad : Nat → Nat) (q : Nat × Value) : Nat × Value := (q.1, cV ad q.2)
theorem cV_cat {ad : Nat → Nat} {v : Value} : (cV ad v).category = v.category := by cases v <;> rfl
theorem cV_rf {ad : Nat → Nat} {r : Option Nat} : va_re ad r = cV ad (va_rf r) := by cases r <;> rfl
abbrev EV : Type := va_G × (Nat → ClassId)
def tyL (E : EV) : List (ClassId × FieldType) := [(E.2 0, .int), (E.2 1, .long), (E.2 2, .boolean), (E.2 3, .object RX4), (E.2 4, .array .int)]
def Wd (E : EV) (ad : Nat → Nat) (sh : Sh) (M : MM) (A : Nat → Prop) (H : Heap) : Prop := va_P E.1 cls8 (cW E.2 ad sh M) H ∧ va_D A (cW E.2 ad sh M)
def Wk (E : EV) (U : State) : Prop := va_K E.1 cls8 (tyL E) U
-- what is there before the law and stays: two tables, String constants, three statics of the JDK
def tabA (j : Nat) : Int32 := [-1, 0, 0, 0, 1, 2, 3].getD j 0
def tabB (j : Nat) : Int32 := [10, 11, 12, 0, 20, 0, 30, 0, 0, 0, 0, 40, 50, 51, 0, 0, 0, 60, 71, 70, 0].getD j 0
def sIx (i : Nat) : Nat := [71, 77, 79, 81, 89, 95].getD i 0
def sTx (i : Nat) : String := ["lean", "more", "sh", "ort", "dknslp", "<=>"].getD i ""
def sLen : List Nat := [4, 4, 2, 3, 6, 3]
def sByt : List (List Int32) := [[108, 101, 97, 110], [109, 111, 114, 101], [115, 104], [111, 114, 116], [100, 107, 110, 115, 108, 112], [60, 61, 62]]
def va_AOA (t : FieldType) (U : State) : Prop := (Cond.arrayOver (.array t)).before #[] U = true
theorem va_AOA.of {t : FieldType} {A : Array Value} {U : State} (h : (Cond.arrayOver (.array t)).before A U = true) : va_AOA t U := h
theorem va_AOA.use {t : FieldType} {A : Array Value} {U : State} (h : va_AOA t U) : (Cond.arrayOver (.array t)).before A U = true := h
theorem va_AOA.moved {t : FieldType} {u U : State} (hvm : u.vm.Alike U.vm) (h : va_AOA t u) : va_AOA t U := by
  obtain ⟨comp, c, k, h1, h2, h3, h4, h5⟩ := arrayOverA_spec h
  obtain ⟨k', hk', he⟩ := hvm.2.2 _ _ h3
  have idx : ∀ vm : Vm, (vm.bare.classes.findIdx? fun (x : Class) => match x.kind with | .array component _ => component == comp | _ => false) = (vm.classes.findIdx? fun (x : Class) => match x.kind with | .array component _ => component == comp | _ => false) := fun vm => by
    simp only [Vm.bare, Array.findIdx?_map]
    rfl
  have hi : (U.vm.classes.findIdx? fun (x : Class) => match x.kind with | .array component _ => component == comp | _ => false) = some c := by
    rw [← idx]
    first | rw [hvm.bare_eq] | rw [← hvm.bare_eq]
    rw [idx]
    exact h2
  have hkind : k'.kind = .array comp (.array t) := by rw [he]; exact h4
  have f1 : U.vm.findClass (FieldType.array t).toString = some comp := by rw [hvm.findClass]; exact h1
  have f2 : U.vm.findClass ("[" ++ (FieldType.array t).toString) = some c := by rw [hvm.findClass]; exact h5
  unfold va_AOA Cond.before Cond.holds
  simp only [Cond.value]
  rw [f1, Option.bind_some]
  refine (congrArg (fun o : Option Nat => (o.bind (fun c => (U.vm.classes[c]?).map fun (k : Class) => match k.kind with | .array _ ty => decide (ty = FieldType.array t) && decide (U.vm.findClass ("[" ++ (FieldType.array t).toString) = some c) | _ => false) == some true)) hi).trans ?_
  simp [hk', hkind, f2]
/-- links of nest mates and arrays of references: they don't ride among the words -/
def Nws (U : State) : Prop := va_Nw (.fieldLinkNest RX0 44 RX6 "ABOVE" "[I" RX6) U ∧ va_Nw (.methodLinkNest RX6 11 yX5_init RX6) U ∧ va_Nw (.methodLinkNest RX6 43 yX2_init RX6) U ∧ va_Nw (.methodLinkNest RX6 54 yX0_init RX6) U ∧ va_Nw (.methodLinkNest RX6 65 yX4_init RX6) U ∧ va_AO RX4 U ∧ va_AOA .int U
theorem Nws_warm {s U : State} (hW : s.WarmedH U.vm) (h : Nws s) : Nws U := ⟨h.1.warmF hW, h.2.1.warmM hW, h.2.2.1.warmM hW, h.2.2.2.1.warmM hW, h.2.2.2.2.1.warmM hW, h.2.2.2.2.2.1.moved hW.alike, h.2.2.2.2.2.2.moved hW.alike⟩
theorem Nws_same {s U : State} (hv : U.vm = s.vm) (h : Nws s) : Nws U := ⟨h.1.same rfl hv.symm, h.2.1.same rfl hv.symm, h.2.2.1.same rfl hv.symm, h.2.2.2.1.same rfl hv.symm, h.2.2.2.2.1.same rfl hv.symm, h.2.2.2.2.2.1.moved (by rw [hv]; exact Vm.Alike.refl _), h.2.2.2.2.2.2.moved (by rw [hv]; exact Vm.Alike.refl _)⟩
/-- a static that holds null, or a reference to a place that is known -/
def va_Zr (C n d : String) (t : Nat) (A : Nat → Prop) (U : State) (H : Heap) : Prop := va_Z C n d .null A U H ∨ va_Z C n d (.ref t) A U H
theorem va_Zr.moved {C n d : String} {t : Nat} {A : Nat → Prop} {u U : State} {H : Heap} (hvm : u.vm.Alike U.vm) (h : va_Zr C n d t A u H) : va_Zr C n d t A U H := h.imp (va_Z.moved hvm) (va_Z.moved hvm)
theorem va_Zr.kept {C n d : String} {t : Nat} {A : Nat → Prop} {U : State} {H H1 : Heap} (h : va_Zr C n d t A U H) (hq : ∀ a : Nat, a < H.size → ¬ A a → H1[a]? = H[a]?) : va_Zr C n d t A U H1 := h.imp (fun x => x.kept hq) (fun x => x.kept hq)
theorem va_Zr.narrow {C n d : String} {t : Nat} {A B : Nat → Prop} {U : State} {H : Heap} (h : va_Zr C n d t A U H) (hAB : ∀ q, B q → A q) : va_Zr C n d t B U H := h.imp (fun x => x.narrow hAB) (fun x => x.narrow hAB)
def St (ad : Nat → Nat) (A : Nat → Prop) (U : State) (H : Heap) : Prop :=
  va_Z RX6 "ABOVE" "[I" (.ref (ad 1000)) A U H ∧ va_T .int (ad 1000) 7 (fun j => .int (tabA j)) A U H ∧
  va_Z RX0 "BODIES" "[I" (.ref (ad 1001)) A U H ∧ va_T .int (ad 1001) 21 (fun j => .int (tabB j)) A U H ∧
  va_Z RJ0 "COMPACT_STRINGS" "Z" (.int 1) A U H ∧ va_Zr RJ3 "SIOOBE_FORMATTER" "Ljava/util/function/BiFunction;" (ad 1030) A U H ∧
  vk_S 6 sLen sByt (fun i => ad (1010 + i)) (fun i => ad (1020 + i)) A U H ∧
  (∀ i, i < 6 → vk_R RX2 (sIx i) (sTx i) (ad (1010 + i)) U) ∧ Nws U
theorem St_ad {ad ad' : Nat → Nat} {A : Nat → Prop} {U : State} {H : Heap} (h : St ad A U H) (e : ∀ j, 1000 ≤ j → ad' j = ad j) : St ad' A U H := by
  have e1 : (fun i => ad' (1010 + i)) = (fun i => ad (1010 + i)) := funext fun i => e _ (by omega)
  have e2 : (fun i => ad' (1020 + i)) = (fun i => ad (1020 + i)) := funext fun i => e _ (by omega)
  unfold St
  rw [e 1000 (by omega), e 1001 (by omega), e 1030 (by omega), e1, e2]
  refine ⟨h.1, h.2.1, h.2.2.1, h.2.2.2.1, h.2.2.2.2.1, h.2.2.2.2.2.1, h.2.2.2.2.2.2.1, fun i hi => ?_, h.2.2.2.2.2.2.2.2⟩
  rw [e (1010 + i) (by omega)]
  exact h.2.2.2.2.2.2.2.1 i hi
/-- the same at a later heap, for fewer cells that may change -/
theorem St_at {ad : Nat → Nat} {A B : Nat → Prop} {s U : State} {H H1 : Heap} (h : St ad A s H) (hvm : s.vm.Alike U.vm) (hR : (∀ i, i < 6 → vk_R RX2 (sIx i) (sTx i) (ad (1010 + i)) U) ∧ Nws U) (hq : ∀ a : Nat, a < H.size → ¬ A a → H1[a]? = H[a]?) (hAB : ∀ q, B q → A q) : St ad B U H1 := by
  obtain ⟨a1, a2, a3, a4, a5, a6, a7, -⟩ := h
  exact ⟨((a1.moved hvm).kept hq).narrow hAB, ((a2.moved hvm).kept hq).narrow hAB, ((a3.moved hvm).kept hq).narrow hAB, ((a4.moved hvm).kept hq).narrow hAB, ((a5.moved hvm).kept hq).narrow hAB, ((a6.moved hvm).kept hq).narrow hAB, ((a7.moved hvm).kept hq).narrow hAB, hR⟩
theorem St_warm {ad : Nat → Nat} {A B : Nat → Prop} {s U : State} {H H1 : Heap} (h : St ad A s H) (hW : s.WarmedH U.vm) (hq : ∀ a : Nat, a < H.size → ¬ A a → H1[a]? = H[a]?) (hAB : ∀ q, B q → A q) : St ad B U H1 :=
  St_at h hW.alike ⟨fun i hi => (h.2.2.2.2.2.2.2.1 i hi).warm hW, Nws_warm hW h.2.2.2.2.2.2.2.2⟩ hq hAB
theorem St_same {ad : Nat → Nat} {A : Nat → Prop} {s U : State} {H : Heap} (h : St ad A s H) (hv : U.vm = s.vm) : St ad A U H :=
  St_at h (by rw [hv]; exact Vm.Alike.refl _) ⟨fun i hi => (h.2.2.2.2.2.2.2.1 i hi).same hv, Nws_same hv h.2.2.2.2.2.2.2.2⟩ (fun _ _ _ => rfl) (fun _ q => q)
end
section
/-! THE JUDGEMENT G: from this frame of the mini world the method comes to its end with Q; K: a method's contract -/
abbrev YD : Type := MethodName × ByteArray × Nat × Option FieldType
abbrev PO : Type := Option Value → Sh → MM → Prop
def Ag (b : Bool) (n : Nat) (a a' : Nat → Nat) : Prop := (b = false → a' = a) ∧ ∀ j, (j < n ∨ 1000 ≤ j) → a' j = a j
theorem Ag.rf {b : Bool} {n : Nat} {a : Nat → Nat} : Ag b n a a := ⟨fun _ => rfl, fun _ _ => rfl⟩
theorem Ag.hi {b : Bool} {n : Nat} {a a' : Nat → Nat} (h : Ag b n a a') : ∀ j, 1000 ≤ j → a' j = a j := fun j hj => h.2 j (Or.inr hj)
def Cx (Y : YD) (E : EV) (ad : Nat → Nat) (A : Nat → Prop) (p : Program) (s : State) (m : MethodId) (args : Array Value) (meth : Method) (c : Code) : Prop :=
  p.tables.exec = Jvm.exec ∧ c.code = Y.2.1 ∧ c.maxLocals = Y.2.2.1 ∧ s.vm.findClass Y.1.cls = some m.cls ∧ (∀ w ∈ tW, w.before args s = true) ∧ meth.sig.returnType = Y.2.2.2 ∧ meth.locks = false ∧ meth.name = Y.1.name ∧ Wk E s ∧ St ad A s s.heap ∧ ∀ q : Nat, s.heap.size ≤ q → A q
def QQ (b : Bool) (E : EV) (ad0 : Nat → Nat) (n0 : Nat) (A : Nat → Prop) (Q : PO) : Array Value → State → Outcome → State → Prop := fun _ st oc t =>
  (∃ (v : Option Value) (sh : Sh) (M : MM) (ad : Nat → Nat), oc = .returned (v.map (cV ad)) ∧ Q v sh M ∧ Ag b n0 ad0 ad ∧ n0 ≤ sh.length ∧ Wd E ad sh M A t.heap ∧ Wk E t) ∧ va_F A st t
def rmK (d k n : Nat) : Room := { frames := d, cells := k, slots := n, locals := 64 * d }
def G (b : Bool) (d k n : Nat) (Y : YD) (sh : Sh) (M : MM) (pc : Nat) (ls : List (Nat × Value)) (st : List Value) (Q : PO) : Prop :=
  ∀ (p : Program) (l : Launch) (e : Env) (s : State) (m : MethodId) (args : Array Value) (below : List Frame) (meth : Method) (c : Code) (H : Heap) (locs : List Loc) (cells slots : Nat) (E : EV) (ad0 : Nat → Nat) (n0 : Nat) (ad : Nat → Nat) (A : Nat → Prop) (larr : Array Slot) (mc ms : Nat),
    Cx Y E ad A p s m args meth c → Ag b n0 ad0 ad → n0 ≤ sh.length → Wd E ad sh M A H → va_S A s.heap H locs → lv_has larr Y.2.2.1 (ls.map (cL ad)) → cells + k ≤ mc → slots + n ≤ ms →
    W p l e (rmK d mc ms) s m args below meth c H locs cells slots (MQ below (QQ b E ad0 n0 A Q) args s mc ms A) (F0 m pc larr (st.map (cV ad)))
def K (b : Bool) (d k n : Nat) (Y : YD) (sh : Sh) (M : MM) (av : List Value) (Q : PO) : Prop :=
  ∀ (l : Launch) (E : EV) (ad : Nat → Nat) (sz : Nat), Met l Y.1 (.code Y.1 Y.2.1 Y.2.2.1 Y.2.2.2 :: tW) (rmK d k n) (va_Pc (av.map (cV ad)) (fun U => U.heap.size = sz ∧ Wd E ad sh M (fun _ => True) U.heap ∧ Wk E U ∧ St ad (va_A (cW E.2 ad sh M) sz) U U.heap)) (QQ b E ad sh.length (va_A (cW E.2 ad sh M) sz) Q) k n (va_A (cW E.2 ad sh M) sz)
theorem cL_args {ad : Nat → Nat} : ∀ (i : Nat) (av : List Value), lv_args i (av.map (cV ad)) = (lv_args i av).map (cL ad)
  | _, [] => rfl
  | i, v :: av => by
    rw [List.map_cons, lv_args, lv_args, List.map_cons, cV_cat, cL_args _ av]
theorem K_of_G {b : Bool} {d k n : Nat} {Y : YD} {sh : Sh} {M : MM} {av : List Value} {Q : PO} (hy : plainName Y.1.cls = true) (hlen : ∀ ad : Nat → Nat, (lg_sl (av.map (cV ad))).length ≤ Y.2.2.1) (g : G b d k n Y sh M 0 (lv_args 0 av) [] Q) : K b d k n Y sh M av Q := by
  intro l E ad sz
  refine Met.ofW (cc := Y.2.1) (maxL := Y.2.2.1) (ret := Y.2.2.2) hy rfl ?_
  intro p e s m args below meth c s₁ B hml hv
  obtain ⟨rfl, hsz, hW, hK, hSt⟩ := hv
  have hts := atoms_spec (ws := .code Y.1 Y.2.1 Y.2.2.1 Y.2.2.2 :: tW) B.pre
  have hown : s.vm.findClass Y.1.cls = some m.cls := findClass_of_methodNamed B.named
  have hnm : meth.name = Y.1.name := (name_of_methodNamed B.named B.method).1
  have hlocks := B.notSynchronized
  subst hsz
  have hl := lv_entry (av.map (cV ad)) (n := Y.2.2.1) (hlen ad)
  rw [lg_entry_eq]
  rw [cL_args] at hl
  exact g p l e s m _ below meth c s.heap [] 0 0 E ad sh.length ad _ _ k n ⟨B.exec, B.bytes, hml, hown, fun w hw => hts w (List.mem_cons_of_mem _ hw), B.returns, hlocks, hnm, hK, hSt, fun q h => Or.inr h⟩ Ag.rf (Nat.le_refl _) ⟨hW.1, hW.2.self⟩ va_S.rf hl (by omega) (by omega)
section GG
variable {b : Bool} {d k n : Nat} {Y : YD} {sh : Sh} {M : MM} {pc : Nat} {ls : List (Nat × Value)} {st : List Value} {Q : PO}
theorem G_pure {pc' : Nat} {ls' : List (Nat × Value)} {st' : List Value}
    (h : ∀ {p : Program} {l : Launch} {e : Env} {R : Room} {s : State} {m : MethodId} {args : Array Value} {below : List Frame} {meth : Method} {c : Code} {H : Heap} {locs : List Loc} {cells slots : Nat} {Q' : State → Prop} {larr : Array Slot} {E : EV} {ad : Nat → Nat} {A : Nat → Prop},
      Cx Y E ad A p s m args meth c → lv_has larr Y.2.2.1 (ls.map (cL ad)) → (∀ larr' : Array Slot, lv_has larr' Y.2.2.1 (ls'.map (cL ad)) → W p l e R s m args below meth c H locs cells slots Q' (F0 m pc' larr' (st'.map (cV ad)))) → W p l e R s m args below meth c H locs cells slots Q' (F0 m pc larr (st.map (cV ad))))
    (g : G b d k n Y sh M pc' ls' st' Q) : G b d k n Y sh M pc ls st Q := by
  intro p l e s m args below meth c H locs cells slots E ad0 n0 ad A larr mc ms hC hAg hn hW hS hl hk hs
  exact h hC hl (fun larr' hl' => g p l e s m args below meth c H locs cells slots E ad0 n0 ad A larr' mc ms hC hAg hn hW hS hl' hk hs)
/-- a step that changes the memory alone, at a place that is there -/
theorem G_mem {pc' : Nat} {st' : List Value} {M' : MM}
    (h : ∀ {p : Program} {l : Launch} {e : Env} {R : Room} {s : State} {m : MethodId} {args : Array Value} {below : List Frame} {meth : Method} {c : Code} {H : Heap} {locs : List Loc} {cells slots : Nat} {Q' : State → Prop} {larr : Array Slot} {E : EV} {ad : Nat → Nat} {A : Nat → Prop},
      Cx Y E ad A p s m args meth c → Wd E ad sh M A H → va_S A s.heap H locs → larr.size = Y.2.2.1 → R.frames = d → R.locals = 64 * d → (∀ (H1 : Heap) (locs1 : List Loc), Wd E ad sh M' A H1 → va_S A s.heap H1 locs1 → W p l e R s m args below meth c H1 locs1 cells slots Q' (F0 m pc' larr (st'.map (cV ad)))) → W p l e R s m args below meth c H locs cells slots Q' (F0 m pc larr (st.map (cV ad))))
    (g : G b d k n Y sh M' pc' ls st' Q) : G b d k n Y sh M pc ls st Q := by
  intro p l e s m args below meth c H locs cells slots E ad0 n0 ad A larr mc ms hC hAg hn hW hS hl hk hs
  exact h hC hW hS hl.1 rfl rfl (fun H1 locs1 hW1 hS1 => g p l e s m args below meth c H1 locs1 cells slots E ad0 n0 ad A larr mc ms hC hAg hn hW1 hS1 hl hk hs)
/-- a step that reads the memory -/
theorem G_read {pc' : Nat} {st' : List Value}
    (h : ∀ {p : Program} {l : Launch} {e : Env} {R : Room} {s : State} {m : MethodId} {args : Array Value} {below : List Frame} {meth : Method} {c : Code} {H : Heap} {locs : List Loc} {cells slots : Nat} {Q' : State → Prop} {larr : Array Slot} {E : EV} {ad : Nat → Nat} {A : Nat → Prop},
      Cx Y E ad A p s m args meth c → Wd E ad sh M A H → va_S A s.heap H locs → W p l e R s m args below meth c H locs cells slots Q' (F0 m pc' larr (st'.map (cV ad))) → W p l e R s m args below meth c H locs cells slots Q' (F0 m pc larr (st.map (cV ad))))
    (g : G b d k n Y sh M pc' ls st' Q) : G b d k n Y sh M pc ls st Q := by
  intro p l e s m args below meth c H locs cells slots E ad0 n0 ad A larr mc ms hC hAg hn hW hS hl hk hs
  exact h hC hW hS (g p l e s m args below meth c H locs cells slots E ad0 n0 ad A larr mc ms hC hAg hn hW hS hl hk hs)
/-- two ways on -/
theorem G_two {pc1 pc2 : Nat} {st' : List Value} {P : Prop}
    (h : ∀ {p : Program} {l : Launch} {e : Env} {R : Room} {s : State} {m : MethodId} {args : Array Value} {below : List Frame} {meth : Method} {c : Code} {H : Heap} {locs : List Loc} {cells slots : Nat} {Q' : State → Prop} {larr : Array Slot} {E : EV} {ad : Nat → Nat} {A : Nat → Prop},
      Cx Y E ad A p s m args meth c → (P → W p l e R s m args below meth c H locs cells slots Q' (F0 m pc1 larr (st'.map (cV ad)))) → (¬ P → W p l e R s m args below meth c H locs cells slots Q' (F0 m pc2 larr (st'.map (cV ad)))) → W p l e R s m args below meth c H locs cells slots Q' (F0 m pc larr (st.map (cV ad))))
    (g1 : P → G b d k n Y sh M pc1 ls st' Q) (g2 : ¬ P → G b d k n Y sh M pc2 ls st' Q) : G b d k n Y sh M pc ls st Q := by
  intro p l e s m args below meth c H locs cells slots E ad0 n0 ad A larr mc ms hC hAg hn hW hS hl hk hs
  exact h hC (fun q => g1 q p l e s m args below meth c H locs cells slots E ad0 n0 ad A larr mc ms hC hAg hn hW hS hl hk hs) (fun q => g2 q p l e s m args below meth c H locs cells slots E ad0 n0 ad A larr mc ms hC hAg hn hW hS hl hk hs)
/-- the end -/
theorem G_end {v : Option Value} (hq : Q v sh M)
    (h : ∀ {p : Program} {l : Launch} {e : Env} {R : Room} {s : State} {m : MethodId} {args : Array Value} {below : List Frame} {meth : Method} {c : Code} {H : Heap} {locs : List Loc} {cells slots : Nat} {Qc : Array Value → State → Outcome → State → Prop} {free : Addr → Prop} {larr : Array Slot} {ad : Nat → Nat} {E : EV} {A : Nat → Prop},
      Cx Y E ad A p s m args meth c → (∀ t : State, t.heap = H → s.WarmedH t.vm → Qc args s (.returned (v.map (cV ad))) t) → (∀ q ∈ locs, free q.base) → W p l e R s m args below meth c H locs cells slots (MQ below Qc args s cells slots free) (F0 m pc larr (st.map (cV ad)))) : G b d k n Y sh M pc ls st Q := by
  intro p l e s m args below meth c H locs cells slots E ad0 n0 ad A larr mc ms hC hAg hn hW hS hl hk hs
  refine W.widen (k := mc) (n := ms) (by omega) (by omega) ?_
  refine h hC (fun t ht hw => ?_) hS.2.2
  exact ⟨⟨v, sh, M, ad, rfl, hq, hAg, hn, by rw [ht]; exact hW, va_K.moved hw.alike hC.2.2.2.2.2.2.2.2.1⟩, hS.F ht⟩
theorem G_iret (hd : decode Y.2.1 pc = .ok (.ireturn, 1)) (hr : Y.2.2.2 = some .int) {x : Int32} (hq : Q (some (.int x)) sh M) : G b d k n Y sh M pc ls [.int x] Q :=
  G_end (v := some (.int x)) hq (fun hC q f => W.iret hC.1 hC.2.1 (hC.2.2.2.2.2.1.trans hr) q f hd hC.2.2.2.2.2.2.1)
theorem G_zret (hd : decode Y.2.1 pc = .ok (.ireturn, 1)) {ty : FieldType} (hr : Y.2.2.2 = some ty) {x : Int32} (hn : narrow ty (.int x) = .int x) (hq : Q (some (.int x)) sh M) : G b d k n Y sh M pc ls [.int x] Q :=
  G_end (v := some (.int x)) hq (fun hC q f => W.zret hC.1 hC.2.1 (hC.2.2.2.2.2.1.trans hr) hn q f hd hC.2.2.2.2.2.2.1)
theorem G_lret (hd : decode Y.2.1 pc = .ok (.lreturn, 1)) (hr : Y.2.2.2 = some .long) {x : Int64} (hq : Q (some (.long x)) sh M) : G b d k n Y sh M pc ls [.long x] Q :=
  G_end (v := some (.long x)) hq (fun hC q f => W.lret hC.1 hC.2.1 (hC.2.2.2.2.2.1.trans hr) q f hd hC.2.2.2.2.2.2.1)
theorem G_vret (hd : decode Y.2.1 pc = .ok (.return_, 1)) (hr : Y.2.2.2 = none) (hq : Q none sh M) : G b d k n Y sh M pc ls [] Q :=
  G_end (v := none) hq (fun hC q f => W.vret hC.1 hC.2.1 (hC.2.2.2.2.2.1.trans hr) q f hd hC.2.2.2.2.2.2.1)
theorem G_aret (hd : decode Y.2.1 pc = .ok (.areturn, 1)) {rt : FieldType} (hr : Y.2.2.2 = some rt) (hrt : (∃ n, rt = .object n) ∨ ∃ t, rt = .array t) {r : Option Nat} (hq : Q (some (va_rf r)) sh M) : G b d k n Y sh M pc ls [va_rf r] Q :=
  G_end (v := some (va_rf r)) hq (fun {p l e R s m args below meth c H locs cells slots Qc free larr ad E A} hC q f => W.aret hC.1 hC.2.1 (hC.2.2.2.2.2.1.trans hr) hrt (by cases r with
    | none => exact Or.inl rfl
    | some a => exact Or.inr ⟨ad a, rfl⟩) q f hd hC.2.2.2.2.2.2.1)
end GG
end
section
/-! CALLS -/
def okv (n : Nat) (v : Value) : Prop := ∀ k, v = .ref k → k < n ∨ 1000 ≤ k
theorem okv_int {n : Nat} {x : Int32} : okv n (.int x) := fun _ h => by cases h
theorem okv_long {n : Nat} {x : Int64} : okv n (.long x) := fun _ h => by cases h
theorem okv_null {n : Nat} : okv n .null := fun _ h => by cases h
theorem okv_ref {n k : Nat} (h : k < n ∨ 1000 ≤ k) : okv n (.ref k) := fun _ e => by cases e; exact h
theorem cV_okv {n : Nat} {a a' : Nat → Nat} {b : Bool} (h : Ag b n a a') {v : Value} (hv : okv n v) : cV a' v = cV a v := by
  cases v with
  | ref k => show Value.ref (a' k) = Value.ref (a k); rw [h.2 k (hv k rfl)]
  | _ => rfl
theorem map_okv {n : Nat} {a a' : Nat → Nat} {b : Bool} (h : Ag b n a a') {l : List Value} (hv : b = false ∨ ∀ v ∈ l, okv n v) : l.map (cV a') = l.map (cV a) := by
  rcases hv with hv | hv
  · rw [h.1 hv]
  · exact List.map_congr_left fun v q => cV_okv h (hv v q)
theorem mapL_okv {n : Nat} {a a' : Nat → Nat} {b : Bool} (h : Ag b n a a') {l : List (Nat × Value)} (hv : b = false ∨ ∀ q ∈ l, okv n q.2) : l.map (cL a') = l.map (cL a) := by
  rcases hv with hv | hv
  · rw [h.1 hv]
  · exact List.map_congr_left fun v q => by show (v.1, cV a' v.2) = (v.1, cV a v.2); rw [cV_okv h (hv v q)]
theorem Wd_free {E : EV} {ad : Nat → Nat} {sh : Sh} {M : MM} {A : Nat → Prop} {H0 H : Heap} {locs : List Loc} (hW : Wd E ad sh M A H) (hA : ∀ q, H0.size ≤ q → A q) (hS : va_S A H0 H locs) : ∀ q, va_A (cW E.2 ad sh M) H.size q → A q := by
  intro q h
  rcases h with ⟨k, e, h⟩ | h
  · exact hW.2.2 k (q, e) h
  · exact hA q (Nat.le_trans hS.1 h)
section CQ
variable {p : Program} {l : Launch} {e : Env} {R : Room} {s : State} {m : MethodId} {args : Array Value} {below : List Frame} {meth : Method} {c : Code} {H : Heap} {locs : List Loc} {cells slots : Nat} {Q' : State → Prop}
variable {pc : Nat} {ls : Array Slot} {rest st0 : List Value} {a : Array Value} {A0 A1 : Nat → Prop} {H0 : Heap} {mc ms : Nat} {free : Addr → Prop} {b : Bool} {E : EV} {ad0 : Nat → Nat} {n0 : Nat} {Q : PO}
theorem va_callQ (hr : va_Run p l e R s m args below meth c H locs cells slots mc ms (F0 m pc ls st0) rest (QQ b E ad0 n0 A1 Q a) free) (hS : va_S A0 H0 H locs) (hA : ∀ q, q < H.size → A1 q → A0 q) (hf : ∀ q, free q → A0 q)
    (kk : ∀ (v : Option Value) (sh' : Sh) (M' : MM) (ad' : Nat → Nat) (H1 : Heap) (locs1 : List Loc), Q v sh' M' → Ag b n0 ad0 ad' → n0 ≤ sh'.length → Wd E ad' sh' M' A1 H1 → va_S A0 H0 H1 locs1 → W p l e R s m args below meth c H1 locs1 (cells + mc) (slots + ms) Q' (F0 m (pc + 3) ls ((v.map (cV ad')).toList ++ rest))) : W p l e R s m args below meth c H locs cells slots Q' (F0 m pc ls st0) := by
  intro T hT X
  obtain ⟨v, st₀, t, T', L, h0, X', hL, e1, e2, ⟨⟨w, sh', M', ad', hv, hq, hag, hn, hw, -⟩, hz, hk⟩, st⟩ := hr T hT X
  cases hv
  rw [h0] at hz hk
  obtain ⟨t2, a1, b1⟩ := kk w sh' M' ad' T'.heap (locs ++ L) hq hag hn (by rw [e1]; exact hw)
    ⟨Nat.le_trans hS.1 (by rw [e1]; exact hz), fun q h1 h2 => by rw [e1, hk q (Nat.lt_of_lt_of_le h1 hS.1) (fun z => h2 (hA q (Nat.lt_of_lt_of_le h1 hS.1) z))]; exact hS.2.1 q h1 h2, fun q hq => by
      rcases List.mem_append.mp hq with h | h
      · exact hS.2.2 q h
      · exact hf _ (hL q h)⟩ T' rfl X'
  exact ⟨t2, st t2 a1, b1⟩
end CQ
section GC
variable {b : Bool} {d k n : Nat} {Y : YD} {sh : Sh} {M : MM} {pc : Nat} {ls : List (Nat × Value)} {st : List Value} {Q : PO}
theorem G_call {b2 : Bool} {k2 n2 : Nat} {av rest : List Value} {Q2 : PO}
    (hrun : ∀ {p : Program} {l : Launch} {e : Env} {R : Room} {s : State} {m : MethodId} {args : Array Value} {below : List Frame} {meth : Method} {c : Code} {H : Heap} {locs : List Loc} {cells slots : Nat} {larr : Array Slot} {E : EV} {ad : Nat → Nat} {A : Nat → Prop},
      Cx Y E ad A p s m args meth c → Wd E ad sh M A H → va_S A s.heap H locs → larr.size = Y.2.2.1 → R.frames = d → R.locals = 64 * d → cells + k2 ≤ R.cells ∧ slots + n2 ≤ R.slots →
      va_Run p l e R s m args below meth c H locs cells slots k2 n2 (F0 m pc larr (st.map (cV ad))) (rest.map (cV ad)) (QQ b2 E ad sh.length (va_A (cW E.2 ad sh M) H.size) Q2 (av.map (cV ad)).toArray) (va_A (cW E.2 ad sh M) H.size))
    (hb : b2 = false ∨ (b = true ∧ (∀ q ∈ ls, okv sh.length q.2) ∧ ∀ v ∈ rest, okv sh.length v)) (hk : k2 ≤ k) (hn : n2 ≤ n)
    (g : ∀ (v : Option Value) (sh' : Sh) (M' : MM), Q2 v sh' M' → sh.length ≤ sh'.length → G b d (k - k2) (n - n2) Y sh' M' (pc + 3) ls (v.toList ++ rest) Q) : G b d k n Y sh M pc ls st Q := by
  intro p l e s m args below meth c H locs cells slots E ad0 n0 ad A larr mc ms hC hAg hn0 hW hS hl hk' hs'
  have hF := Wd_free hW hC.2.2.2.2.2.2.2.2.2.2 hS
  refine va_callQ (hrun hC hW hS hl.1 rfl rfl ⟨by show cells + k2 ≤ mc; omega, by show slots + n2 ≤ ms; omega⟩) hS (fun q _ h => hF q h) hF ?_
  intro v sh' M' ad' H1 locs1 hq hag hn1 hW1 hS1
  have hag2 : Ag b n0 ad0 ad' := by
    refine ⟨fun hbf => ?_, fun j hj => ?_⟩
    · rcases hb with h | h
      · rw [hag.1 h, hAg.1 hbf]
      · rw [h.1] at hbf; cases hbf
    · rw [hag.2 j (by omega), hAg.2 j hj]
  have e1 : (v.map (cV ad')).toList ++ rest.map (cV ad) = (v.toList ++ rest).map (cV ad') := by
    rw [List.map_append, map_okv hag (l := rest) (hb.imp id fun h => h.2.2)]
    cases v <;> rfl
  rw [e1]
  refine g v sh' M' hq hn1 p l e s m args below meth c H1 locs1 _ _ E ad0 n0 ad' A larr mc ms ?_ hag2 (by omega) ⟨hW1.1, hW1.2.weaken (fun _ _ _ h => hF _ h)⟩ hS1 ?_ (by omega) (by omega)
  · obtain ⟨c1, c2, c3, c4, c5, c6, c7, c8, c9, c10, c11⟩ := hC
    exact ⟨c1, c2, c3, c4, c5, c6, c7, c8, c9, St_ad c10 hag.hi, c11⟩
  · rw [mapL_okv hag (hb.imp id fun h => h.2.1)]
    exact hl
/-- the callee's start holds at the call -/
theorem pc_blind {E : EV} {ad : Nat → Nat} {sz : Nat} {av : List Value} : FrameBlind (va_Pc (av.map (cV ad)) (fun U => U.heap.size = sz ∧ Wd E ad sh M (fun _ => True) U.heap ∧ Wk E U ∧ St ad (va_A (cW E.2 ad sh M) sz) U U.heap)) := by
  intro a U g mk q
  obtain ⟨e, h1, h2, h3, h4⟩ := q
  exact ⟨e, h1, h2, va_K.moved (u := U) (U := U.calling g mk a) (Vm.Alike.refl U.vm) h3, St_same (U := U.calling g mk a) h4 rfl⟩
theorem pc_here {p : Program} {s : State} {m : MethodId} {args : Array Value} {meth : Method} {c : Code} {H : Heap} {locs : List Loc} {E : EV} {ad : Nat → Nat} {A : Nat → Prop} {av : List Value} (hC : Cx Y E ad A p s m args meth c) (hW : Wd E ad sh M A H) (hS : va_S A s.heap H locs) :
    ∀ U : State, U.heap = H → s.WarmedH U.vm → va_Pc (av.map (cV ad)) (fun U => U.heap.size = H.size ∧ Wd E ad sh M (fun _ => True) U.heap ∧ Wk E U ∧ St ad (va_A (cW E.2 ad sh M) H.size) U U.heap) (av.map (cV ad)).toArray U := by
  intro U hU hw
  obtain ⟨c1, c2, c3, c4, c5, c6, c7, c8, c9, c10, c11⟩ := hC
  refine ⟨rfl, by rw [hU], by rw [hU]; exact ⟨hW.1, hW.2.weaken (fun _ _ _ _ => trivial)⟩, va_K.moved hw.alike c9, ?_⟩
  rw [hU]
  exact St_warm c10 hw hS.2.1 (Wd_free hW c11 hS)
theorem good_cons {w : Cond} {ws : List Cond} (h : w ∈ tW) (g : GoodIn tW ws) : GoodIn tW (w :: ws) := fun x hx => by
  rcases List.mem_cons.mp hx with rfl | hx
  · exact tW_good _ h
  · exact g _ hx
theorem cE_obj {ct : Nat → ClassId} {ad : Nat → Nat} {k ci nn : Nat} : cE ct ad M k (10 + ci, nn) = .inr (ci, cF ad M k ci) := by
  unfold cE
  rw [if_neg (by omega)]
  simp
theorem G_callV {b2 : Bool} {d2 k2 n2 idx rk ci nn np : Nat} {q : vw_C} {Y2 : YD} {av rest : List Value} {Q2 : PO}
    (hd : decode Y.2.1 pc = .ok (.invokevirtual idx, 3)) (hK : K b2 d2 k2 n2 Y2 sh M (.ref rk :: av) Q2)
    (hs : sh[rk]? = some (10 + ci, nn)) (hc : cls8[ci]? = some q) (hq : Y2.1.cls = q.1)
    (hlink : Cond.methodLink Y.1.cls idx Y2.1 ∈ tW) (hinst : Cond.instanceMethod Y2.1 ∈ tW) (hsel : Cond.selects q.1 Y2.1 Y2.1 ∈ tW) (hini : Cond.initialized q.1 ∈ tW) (hcode : Cond.code Y2.1 Y2.2.1 Y2.2.2.1 Y2.2.2.2 ∈ tW)
    (hx : Y2.1.cls ≠ "java/lang/invoke/MethodHandle" ∧ Y2.1.cls ≠ "java/lang/invoke/VarHandle" ∧ (parseMethodDescriptor Y2.1.desc).map (fun d => d.parameters.length) = some np) (hav : av.length = np)
    (hst : st = av.reverse ++ .ref rk :: rest) (hcat : (rest.map fun v => v.category).sum ≤ 8) (hd2 : d2 + 1 ≤ d) (hml : Y2.2.2.1 ≤ 45)
    (hb : b2 = false ∨ (b = true ∧ (∀ q ∈ ls, okv sh.length q.2) ∧ ∀ v ∈ rest, okv sh.length v)) (hk : k2 ≤ k) (hn : n2 ≤ n)
    (g : ∀ (v : Option Value) (sh' : Sh) (M' : MM), Q2 v sh' M' → sh.length ≤ sh'.length → G b d (k - k2) (n - n2) Y sh' M' (pc + 3) ls (v.toList ++ rest) Q) : G b d k n Y sh M pc ls st Q := by
  refine G_call (av := .ref rk :: av) (rest := rest) ?_ hb hk hn g
  intro p l e R s m args below meth c H locs cells slots larr E ad A hC hW hS hsz hRf hRl hroom
  have hT := hC.2.2.2.2.1
  have hcw : CallW R s args Y.1.cls q.1 idx Y2.1 Y2.2.1 Y2.2.2.1 Y2.2.2.2 (.code Y2.1 Y2.2.1 Y2.2.2.1 Y2.2.2.2 :: tW) (rmK d2 k2 n2) k2 n2 np :=
    cwV np hT (good_cons hlink (good_cons hinst (good_cons hsel (good_cons hini (good_cons hcode tW_good))))) rfl rfl rfl ⟨hq, hx⟩ ⟨by rw [hRf]; exact hd2, by rw [hRl]; show 8 + (Y2.2.2.1 + 11) + 64 * d2 ≤ 64 * d; omega⟩
  have he : (cW E.2 ad sh M)[rk]? = some (ad rk, .inr (ci, cF ad M rk ci)) := by rw [cW_get hs, cE_obj]
  exact va_runV (As := av.map (cV ad)) (b := ad rk) ⟨hC.1, hC.2.1, hC.2.2.1, hC.2.2.2.1, hT⟩ (hK l E ad H.size) hcw ⟨pc_blind, va_recv hC.2.2.2.2.2.2.2.2.1 hW.1 hc he, pc_here (av := .ref rk :: av) hC hW hS⟩ rfl (by rw [List.length_map]; exact hav) hsz
    (by show st.map (cV ad) = _; rw [hst, List.map_append, List.map_reverse]; rfl) (by show 2 * 0 + _ ≤ 8; rw [List.map_map]; simpa [Function.comp_def, cV_cat] using hcat) hd hroom
theorem G_callS {b2 : Bool} {d2 k2 n2 idx np : Nat} {Y2 : YD} {av rest : List Value} {Q2 : PO}
    (hd : decode Y.2.1 pc = .ok (.invokestatic idx, 3)) (hK : K b2 d2 k2 n2 Y2 sh M av Q2)
    (hlink : Cond.methodLink Y.1.cls idx Y2.1 ∈ tW) (hstat : Cond.static Y2.1 ∈ tW) (hini : Cond.initialized Y2.1.cls ∈ tW) (hcode : Cond.code Y2.1 Y2.2.1 Y2.2.2.1 Y2.2.2.2 ∈ tW)
    (hx : Y2.1.cls ≠ "java/lang/invoke/MethodHandle" ∧ Y2.1.cls ≠ "java/lang/invoke/VarHandle" ∧ (parseMethodDescriptor Y2.1.desc).map (fun d => d.parameters.length) = some np) (hav : av.length = np)
    (hst : st = av.reverse ++ rest) (hcat : (rest.map fun v => v.category).sum ≤ 8) (hd2 : d2 + 1 ≤ d) (hml : Y2.2.2.1 ≤ 45)
    (hb : b2 = false ∨ (b = true ∧ (∀ q ∈ ls, okv sh.length q.2) ∧ ∀ v ∈ rest, okv sh.length v)) (hk : k2 ≤ k) (hn : n2 ≤ n)
    (g : ∀ (v : Option Value) (sh' : Sh) (M' : MM), Q2 v sh' M' → sh.length ≤ sh'.length → G b d (k - k2) (n - n2) Y sh' M' (pc + 3) ls (v.toList ++ rest) Q) : G b d k n Y sh M pc ls st Q := by
  refine G_call (av := av) (rest := rest) ?_ hb hk hn g
  intro p l e R s m args below meth c H locs cells slots larr E ad A hC hW hS hsz hRf hRl hroom
  have hT := hC.2.2.2.2.1
  have hcw := va_cwS (R := R) (args := args) (own := Y.1.cls) (index := idx) (y := Y2.1) (bytes := Y2.2.1) (maxL := Y2.2.2.1) (ret := Y2.2.2.2) (rm := rmK d2 k2 n2) (mc := k2) (ms := n2) (ws := .code Y2.1 Y2.2.1 Y2.2.2.1 Y2.2.2.2 :: tW) np hT (good_cons hlink (good_cons hstat (good_cons hini (good_cons hcode tW_good)))) rfl rfl rfl hx ⟨by rw [hRf]; exact hd2, by rw [hRl]; show 8 + (Y2.2.2.1 + 11) + 64 * d2 ≤ 64 * d; omega⟩
  exact va_runS (As := av.map (cV ad)) ⟨hC.1, hC.2.1, hC.2.2.1, hC.2.2.2.1, hT⟩ (hK l E ad H.size) hcw ⟨pc_blind, pc_here (av := av) hC hW hS⟩ rfl (by rw [List.length_map]; exact hav) hsz
    (by show st.map (cV ad) = _; rw [hst, List.map_append, List.map_reverse]) (by show 2 * 0 + _ ≤ 8; rw [List.map_map]; simpa [Function.comp_def, cV_cat] using hcat) hd hroom
theorem G_callI {b2 : Bool} {d2 k2 n2 idx rk np : Nat} {Y2 : YD} {av rest : List Value} {Q2 : PO}
    (hd : decode Y.2.1 pc = .ok (.invokespecial idx, 3)) (hK : K b2 d2 k2 n2 Y2 sh M (.ref rk :: av) Q2) (hr : Y2.2.2.2 = none) (hnm : Y2.1.name = "<init>")
    (hlink : Cond.methodLink Y.1.cls idx Y2.1 ∈ tW) (hinst : Cond.instanceMethod Y2.1 ∈ tW) (hini : Cond.initialized Y2.1.cls ∈ tW) (hcode : Cond.code Y2.1 Y2.2.1 Y2.2.2.1 none ∈ tW)
    (hx : Y2.1.cls ≠ "java/lang/invoke/MethodHandle" ∧ Y2.1.cls ≠ "java/lang/invoke/VarHandle" ∧ (parseMethodDescriptor Y2.1.desc).map (fun d => d.parameters.length) = some np) (hav : av.length = np)
    (hst : st = av.reverse ++ .ref rk :: rest) (hcat : (rest.map fun v => v.category).sum ≤ 8) (hd2 : d2 + 1 ≤ d) (hml : Y2.2.2.1 ≤ 45)
    (hb : b2 = false ∨ (b = true ∧ (∀ q ∈ ls, okv sh.length q.2) ∧ ∀ v ∈ rest, okv sh.length v)) (hk : k2 ≤ k) (hn : n2 ≤ n)
    (g : ∀ (v : Option Value) (sh' : Sh) (M' : MM), Q2 v sh' M' → sh.length ≤ sh'.length → G b d (k - k2) (n - n2) Y sh' M' (pc + 3) ls (v.toList ++ rest) Q) : G b d k n Y sh M pc ls st Q := by
  refine G_call (av := .ref rk :: av) (rest := rest) ?_ hb hk hn g
  intro p l e R s m args below meth c H locs cells slots larr E ad A hC hW hS hsz hRf hRl hroom
  have hT := hC.2.2.2.2.1
  have hM := hK l E ad H.size
  rw [hr] at hM
  have hcw := cwI (R := R) (args := args) (own := Y.1.cls) (index := idx) (y := Y2.1) (bytes := Y2.2.1) (maxL := Y2.2.2.1) (rm := rmK d2 k2 n2) (mc := k2) (ms := n2) (ws := .code Y2.1 Y2.2.1 Y2.2.2.1 none :: tW) np hT (good_cons hcode tW_good) rfl rfl rfl (hT _ hini) (hT _ hlink) (hT _ hinst) hnm hx ⟨by rw [hRf]; exact hd2, by rw [hRl]; show 8 + (Y2.2.2.1 + 11) + 64 * d2 ≤ 64 * d; omega⟩
  exact va_runI (As := av.map (cV ad)) (b := ad rk) ⟨hC.1, hC.2.1, hC.2.2.1, hC.2.2.2.1, hT⟩ hM hcw ⟨pc_blind, pc_here (av := .ref rk :: av) hC hW hS⟩ rfl (by rw [List.length_map]; exact hav) hsz
    (by show st.map (cV ad) = _; rw [hst, List.map_append, List.map_reverse]; rfl) (by show 2 * 0 + _ ≤ 8; rw [List.map_map]; simpa [Function.comp_def, cV_cat] using hcat) hd hroom
end GC
end
section
/-! THE RULES: S em .. f: from this frame the method answers what f says (em says how) -/
abbrev MI : Type := (Nat → Nat → Int32) × (Nat → Nat → Int64)
abbrev RR : Type := Nat → Nat → Option Nat
abbrev mk (m : MI) (R : RR) : MM := (m.1, m.2, R)
def mI (m : MI) (k : Nat) (g : Nat → Int32) : MI := (ur m.1 k g, m.2)
def mJ (m : MI) (k : Nat) (g : Nat → Int64) : MI := (m.1, ur m.2 k g)
abbrev EM (ρ : Type) : Type := ρ → Option Value × Sh × MM
def eI (sh : Sh) (R : RR) : EM (Int32 × MI) := fun r => (some (.int r.1), sh, mk r.2 R)
def eL (sh : Sh) (R : RR) : EM (Int64 × MI) := fun r => (some (.long r.1), sh, mk r.2 R)
def eV (sh : Sh) (R : RR) : EM MI := fun r => (none, sh, mk r R)
def eQ (sh : Sh) (R : RR) : EM (Option Nat × MI) := fun r => (some (va_rf r.1), sh, mk r.2 R)
def S {ρ : Type} (em : EM ρ) (b : Bool) (d k n : Nat) (Y : YD) (sh : Sh) (R : RR) (m : MI) (pc : Nat) (ls : List (Nat × Value)) (st : List Value) (f : Option ρ) : Prop :=
  ∀ r, f = some r → G b d k n Y sh (mk m R) pc ls st (fun v sh' M' => (v, sh', M') = em r)
def KS {ρ : Type} (em : EM ρ) (b : Bool) (d k n : Nat) (Y : YD) (sh : Sh) (R : RR) (m : MI) (av : List Value) (f : Option ρ) : Prop :=
  ∀ r, f = some r → K b d k n Y sh (mk m R) av (fun v sh' M' => (v, sh', M') = em r)
def stl (ls : List (Nat × Value)) (j : Nat) (v : Value) : List (Nat × Value) := (j, v) :: ls.filter (fun q => !(q.1 == j) && !(q.1 + 1 == j && q.2.category == 2))
def stl2 (ls : List (Nat × Value)) (j : Nat) (v : Value) : List (Nat × Value) := (j, v) :: ls.filter (fun q => !(q.1 == j) && (!(q.1 == j + 1) && !(q.1 + 1 == j && q.2.category == 2)))
theorem stl_map {ad : Nat → Nat} {ls : List (Nat × Value)} {j : Nat} {v : Value} : (j, cV ad v) :: (ls.map (cL ad)).filter (fun q => !(q.1 == j) && !(q.1 + 1 == j && q.2.category == 2)) = (stl ls j v).map (cL ad) := by
  simp only [stl, List.map_cons, List.filter_map, Function.comp_def, cV_cat]
theorem stl2_map {ad : Nat → Nat} {ls : List (Nat × Value)} {j : Nat} {v : Value} : (j, cV ad v) :: (ls.map (cL ad)).filter (fun q => !(q.1 == j) && (!(q.1 == j + 1) && !(q.1 + 1 == j && q.2.category == 2))) = (stl2 ls j v).map (cL ad) := by
  simp only [stl2, List.map_cons, List.filter_map, Function.comp_def, cV_cat]
theorem lkl {ad : Nat → Nat} {larr : Array Slot} {nL : Nat} {ls : List (Nat × Value)} (hl : lv_has larr nL (ls.map (cL ad))) {i j : Nat} {v : Value} (h : ls[i]? = some (j, v)) : larr[j]? = some (.val (cV ad v)) := lv_at hl i (by rw [List.getElem?_map, h]; rfl)
section SS
variable {ρ : Type} {em : EM ρ} {b : Bool} {d k n : Nat} {Y : YD} {sh : Sh} {R : RR} {m : MI} {pc : Nat} {ls : List (Nat × Value)} {st : List Value} {f : Option ρ}
theorem S_none : S em b d k n Y sh R m pc ls st none := fun _ h => by cases h
theorem S_pure {pc' : Nat} {ls' : List (Nat × Value)} {st' : List Value}
    (h : ∀ {p : Program} {l : Launch} {e : Env} {R : Room} {s : State} {m : MethodId} {args : Array Value} {below : List Frame} {meth : Method} {c : Code} {H : Heap} {locs : List Loc} {cells slots : Nat} {Q' : State → Prop} {larr : Array Slot} {E : EV} {ad : Nat → Nat} {A : Nat → Prop},
      Cx Y E ad A p s m args meth c → lv_has larr Y.2.2.1 (ls.map (cL ad)) → (∀ larr' : Array Slot, lv_has larr' Y.2.2.1 (ls'.map (cL ad)) → W p l e R s m args below meth c H locs cells slots Q' (F0 m pc' larr' (st'.map (cV ad)))) → W p l e R s m args below meth c H locs cells slots Q' (F0 m pc larr (st.map (cV ad))))
    (g : S em b d k n Y sh R m pc' ls' st' f) : S em b d k n Y sh R m pc ls st f := fun r hr => G_pure h (g r hr)
theorem S_ck {c : Prop} [Decidable c] (g : c → S em b d k n Y sh R m pc ls st f) : S em b d k n Y sh R m pc ls st (if c then f else none) := by
  by_cases h : c
  · rw [if_pos h]; exact g h
  · rw [if_neg h]; exact S_none
theorem S_ckI {c : Prop} {i : Decidable c} (g : c → S em b d k n Y sh R m pc ls st f) : S em b d k n Y sh R m pc ls st (@ite _ c i f none) := by
  by_cases h : c
  · rw [if_pos h]; exact g h
  · rw [if_neg h]; exact S_none

theorem o_iconst {v : Int} {x : Int32} (hd : decode Y.2.1 pc = .ok (.iconst v, 1)) (hx : Int32.ofInt v = x) (g : S em b d k n Y sh R m (pc + 1) ls (.int x :: st) f) : S em b d k n Y sh R m pc ls (st) f :=
  S_pure (fun hC hl kk => lv_iconst hC.1 hC.2.1 hd hx (kk _ hl)) g
theorem o_bipush {v : Int} {x : Int32} (hd : decode Y.2.1 pc = .ok (.bipush v, 2)) (hx : (Int8.ofInt v).toInt32 = x) (g : S em b d k n Y sh R m (pc + 2) ls (.int x :: st) f) : S em b d k n Y sh R m pc ls (st) f :=
  S_pure (fun hC hl kk => lv_bipush hC.1 hC.2.1 hd hx (kk _ hl)) g
theorem o_sipush {v : Int} {x : Int32} (hd : decode Y.2.1 pc = .ok (.sipush v, 3)) (hx : (Int16.ofInt v).toInt32 = x) (g : S em b d k n Y sh R m (pc + 3) ls (.int x :: st) f) : S em b d k n Y sh R m pc ls (st) f :=
  S_pure (fun hC hl kk => lv_sipush hC.1 hC.2.1 hd hx (kk _ hl)) g
theorem o_lconst {v : Fin 2} {x : Int64} (hd : decode Y.2.1 pc = .ok (.lconst v, 1)) (hx : Int64.ofNat (v : Nat) = x) (g : S em b d k n Y sh R m (pc + 1) ls (.long x :: st) f) : S em b d k n Y sh R m pc ls (st) f :=
  S_pure (fun hC hl kk => lv_lconst hC.1 hC.2.1 hd hx (kk _ hl)) g
theorem o_null  (hd : decode Y.2.1 pc = .ok (.aconst_null, 1)) (g : S em b d k n Y sh R m (pc + 1) ls (.null :: st) f) : S em b d k n Y sh R m pc ls (st) f :=
  S_pure (fun hC hl kk => lv_null hC.1 hC.2.1 hd (kk _ hl)) g
theorem o_ldc {ix : Nat} {x : Int32} (hd : decode Y.2.1 pc = .ok (.ldc ix, 2)) (hw : Cond.constant Y.1.cls ix x ∈ tW) (g : S em b d k n Y sh R m (pc + 2) ls (.int x :: st) f) : S em b d k n Y sh R m pc ls (st) f :=
  S_pure (fun hC hl kk => lv_ldc hC.1 hC.2.1 hC.2.2.2.1 (hC.2.2.2.2.1 _ hw) hd (kk _ hl)) g
theorem o_ldcw {ix : Nat} {x : Int32} (hd : decode Y.2.1 pc = .ok (.ldc_w ix, 3)) (hw : Cond.constant Y.1.cls ix x ∈ tW) (g : S em b d k n Y sh R m (pc + 3) ls (.int x :: st) f) : S em b d k n Y sh R m pc ls (st) f :=
  S_pure (fun hC hl kk => lv_ldcw hC.1 hC.2.1 hC.2.2.2.1 (hC.2.2.2.2.1 _ hw) hd (kk _ hl)) g
theorem o_ldc2 {ix : Nat} {x : Int64} (hd : decode Y.2.1 pc = .ok (.ldc2_w ix, 3)) (hw : Cond.constantLong Y.1.cls ix x ∈ tW) (g : S em b d k n Y sh R m (pc + 3) ls (.long x :: st) f) : S em b d k n Y sh R m pc ls (st) f :=
  S_pure (fun hC hl kk => lv_ldc2 hC.1 hC.2.1 hC.2.2.2.1 (hC.2.2.2.2.1 _ hw) hd (kk _ hl)) g
theorem o_iload_n {q : Fin 4} {x : Int32} {j : Nat} (i : Nat) (hd : decode Y.2.1 pc = .ok (.iload_n q, 1)) (hq : (q : Nat) = j) (hi : ls[i]? = some (j, .int x)) (g : S em b d k n Y sh R m (pc + 1) ls (.int x :: st) f) : S em b d k n Y sh R m pc ls (st) f :=
  S_pure (fun hC hl kk => lv_iload_n hC.1 hC.2.1 hd hq (lkl hl hi) (kk _ hl)) g
theorem o_iload {x : Int32} {j : Nat} (i : Nat) (hd : decode Y.2.1 pc = .ok (.iload j, 2)) (hi : ls[i]? = some (j, .int x)) (g : S em b d k n Y sh R m (pc + 2) ls (.int x :: st) f) : S em b d k n Y sh R m pc ls (st) f :=
  S_pure (fun hC hl kk => lv_iload hC.1 hC.2.1 hd (lkl hl hi) (kk _ hl)) g
theorem o_lload_n {q : Fin 4} {x : Int64} {j : Nat} (i : Nat) (hd : decode Y.2.1 pc = .ok (.lload_n q, 1)) (hq : (q : Nat) = j) (hi : ls[i]? = some (j, .long x)) (g : S em b d k n Y sh R m (pc + 1) ls (.long x :: st) f) : S em b d k n Y sh R m pc ls (st) f :=
  S_pure (fun hC hl kk => lv_lload_n hC.1 hC.2.1 hd hq (lkl hl hi) (kk _ hl)) g
theorem o_lload {x : Int64} {j : Nat} (i : Nat) (hd : decode Y.2.1 pc = .ok (.lload j, 2)) (hi : ls[i]? = some (j, .long x)) (g : S em b d k n Y sh R m (pc + 2) ls (.long x :: st) f) : S em b d k n Y sh R m pc ls (st) f :=
  S_pure (fun hC hl kk => lv_lload hC.1 hC.2.1 hd (lkl hl hi) (kk _ hl)) g
theorem o_aload_n {q : Fin 4} {x j : Nat} (i : Nat) (hd : decode Y.2.1 pc = .ok (.aload_n q, 1)) (hq : (q : Nat) = j) (hi : ls[i]? = some (j, .ref x)) (g : S em b d k n Y sh R m (pc + 1) ls (.ref x :: st) f) : S em b d k n Y sh R m pc ls (st) f :=
  S_pure (fun hC hl kk => lv_aload_n hC.1 hC.2.1 hd hq (lkl hl hi) (kk _ hl)) g
theorem o_aload {x j : Nat} (i : Nat) (hd : decode Y.2.1 pc = .ok (.aload j, 2)) (hi : ls[i]? = some (j, .ref x)) (g : S em b d k n Y sh R m (pc + 2) ls (.ref x :: st) f) : S em b d k n Y sh R m pc ls (st) f :=
  S_pure (fun hC hl kk => lv_aload hC.1 hC.2.1 hd (lkl hl hi) (kk _ hl)) g
theorem o_aload_nN {q : Fin 4} {j : Nat} (i : Nat) (hd : decode Y.2.1 pc = .ok (.aload_n q, 1)) (hq : (q : Nat) = j) (hi : ls[i]? = some (j, .null)) (g : S em b d k n Y sh R m (pc + 1) ls (.null :: st) f) : S em b d k n Y sh R m pc ls (st) f :=
  S_pure (fun hC hl kk => lv_aload_nN hC.1 hC.2.1 hd hq (lkl hl hi) (kk _ hl)) g
theorem o_aloadN {j : Nat} (i : Nat) (hd : decode Y.2.1 pc = .ok (.aload j, 2)) (hi : ls[i]? = some (j, .null)) (g : S em b d k n Y sh R m (pc + 2) ls (.null :: st) f) : S em b d k n Y sh R m pc ls (st) f :=
  S_pure (fun hC hl kk => lv_aloadN hC.1 hC.2.1 hd (lkl hl hi) (kk _ hl)) g
theorem o_istore_n {q : Fin 4} {x : Int32} {j : Nat} {ls' : List (Nat × Value)} (hd : decode Y.2.1 pc = .ok (.istore_n q, 1)) (hq : (q : Nat) = j) (hj : j < Y.2.2.1) (hls : stl ls j (.int x) = ls') (g : S em b d k n Y sh R m (pc + 1) ls' (st) f) : S em b d k n Y sh R m pc ls (.int x :: st) f :=
  S_pure (fun hC hl kk => lv_istore_n hC.1 hC.2.1 hd hq hl hj (stl_map (v := .int x)) (fun a h => kk a (hls ▸ h))) g
theorem o_istore {x : Int32} {j : Nat} {ls' : List (Nat × Value)} (hd : decode Y.2.1 pc = .ok (.istore j, 2)) (hj : j < Y.2.2.1) (hls : stl ls j (.int x) = ls') (g : S em b d k n Y sh R m (pc + 2) ls' (st) f) : S em b d k n Y sh R m pc ls (.int x :: st) f :=
  S_pure (fun hC hl kk => lv_istore hC.1 hC.2.1 hd hl hj (stl_map (v := .int x)) (fun a h => kk a (hls ▸ h))) g
theorem o_astore_n {q : Fin 4} {x : Nat} {j : Nat} {ls' : List (Nat × Value)} (hd : decode Y.2.1 pc = .ok (.astore_n q, 1)) (hq : (q : Nat) = j) (hj : j < Y.2.2.1) (hls : stl ls j (.ref x) = ls') (g : S em b d k n Y sh R m (pc + 1) ls' (st) f) : S em b d k n Y sh R m pc ls (.ref x :: st) f :=
  S_pure (fun hC hl kk => lv_astore_n hC.1 hC.2.1 hd hq hl hj (stl_map (v := .ref x)) (fun a h => kk a (hls ▸ h))) g
theorem o_astore {x : Nat} {j : Nat} {ls' : List (Nat × Value)} (hd : decode Y.2.1 pc = .ok (.astore j, 2)) (hj : j < Y.2.2.1) (hls : stl ls j (.ref x) = ls') (g : S em b d k n Y sh R m (pc + 2) ls' (st) f) : S em b d k n Y sh R m pc ls (.ref x :: st) f :=
  S_pure (fun hC hl kk => lv_astore hC.1 hC.2.1 hd hl hj (stl_map (v := .ref x)) (fun a h => kk a (hls ▸ h))) g
theorem o_astore_nN {q : Fin 4} {j : Nat} {ls' : List (Nat × Value)} (hd : decode Y.2.1 pc = .ok (.astore_n q, 1)) (hq : (q : Nat) = j) (hj : j < Y.2.2.1) (hls : stl ls j .null = ls') (g : S em b d k n Y sh R m (pc + 1) ls' (st) f) : S em b d k n Y sh R m pc ls (.null :: st) f :=
  S_pure (fun hC hl kk => lv_astore_nN hC.1 hC.2.1 hd hq hl hj (stl_map (v := .null)) (fun a h => kk a (hls ▸ h))) g
theorem o_astoreN {j : Nat} {ls' : List (Nat × Value)} (hd : decode Y.2.1 pc = .ok (.astore j, 2)) (hj : j < Y.2.2.1) (hls : stl ls j .null = ls') (g : S em b d k n Y sh R m (pc + 2) ls' (st) f) : S em b d k n Y sh R m pc ls (.null :: st) f :=
  S_pure (fun hC hl kk => lv_astoreN hC.1 hC.2.1 hd hl hj (stl_map (v := .null)) (fun a h => kk a (hls ▸ h))) g
theorem o_lstore_n {q : Fin 4} {x : Int64} {j : Nat} {ls' : List (Nat × Value)} (hd : decode Y.2.1 pc = .ok (.lstore_n q, 1)) (hq : (q : Nat) = j) (hj : j + 1 < Y.2.2.1) (hls : stl2 ls j (.long x) = ls') (g : S em b d k n Y sh R m (pc + 1) ls' (st) f) : S em b d k n Y sh R m pc ls (.long x :: st) f :=
  S_pure (fun hC hl kk => lv_lstore_n hC.1 hC.2.1 hd hq hl hj (stl2_map (v := .long x)) (fun a h => kk a (hls ▸ h))) g
theorem o_lstore {x : Int64} {j : Nat} {ls' : List (Nat × Value)} (hd : decode Y.2.1 pc = .ok (.lstore j, 2)) (hj : j + 1 < Y.2.2.1) (hls : stl2 ls j (.long x) = ls') (g : S em b d k n Y sh R m (pc + 2) ls' (st) f) : S em b d k n Y sh R m pc ls (.long x :: st) f :=
  S_pure (fun hC hl kk => lv_lstore hC.1 hC.2.1 hd hl hj (stl2_map (v := .long x)) (fun a h => kk a (hls ▸ h))) g
theorem o_iinc {c : Int} {x v : Int32} {j : Nat} (i : Nat) {ls' : List (Nat × Value)} (hd : decode Y.2.1 pc = .ok (.iinc j c, 3)) (hi : ls[i]? = some (j, .int x)) (hv : x + Int32.ofInt c = v) (hj : j < Y.2.2.1) (hls : stl ls j (.int v) = ls') (g : S em b d k n Y sh R m (pc + 3) ls' (st) f) : S em b d k n Y sh R m pc ls (st) f :=
  S_pure (fun hC hl kk => lv_iinc (k := i) hC.1 hC.2.1 hd hl (by rw [List.getElem?_map, hi]; rfl) hv hj (stl_map (v := .int v)) (fun a h => kk a (hls ▸ h))) g
theorem o_iadd {x y : Int32} (hd : decode Y.2.1 pc = .ok (.iadd, 1)) (g : S em b d k n Y sh R m (pc + 1) ls (.int (x + y) :: st) f) : S em b d k n Y sh R m pc ls (.int y :: .int x :: st) f :=
  S_pure (fun hC hl kk => lv_iadd hC.1 hC.2.1 hd (kk _ hl)) g
theorem o_isub {x y : Int32} (hd : decode Y.2.1 pc = .ok (.isub, 1)) (g : S em b d k n Y sh R m (pc + 1) ls (.int (x - y) :: st) f) : S em b d k n Y sh R m pc ls (.int y :: .int x :: st) f :=
  S_pure (fun hC hl kk => lv_isub hC.1 hC.2.1 hd (kk _ hl)) g
theorem o_imul {x y : Int32} (hd : decode Y.2.1 pc = .ok (.imul, 1)) (g : S em b d k n Y sh R m (pc + 1) ls (.int (x * y) :: st) f) : S em b d k n Y sh R m pc ls (.int y :: .int x :: st) f :=
  S_pure (fun hC hl kk => lv_imul hC.1 hC.2.1 hd (kk _ hl)) g
theorem o_iand {x y : Int32} (hd : decode Y.2.1 pc = .ok (.iand, 1)) (g : S em b d k n Y sh R m (pc + 1) ls (.int (x &&& y) :: st) f) : S em b d k n Y sh R m pc ls (.int y :: .int x :: st) f :=
  S_pure (fun hC hl kk => lv_iand hC.1 hC.2.1 hd (kk _ hl)) g
theorem o_ior {x y : Int32} (hd : decode Y.2.1 pc = .ok (.ior, 1)) (g : S em b d k n Y sh R m (pc + 1) ls (.int (x ||| y) :: st) f) : S em b d k n Y sh R m pc ls (.int y :: .int x :: st) f :=
  S_pure (fun hC hl kk => lv_ior hC.1 hC.2.1 hd (kk _ hl)) g
theorem o_ixor {x y : Int32} (hd : decode Y.2.1 pc = .ok (.ixor, 1)) (g : S em b d k n Y sh R m (pc + 1) ls (.int (x ^^^ y) :: st) f) : S em b d k n Y sh R m pc ls (.int y :: .int x :: st) f :=
  S_pure (fun hC hl kk => lv_ixor hC.1 hC.2.1 hd (kk _ hl)) g
theorem o_ishl {x y : Int32} (hd : decode Y.2.1 pc = .ok (.ishl, 1)) (g : S em b d k n Y sh R m (pc + 1) ls (.int (x <<< (y &&& 31)) :: st) f) : S em b d k n Y sh R m pc ls (.int y :: .int x :: st) f :=
  S_pure (fun hC hl kk => lv_ishl hC.1 hC.2.1 hd (kk _ hl)) g
theorem o_ishr {x y : Int32} (hd : decode Y.2.1 pc = .ok (.ishr, 1)) (g : S em b d k n Y sh R m (pc + 1) ls (.int (x >>> (y &&& 31)) :: st) f) : S em b d k n Y sh R m pc ls (.int y :: .int x :: st) f :=
  S_pure (fun hC hl kk => lv_ishr hC.1 hC.2.1 hd (kk _ hl)) g
theorem o_idiv {x y : Int32} (hd : decode Y.2.1 pc = .ok (.idiv, 1)) (hne : ¬ y = 0) (g : S em b d k n Y sh R m (pc + 1) ls (.int (x / y) :: st) f) : S em b d k n Y sh R m pc ls (.int y :: .int x :: st) f :=
  S_pure (fun hC hl kk => lv_idiv hC.1 hC.2.1 hd hne (kk _ hl)) g
theorem o_irem {x y : Int32} (hd : decode Y.2.1 pc = .ok (.irem, 1)) (hne : ¬ y = 0) (g : S em b d k n Y sh R m (pc + 1) ls (.int (x - x / y * y) :: st) f) : S em b d k n Y sh R m pc ls (.int y :: .int x :: st) f :=
  S_pure (fun hC hl kk => lv_irem hC.1 hC.2.1 hd hne (kk _ hl)) g
theorem o_ineg {x : Int32} (hd : decode Y.2.1 pc = .ok (.ineg, 1)) (g : S em b d k n Y sh R m (pc + 1) ls (.int (-x) :: st) f) : S em b d k n Y sh R m pc ls (.int x :: st) f :=
  S_pure (fun hC hl kk => lv_ineg hC.1 hC.2.1 hd (kk _ hl)) g
theorem o_ladd {x y : Int64} (hd : decode Y.2.1 pc = .ok (.ladd, 1)) (g : S em b d k n Y sh R m (pc + 1) ls (.long (x + y) :: st) f) : S em b d k n Y sh R m pc ls (.long y :: .long x :: st) f :=
  S_pure (fun hC hl kk => lv_ladd hC.1 hC.2.1 hd (kk _ hl)) g
theorem o_lsub {x y : Int64} (hd : decode Y.2.1 pc = .ok (.lsub, 1)) (g : S em b d k n Y sh R m (pc + 1) ls (.long (x - y) :: st) f) : S em b d k n Y sh R m pc ls (.long y :: .long x :: st) f :=
  S_pure (fun hC hl kk => lv_lsub hC.1 hC.2.1 hd (kk _ hl)) g
theorem o_lmul {x y : Int64} (hd : decode Y.2.1 pc = .ok (.lmul, 1)) (g : S em b d k n Y sh R m (pc + 1) ls (.long (x * y) :: st) f) : S em b d k n Y sh R m pc ls (.long y :: .long x :: st) f :=
  S_pure (fun hC hl kk => lv_lmul hC.1 hC.2.1 hd (kk _ hl)) g
theorem o_land {x y : Int64} (hd : decode Y.2.1 pc = .ok (.land, 1)) (g : S em b d k n Y sh R m (pc + 1) ls (.long (x &&& y) :: st) f) : S em b d k n Y sh R m pc ls (.long y :: .long x :: st) f :=
  S_pure (fun hC hl kk => lv_land hC.1 hC.2.1 hd (kk _ hl)) g
theorem o_lor {x y : Int64} (hd : decode Y.2.1 pc = .ok (.lor, 1)) (g : S em b d k n Y sh R m (pc + 1) ls (.long (x ||| y) :: st) f) : S em b d k n Y sh R m pc ls (.long y :: .long x :: st) f :=
  S_pure (fun hC hl kk => lv_lor hC.1 hC.2.1 hd (kk _ hl)) g
theorem o_ldiv {x y : Int64} (hd : decode Y.2.1 pc = .ok (.ldiv, 1)) (hne : ¬ y = 0) (g : S em b d k n Y sh R m (pc + 1) ls (.long (x / y) :: st) f) : S em b d k n Y sh R m pc ls (.long y :: .long x :: st) f :=
  S_pure (fun hC hl kk => lv_ldiv hC.1 hC.2.1 hd hne (kk _ hl)) g
theorem o_lrem {x y : Int64} (hd : decode Y.2.1 pc = .ok (.lrem, 1)) (hne : ¬ y = 0) (g : S em b d k n Y sh R m (pc + 1) ls (.long (x - x / y * y) :: st) f) : S em b d k n Y sh R m pc ls (.long y :: .long x :: st) f :=
  S_pure (fun hC hl kk => lv_lrem hC.1 hC.2.1 hd hne (kk _ hl)) g
theorem o_lcmp {x y : Int64} (hd : decode Y.2.1 pc = .ok (.lcmp, 1)) (g : S em b d k n Y sh R m (pc + 1) ls (.int (lg_cmp x y) :: st) f) : S em b d k n Y sh R m pc ls (.long y :: .long x :: st) f :=
  S_pure (fun hC hl kk => W.lcmp hC.1 hC.2.1 hd (kk _ hl)) g
theorem o_lshl {x : Int64} {y : Int32} (hd : decode Y.2.1 pc = .ok (.lshl, 1)) (g : S em b d k n Y sh R m (pc + 1) ls (.long (x <<< (y.toInt64 &&& 63)) :: st) f) : S em b d k n Y sh R m pc ls (.int y :: .long x :: st) f :=
  S_pure (fun hC hl kk => lv_lshl hC.1 hC.2.1 hd rfl (kk _ hl)) g
theorem o_i2l {x : Int32} (hd : decode Y.2.1 pc = .ok (.i2l, 1)) (g : S em b d k n Y sh R m (pc + 1) ls (.long x.toInt64 :: st) f) : S em b d k n Y sh R m pc ls (.int x :: st) f :=
  S_pure (fun hC hl kk => lv_i2l hC.1 hC.2.1 hd rfl (kk _ hl)) g
theorem o_l2i {x : Int64} (hd : decode Y.2.1 pc = .ok (.l2i, 1)) (g : S em b d k n Y sh R m (pc + 1) ls (.int x.toInt32 :: st) f) : S em b d k n Y sh R m pc ls (.long x :: st) f :=
  S_pure (fun hC hl kk => lv_l2i hC.1 hC.2.1 hd rfl (kk _ hl)) g
theorem o_i2b {x : Int32} (hd : decode Y.2.1 pc = .ok (.i2b, 1)) (g : S em b d k n Y sh R m (pc + 1) ls (.int x.toInt8.toInt32 :: st) f) : S em b d k n Y sh R m pc ls (.int x :: st) f :=
  S_pure (fun hC hl kk => lv_i2b hC.1 hC.2.1 hd rfl (kk _ hl)) g
theorem o_i2s {x : Int32} (hd : decode Y.2.1 pc = .ok (.i2s, 1)) (g : S em b d k n Y sh R m (pc + 1) ls (.int x.toInt16.toInt32 :: st) f) : S em b d k n Y sh R m pc ls (.int x :: st) f :=
  S_pure (fun hC hl kk => lv_i2s hC.1 hC.2.1 hd rfl (kk _ hl)) g
theorem o_i2c {x : Int32} (hd : decode Y.2.1 pc = .ok (.i2c, 1)) (g : S em b d k n Y sh R m (pc + 1) ls (.int (x.toUInt32 % 65536).toInt32 :: st) f) : S em b d k n Y sh R m pc ls (.int x :: st) f :=
  S_pure (fun hC hl kk => lv_i2c hC.1 hC.2.1 hd rfl (kk _ hl)) g
theorem o_dup {v : Value} (hd : decode Y.2.1 pc = .ok (.dup, 1)) (hv : v.category = 1) (g : S em b d k n Y sh R m (pc + 1) ls (v :: v :: st) f) : S em b d k n Y sh R m pc ls (v :: st) f :=
  S_pure (fun hC hl kk => lv_dup hC.1 hC.2.1 hd (cV_cat.trans hv) (kk _ hl)) g
theorem o_dup2 {v u : Value} (hd : decode Y.2.1 pc = .ok (.dup2, 1)) (hv : v.category = 1) (hu : u.category = 1) (g : S em b d k n Y sh R m (pc + 1) ls (v :: u :: v :: u :: st) f) : S em b d k n Y sh R m pc ls (v :: u :: st) f :=
  S_pure (fun hC hl kk => lv_dup2_11 hC.1 hC.2.1 hd (cV_cat.trans hv) (cV_cat.trans hu) (kk _ hl)) g
theorem o_dup2L {v : Value} (hd : decode Y.2.1 pc = .ok (.dup2, 1)) (hv : v.category = 2) (g : S em b d k n Y sh R m (pc + 1) ls (v :: v :: st) f) : S em b d k n Y sh R m pc ls (v :: st) f :=
  S_pure (fun hC hl kk => lv_dup2_2 hC.1 hC.2.1 hd (cV_cat.trans hv) (kk _ hl)) g
theorem o_pop {v : Value} (hd : decode Y.2.1 pc = .ok (.pop, 1)) (hv : v.category = 1) (g : S em b d k n Y sh R m (pc + 1) ls (st) f) : S em b d k n Y sh R m pc ls (v :: st) f :=
  S_pure (fun hC hl kk => lv_pop hC.1 hC.2.1 hd (cV_cat.trans hv) (kk _ hl)) g
theorem o_goto {off : Int} {tgt : Nat} (hd : decode Y.2.1 pc = .ok (.goto off, 3)) (ht : (pc : Int) + off = (tgt : Int)) (g : S em b d k n Y sh R m tgt ls st f) : S em b d k n Y sh R m pc ls st f :=
  S_pure (fun hC hl kk => lv_goto hC.1 hC.2.1 hd ht (kk _ hl)) g
theorem o_if_eq {x : Int32} {off : Int} {tgt : Nat} {f1 f2 : Option ρ} {di : Decidable (x = 0)} (hd : decode Y.2.1 pc = .ok (.ifCond .eq off, 3)) (ht : (pc : Int) + off = (tgt : Int)) (g1 : x = 0 → S em b d k n Y sh R m (tgt) ls st f1) (g2 : ¬ (x = 0) → S em b d k n Y sh R m (pc + 3) ls st f2) : S em b d k n Y sh R m pc ls (.int x :: st) (@ite _ (x = 0) di f1 f2) := by
  intro r hr
  refine G_two (P := x = 0) (st' := st) (pc1 := tgt) (pc2 := pc + 3) (fun hC a c => lv_if_eq hC.1 hC.2.1 hd ht (fun q => a q) (fun q => c q)) (fun q => g1 q r ?_) (fun q => g2 q r ?_)
  · rw [if_pos q] at hr; exact hr
  · rw [if_neg q] at hr; exact hr
theorem o_if_eq_t {x : Int32} {off : Int} {tgt : Nat} (hd : decode Y.2.1 pc = .ok (.ifCond .eq off, 3)) (ht : (pc : Int) + off = (tgt : Int)) (hc : x = 0) (g : S em b d k n Y sh R m tgt ls st f) : S em b d k n Y sh R m pc ls (.int x :: st) f :=
  S_pure (fun hC hl kk => lv_if_eq hC.1 hC.2.1 hd ht (fun _ => kk _ hl) (fun q => absurd hc q)) g
theorem o_if_eq_f {x : Int32} {off : Int} {tgt : Nat} (hd : decode Y.2.1 pc = .ok (.ifCond .eq off, 3)) (ht : (pc : Int) + off = (tgt : Int)) (hc : ¬ (x = 0)) (g : S em b d k n Y sh R m (pc + 3) ls st f) : S em b d k n Y sh R m pc ls (.int x :: st) f :=
  S_pure (fun hC hl kk => lv_if_eq hC.1 hC.2.1 hd ht (fun q => absurd q hc) (fun _ => kk _ hl)) g
theorem o_icmp_eq {x y : Int32} {off : Int} {tgt : Nat} {f1 f2 : Option ρ} {di : Decidable (x = y)} (hd : decode Y.2.1 pc = .ok (.if_icmp .eq off, 3)) (ht : (pc : Int) + off = (tgt : Int)) (g1 : x = y → S em b d k n Y sh R m (tgt) ls st f1) (g2 : ¬ (x = y) → S em b d k n Y sh R m (pc + 3) ls st f2) : S em b d k n Y sh R m pc ls (.int y :: .int x :: st) (@ite _ (x = y) di f1 f2) := by
  intro r hr
  refine G_two (P := x = y) (st' := st) (pc1 := tgt) (pc2 := pc + 3) (fun hC a c => lv_icmp_eq hC.1 hC.2.1 hd ht (fun q => a q) (fun q => c q)) (fun q => g1 q r ?_) (fun q => g2 q r ?_)
  · rw [if_pos q] at hr; exact hr
  · rw [if_neg q] at hr; exact hr
theorem o_icmp_eq_t {x y : Int32} {off : Int} {tgt : Nat} (hd : decode Y.2.1 pc = .ok (.if_icmp .eq off, 3)) (ht : (pc : Int) + off = (tgt : Int)) (hc : x = y) (g : S em b d k n Y sh R m tgt ls st f) : S em b d k n Y sh R m pc ls (.int y :: .int x :: st) f :=
  S_pure (fun hC hl kk => lv_icmp_eq hC.1 hC.2.1 hd ht (fun _ => kk _ hl) (fun q => absurd hc q)) g
theorem o_icmp_eq_f {x y : Int32} {off : Int} {tgt : Nat} (hd : decode Y.2.1 pc = .ok (.if_icmp .eq off, 3)) (ht : (pc : Int) + off = (tgt : Int)) (hc : ¬ (x = y)) (g : S em b d k n Y sh R m (pc + 3) ls st f) : S em b d k n Y sh R m pc ls (.int y :: .int x :: st) f :=
  S_pure (fun hC hl kk => lv_icmp_eq hC.1 hC.2.1 hd ht (fun q => absurd q hc) (fun _ => kk _ hl)) g
theorem o_if_ne {x : Int32} {off : Int} {tgt : Nat} {f1 f2 : Option ρ} {di : Decidable (x = 0)} (hd : decode Y.2.1 pc = .ok (.ifCond .ne off, 3)) (ht : (pc : Int) + off = (tgt : Int)) (g1 : x = 0 → S em b d k n Y sh R m (pc + 3) ls st f1) (g2 : ¬ (x = 0) → S em b d k n Y sh R m (tgt) ls st f2) : S em b d k n Y sh R m pc ls (.int x :: st) (@ite _ (x = 0) di f1 f2) := by
  intro r hr
  refine G_two (P := x = 0) (st' := st) (pc1 := pc + 3) (pc2 := tgt) (fun hC a c => lv_if_ne hC.1 hC.2.1 hd ht (fun q => c q) (fun q => a q)) (fun q => g1 q r ?_) (fun q => g2 q r ?_)
  · rw [if_pos q] at hr; exact hr
  · rw [if_neg q] at hr; exact hr
theorem o_if_ne_t {x : Int32} {off : Int} {tgt : Nat} (hd : decode Y.2.1 pc = .ok (.ifCond .ne off, 3)) (ht : (pc : Int) + off = (tgt : Int)) (hc : ¬ (x = 0)) (g : S em b d k n Y sh R m tgt ls st f) : S em b d k n Y sh R m pc ls (.int x :: st) f :=
  S_pure (fun hC hl kk => lv_if_ne hC.1 hC.2.1 hd ht (fun _ => kk _ hl) (fun q => absurd q hc)) g
theorem o_if_ne_f {x : Int32} {off : Int} {tgt : Nat} (hd : decode Y.2.1 pc = .ok (.ifCond .ne off, 3)) (ht : (pc : Int) + off = (tgt : Int)) (hc : x = 0) (g : S em b d k n Y sh R m (pc + 3) ls st f) : S em b d k n Y sh R m pc ls (.int x :: st) f :=
  S_pure (fun hC hl kk => lv_if_ne hC.1 hC.2.1 hd ht (fun q => absurd hc q) (fun _ => kk _ hl)) g
theorem o_icmp_ne {x y : Int32} {off : Int} {tgt : Nat} {f1 f2 : Option ρ} {di : Decidable (x = y)} (hd : decode Y.2.1 pc = .ok (.if_icmp .ne off, 3)) (ht : (pc : Int) + off = (tgt : Int)) (g1 : x = y → S em b d k n Y sh R m (pc + 3) ls st f1) (g2 : ¬ (x = y) → S em b d k n Y sh R m (tgt) ls st f2) : S em b d k n Y sh R m pc ls (.int y :: .int x :: st) (@ite _ (x = y) di f1 f2) := by
  intro r hr
  refine G_two (P := x = y) (st' := st) (pc1 := pc + 3) (pc2 := tgt) (fun hC a c => lv_icmp_ne hC.1 hC.2.1 hd ht (fun q => c q) (fun q => a q)) (fun q => g1 q r ?_) (fun q => g2 q r ?_)
  · rw [if_pos q] at hr; exact hr
  · rw [if_neg q] at hr; exact hr
theorem o_icmp_ne_t {x y : Int32} {off : Int} {tgt : Nat} (hd : decode Y.2.1 pc = .ok (.if_icmp .ne off, 3)) (ht : (pc : Int) + off = (tgt : Int)) (hc : ¬ (x = y)) (g : S em b d k n Y sh R m tgt ls st f) : S em b d k n Y sh R m pc ls (.int y :: .int x :: st) f :=
  S_pure (fun hC hl kk => lv_icmp_ne hC.1 hC.2.1 hd ht (fun _ => kk _ hl) (fun q => absurd q hc)) g
theorem o_icmp_ne_f {x y : Int32} {off : Int} {tgt : Nat} (hd : decode Y.2.1 pc = .ok (.if_icmp .ne off, 3)) (ht : (pc : Int) + off = (tgt : Int)) (hc : x = y) (g : S em b d k n Y sh R m (pc + 3) ls st f) : S em b d k n Y sh R m pc ls (.int y :: .int x :: st) f :=
  S_pure (fun hC hl kk => lv_icmp_ne hC.1 hC.2.1 hd ht (fun q => absurd hc q) (fun _ => kk _ hl)) g
theorem o_if_lt {x : Int32} {off : Int} {tgt : Nat} {f1 f2 : Option ρ} {di : Decidable (x < 0)} (hd : decode Y.2.1 pc = .ok (.ifCond .lt off, 3)) (ht : (pc : Int) + off = (tgt : Int)) (g1 : x < 0 → S em b d k n Y sh R m (tgt) ls st f1) (g2 : ¬ (x < 0) → S em b d k n Y sh R m (pc + 3) ls st f2) : S em b d k n Y sh R m pc ls (.int x :: st) (@ite _ (x < 0) di f1 f2) := by
  intro r hr
  refine G_two (P := x < 0) (st' := st) (pc1 := tgt) (pc2 := pc + 3) (fun hC a c => lv_if_lt hC.1 hC.2.1 hd ht (fun q => a q) (fun q => c q)) (fun q => g1 q r ?_) (fun q => g2 q r ?_)
  · rw [if_pos q] at hr; exact hr
  · rw [if_neg q] at hr; exact hr
theorem o_if_lt_t {x : Int32} {off : Int} {tgt : Nat} (hd : decode Y.2.1 pc = .ok (.ifCond .lt off, 3)) (ht : (pc : Int) + off = (tgt : Int)) (hc : x < 0) (g : S em b d k n Y sh R m tgt ls st f) : S em b d k n Y sh R m pc ls (.int x :: st) f :=
  S_pure (fun hC hl kk => lv_if_lt hC.1 hC.2.1 hd ht (fun _ => kk _ hl) (fun q => absurd hc q)) g
theorem o_if_lt_f {x : Int32} {off : Int} {tgt : Nat} (hd : decode Y.2.1 pc = .ok (.ifCond .lt off, 3)) (ht : (pc : Int) + off = (tgt : Int)) (hc : ¬ (x < 0)) (g : S em b d k n Y sh R m (pc + 3) ls st f) : S em b d k n Y sh R m pc ls (.int x :: st) f :=
  S_pure (fun hC hl kk => lv_if_lt hC.1 hC.2.1 hd ht (fun q => absurd q hc) (fun _ => kk _ hl)) g
theorem o_icmp_lt {x y : Int32} {off : Int} {tgt : Nat} {f1 f2 : Option ρ} {di : Decidable (x < y)} (hd : decode Y.2.1 pc = .ok (.if_icmp .lt off, 3)) (ht : (pc : Int) + off = (tgt : Int)) (g1 : x < y → S em b d k n Y sh R m (tgt) ls st f1) (g2 : ¬ (x < y) → S em b d k n Y sh R m (pc + 3) ls st f2) : S em b d k n Y sh R m pc ls (.int y :: .int x :: st) (@ite _ (x < y) di f1 f2) := by
  intro r hr
  refine G_two (P := x < y) (st' := st) (pc1 := tgt) (pc2 := pc + 3) (fun hC a c => lv_icmp_lt hC.1 hC.2.1 hd ht (fun q => a q) (fun q => c q)) (fun q => g1 q r ?_) (fun q => g2 q r ?_)
  · rw [if_pos q] at hr; exact hr
  · rw [if_neg q] at hr; exact hr
theorem o_icmp_lt_t {x y : Int32} {off : Int} {tgt : Nat} (hd : decode Y.2.1 pc = .ok (.if_icmp .lt off, 3)) (ht : (pc : Int) + off = (tgt : Int)) (hc : x < y) (g : S em b d k n Y sh R m tgt ls st f) : S em b d k n Y sh R m pc ls (.int y :: .int x :: st) f :=
  S_pure (fun hC hl kk => lv_icmp_lt hC.1 hC.2.1 hd ht (fun _ => kk _ hl) (fun q => absurd hc q)) g
theorem o_icmp_lt_f {x y : Int32} {off : Int} {tgt : Nat} (hd : decode Y.2.1 pc = .ok (.if_icmp .lt off, 3)) (ht : (pc : Int) + off = (tgt : Int)) (hc : ¬ (x < y)) (g : S em b d k n Y sh R m (pc + 3) ls st f) : S em b d k n Y sh R m pc ls (.int y :: .int x :: st) f :=
  S_pure (fun hC hl kk => lv_icmp_lt hC.1 hC.2.1 hd ht (fun q => absurd q hc) (fun _ => kk _ hl)) g
theorem o_if_ge {x : Int32} {off : Int} {tgt : Nat} {f1 f2 : Option ρ} {di : Decidable (0 ≤ x)} (hd : decode Y.2.1 pc = .ok (.ifCond .ge off, 3)) (ht : (pc : Int) + off = (tgt : Int)) (g1 : 0 ≤ x → S em b d k n Y sh R m (tgt) ls st f1) (g2 : ¬ (0 ≤ x) → S em b d k n Y sh R m (pc + 3) ls st f2) : S em b d k n Y sh R m pc ls (.int x :: st) (@ite _ (0 ≤ x) di f1 f2) := by
  intro r hr
  refine G_two (P := 0 ≤ x) (st' := st) (pc1 := tgt) (pc2 := pc + 3) (fun hC a c => lv_if_ge hC.1 hC.2.1 hd ht (fun q => a q) (fun q => c q)) (fun q => g1 q r ?_) (fun q => g2 q r ?_)
  · rw [if_pos q] at hr; exact hr
  · rw [if_neg q] at hr; exact hr
theorem o_if_ge_t {x : Int32} {off : Int} {tgt : Nat} (hd : decode Y.2.1 pc = .ok (.ifCond .ge off, 3)) (ht : (pc : Int) + off = (tgt : Int)) (hc : 0 ≤ x) (g : S em b d k n Y sh R m tgt ls st f) : S em b d k n Y sh R m pc ls (.int x :: st) f :=
  S_pure (fun hC hl kk => lv_if_ge hC.1 hC.2.1 hd ht (fun _ => kk _ hl) (fun q => absurd hc q)) g
theorem o_if_ge_f {x : Int32} {off : Int} {tgt : Nat} (hd : decode Y.2.1 pc = .ok (.ifCond .ge off, 3)) (ht : (pc : Int) + off = (tgt : Int)) (hc : ¬ (0 ≤ x)) (g : S em b d k n Y sh R m (pc + 3) ls st f) : S em b d k n Y sh R m pc ls (.int x :: st) f :=
  S_pure (fun hC hl kk => lv_if_ge hC.1 hC.2.1 hd ht (fun q => absurd q hc) (fun _ => kk _ hl)) g
theorem o_icmp_ge {x y : Int32} {off : Int} {tgt : Nat} {f1 f2 : Option ρ} {di : Decidable (y ≤ x)} (hd : decode Y.2.1 pc = .ok (.if_icmp .ge off, 3)) (ht : (pc : Int) + off = (tgt : Int)) (g1 : y ≤ x → S em b d k n Y sh R m (tgt) ls st f1) (g2 : ¬ (y ≤ x) → S em b d k n Y sh R m (pc + 3) ls st f2) : S em b d k n Y sh R m pc ls (.int y :: .int x :: st) (@ite _ (y ≤ x) di f1 f2) := by
  intro r hr
  refine G_two (P := y ≤ x) (st' := st) (pc1 := tgt) (pc2 := pc + 3) (fun hC a c => lv_icmp_ge hC.1 hC.2.1 hd ht (fun q => a q) (fun q => c q)) (fun q => g1 q r ?_) (fun q => g2 q r ?_)
  · rw [if_pos q] at hr; exact hr
  · rw [if_neg q] at hr; exact hr
theorem o_icmp_ge_t {x y : Int32} {off : Int} {tgt : Nat} (hd : decode Y.2.1 pc = .ok (.if_icmp .ge off, 3)) (ht : (pc : Int) + off = (tgt : Int)) (hc : y ≤ x) (g : S em b d k n Y sh R m tgt ls st f) : S em b d k n Y sh R m pc ls (.int y :: .int x :: st) f :=
  S_pure (fun hC hl kk => lv_icmp_ge hC.1 hC.2.1 hd ht (fun _ => kk _ hl) (fun q => absurd hc q)) g
theorem o_icmp_ge_f {x y : Int32} {off : Int} {tgt : Nat} (hd : decode Y.2.1 pc = .ok (.if_icmp .ge off, 3)) (ht : (pc : Int) + off = (tgt : Int)) (hc : ¬ (y ≤ x)) (g : S em b d k n Y sh R m (pc + 3) ls st f) : S em b d k n Y sh R m pc ls (.int y :: .int x :: st) f :=
  S_pure (fun hC hl kk => lv_icmp_ge hC.1 hC.2.1 hd ht (fun q => absurd q hc) (fun _ => kk _ hl)) g
theorem o_if_gt {x : Int32} {off : Int} {tgt : Nat} {f1 f2 : Option ρ} {di : Decidable (0 < x)} (hd : decode Y.2.1 pc = .ok (.ifCond .gt off, 3)) (ht : (pc : Int) + off = (tgt : Int)) (g1 : 0 < x → S em b d k n Y sh R m (tgt) ls st f1) (g2 : ¬ (0 < x) → S em b d k n Y sh R m (pc + 3) ls st f2) : S em b d k n Y sh R m pc ls (.int x :: st) (@ite _ (0 < x) di f1 f2) := by
  intro r hr
  refine G_two (P := 0 < x) (st' := st) (pc1 := tgt) (pc2 := pc + 3) (fun hC a c => lv_if_gt hC.1 hC.2.1 hd ht (fun q => a q) (fun q => c q)) (fun q => g1 q r ?_) (fun q => g2 q r ?_)
  · rw [if_pos q] at hr; exact hr
  · rw [if_neg q] at hr; exact hr
theorem o_if_gt_t {x : Int32} {off : Int} {tgt : Nat} (hd : decode Y.2.1 pc = .ok (.ifCond .gt off, 3)) (ht : (pc : Int) + off = (tgt : Int)) (hc : 0 < x) (g : S em b d k n Y sh R m tgt ls st f) : S em b d k n Y sh R m pc ls (.int x :: st) f :=
  S_pure (fun hC hl kk => lv_if_gt hC.1 hC.2.1 hd ht (fun _ => kk _ hl) (fun q => absurd hc q)) g
theorem o_if_gt_f {x : Int32} {off : Int} {tgt : Nat} (hd : decode Y.2.1 pc = .ok (.ifCond .gt off, 3)) (ht : (pc : Int) + off = (tgt : Int)) (hc : ¬ (0 < x)) (g : S em b d k n Y sh R m (pc + 3) ls st f) : S em b d k n Y sh R m pc ls (.int x :: st) f :=
  S_pure (fun hC hl kk => lv_if_gt hC.1 hC.2.1 hd ht (fun q => absurd q hc) (fun _ => kk _ hl)) g
theorem o_icmp_gt {x y : Int32} {off : Int} {tgt : Nat} {f1 f2 : Option ρ} {di : Decidable (y < x)} (hd : decode Y.2.1 pc = .ok (.if_icmp .gt off, 3)) (ht : (pc : Int) + off = (tgt : Int)) (g1 : y < x → S em b d k n Y sh R m (tgt) ls st f1) (g2 : ¬ (y < x) → S em b d k n Y sh R m (pc + 3) ls st f2) : S em b d k n Y sh R m pc ls (.int y :: .int x :: st) (@ite _ (y < x) di f1 f2) := by
  intro r hr
  refine G_two (P := y < x) (st' := st) (pc1 := tgt) (pc2 := pc + 3) (fun hC a c => lv_icmp_gt hC.1 hC.2.1 hd ht (fun q => a q) (fun q => c q)) (fun q => g1 q r ?_) (fun q => g2 q r ?_)
  · rw [if_pos q] at hr; exact hr
  · rw [if_neg q] at hr; exact hr
theorem o_icmp_gt_t {x y : Int32} {off : Int} {tgt : Nat} (hd : decode Y.2.1 pc = .ok (.if_icmp .gt off, 3)) (ht : (pc : Int) + off = (tgt : Int)) (hc : y < x) (g : S em b d k n Y sh R m tgt ls st f) : S em b d k n Y sh R m pc ls (.int y :: .int x :: st) f :=
  S_pure (fun hC hl kk => lv_icmp_gt hC.1 hC.2.1 hd ht (fun _ => kk _ hl) (fun q => absurd hc q)) g
theorem o_icmp_gt_f {x y : Int32} {off : Int} {tgt : Nat} (hd : decode Y.2.1 pc = .ok (.if_icmp .gt off, 3)) (ht : (pc : Int) + off = (tgt : Int)) (hc : ¬ (y < x)) (g : S em b d k n Y sh R m (pc + 3) ls st f) : S em b d k n Y sh R m pc ls (.int y :: .int x :: st) f :=
  S_pure (fun hC hl kk => lv_icmp_gt hC.1 hC.2.1 hd ht (fun q => absurd q hc) (fun _ => kk _ hl)) g
theorem o_if_le {x : Int32} {off : Int} {tgt : Nat} {f1 f2 : Option ρ} {di : Decidable (x ≤ 0)} (hd : decode Y.2.1 pc = .ok (.ifCond .le off, 3)) (ht : (pc : Int) + off = (tgt : Int)) (g1 : x ≤ 0 → S em b d k n Y sh R m (tgt) ls st f1) (g2 : ¬ (x ≤ 0) → S em b d k n Y sh R m (pc + 3) ls st f2) : S em b d k n Y sh R m pc ls (.int x :: st) (@ite _ (x ≤ 0) di f1 f2) := by
  intro r hr
  refine G_two (P := x ≤ 0) (st' := st) (pc1 := tgt) (pc2 := pc + 3) (fun hC a c => lv_if_le hC.1 hC.2.1 hd ht (fun q => a q) (fun q => c q)) (fun q => g1 q r ?_) (fun q => g2 q r ?_)
  · rw [if_pos q] at hr; exact hr
  · rw [if_neg q] at hr; exact hr
theorem o_if_le_t {x : Int32} {off : Int} {tgt : Nat} (hd : decode Y.2.1 pc = .ok (.ifCond .le off, 3)) (ht : (pc : Int) + off = (tgt : Int)) (hc : x ≤ 0) (g : S em b d k n Y sh R m tgt ls st f) : S em b d k n Y sh R m pc ls (.int x :: st) f :=
  S_pure (fun hC hl kk => lv_if_le hC.1 hC.2.1 hd ht (fun _ => kk _ hl) (fun q => absurd hc q)) g
theorem o_if_le_f {x : Int32} {off : Int} {tgt : Nat} (hd : decode Y.2.1 pc = .ok (.ifCond .le off, 3)) (ht : (pc : Int) + off = (tgt : Int)) (hc : ¬ (x ≤ 0)) (g : S em b d k n Y sh R m (pc + 3) ls st f) : S em b d k n Y sh R m pc ls (.int x :: st) f :=
  S_pure (fun hC hl kk => lv_if_le hC.1 hC.2.1 hd ht (fun q => absurd q hc) (fun _ => kk _ hl)) g
theorem o_icmp_le {x y : Int32} {off : Int} {tgt : Nat} {f1 f2 : Option ρ} {di : Decidable (x ≤ y)} (hd : decode Y.2.1 pc = .ok (.if_icmp .le off, 3)) (ht : (pc : Int) + off = (tgt : Int)) (g1 : x ≤ y → S em b d k n Y sh R m (tgt) ls st f1) (g2 : ¬ (x ≤ y) → S em b d k n Y sh R m (pc + 3) ls st f2) : S em b d k n Y sh R m pc ls (.int y :: .int x :: st) (@ite _ (x ≤ y) di f1 f2) := by
  intro r hr
  refine G_two (P := x ≤ y) (st' := st) (pc1 := tgt) (pc2 := pc + 3) (fun hC a c => lv_icmp_le hC.1 hC.2.1 hd ht (fun q => a q) (fun q => c q)) (fun q => g1 q r ?_) (fun q => g2 q r ?_)
  · rw [if_pos q] at hr; exact hr
  · rw [if_neg q] at hr; exact hr
theorem o_icmp_le_t {x y : Int32} {off : Int} {tgt : Nat} (hd : decode Y.2.1 pc = .ok (.if_icmp .le off, 3)) (ht : (pc : Int) + off = (tgt : Int)) (hc : x ≤ y) (g : S em b d k n Y sh R m tgt ls st f) : S em b d k n Y sh R m pc ls (.int y :: .int x :: st) f :=
  S_pure (fun hC hl kk => lv_icmp_le hC.1 hC.2.1 hd ht (fun _ => kk _ hl) (fun q => absurd hc q)) g
theorem o_icmp_le_f {x y : Int32} {off : Int} {tgt : Nat} (hd : decode Y.2.1 pc = .ok (.if_icmp .le off, 3)) (ht : (pc : Int) + off = (tgt : Int)) (hc : ¬ (x ≤ y)) (g : S em b d k n Y sh R m (pc + 3) ls st f) : S em b d k n Y sh R m pc ls (.int y :: .int x :: st) f :=
  S_pure (fun hC hl kk => lv_icmp_le hC.1 hC.2.1 hd ht (fun q => absurd q hc) (fun _ => kk _ hl)) g
theorem o_ifnull_t {off : Int} {tgt : Nat} (hd : decode Y.2.1 pc = .ok (.ifnull off, 3)) (ht : (pc : Int) + off = (tgt : Int)) (g : S em b d k n Y sh R m tgt ls st f) : S em b d k n Y sh R m pc ls (.null :: st) f :=
  S_pure (fun hC hl kk => lv_ifnullN hC.1 hC.2.1 hd ht (kk _ hl)) g
theorem o_ifnull_f {x : Nat} {off : Int} (hd : decode Y.2.1 pc = .ok (.ifnull off, 3)) (g : S em b d k n Y sh R m (pc + 3) ls st f) : S em b d k n Y sh R m pc ls (.ref x :: st) f :=
  S_pure (fun hC hl kk => lv_ifnull hC.1 hC.2.1 hd (kk _ hl)) g
theorem o_ifnonnull_t {x : Nat} {off : Int} {tgt : Nat} (hd : decode Y.2.1 pc = .ok (.ifnonnull off, 3)) (ht : (pc : Int) + off = (tgt : Int)) (g : S em b d k n Y sh R m tgt ls st f) : S em b d k n Y sh R m pc ls (.ref x :: st) f :=
  S_pure (fun hC hl kk => lv_ifnonnull hC.1 hC.2.1 hd ht (kk _ hl)) g
theorem o_ifnonnull_f {off : Int} (hd : decode Y.2.1 pc = .ok (.ifnonnull off, 3)) (g : S em b d k n Y sh R m (pc + 3) ls st f) : S em b d k n Y sh R m pc ls (.null :: st) f :=
  S_pure (fun hC hl kk => lv_ifnonnullN hC.1 hC.2.1 hd (kk _ hl)) g
theorem o_ts_in {dflt lo hi off : Int} {offs : Array Int} {len tgt : Nat} {x : Int32} (c : Int32) (hx : x = c) (hd : decode Y.2.1 pc = .ok (.tableswitch dflt lo hi offs, len)) (h1 : ¬ c.toInt < lo) (h2 : ¬ hi < c.toInt) (ho : offs[(c.toInt - lo).toNat]? = some off) (ht : (pc : Int) + off = (tgt : Int)) (g : S em b d k n Y sh R m tgt ls st f) : S em b d k n Y sh R m pc ls (.int x :: st) f :=
  S_pure (fun hC hl kk => lv_tableIn hC.1 hC.2.1 hd (hx ▸ h1) (hx ▸ h2) (hx ▸ ho) ht (kk _ hl)) g
theorem ts_out {lo hi : Int} {x : Int32} (cs : List Int32) (hcs : ∀ z : Nat, z < cs.length → (cs.getD z 0).toInt = lo + z) (hn : hi - lo < cs.length) (hx : ∀ c ∈ cs, ¬ x = c) : x.toInt < lo ∨ hi < x.toInt := by
  by_cases h1 : x.toInt < lo
  · exact Or.inl h1
  · by_cases h2 : hi < x.toInt
    · exact Or.inr h2
    · exfalso
      have hz : (x.toInt - lo).toNat < cs.length := by omega
      have e := hcs _ hz
      have : x = cs.getD (x.toInt - lo).toNat 0 := Int32.toInt_inj.mp (by rw [e]; omega)
      refine hx _ ?_ this
      rw [List.getD_eq_getElem?_getD, List.getElem?_eq_getElem hz]
      exact List.getElem_mem hz
theorem o_ts_out {dflt lo hi : Int} {offs : Array Int} {len tgt : Nat} {x : Int32} (hx : x.toInt < lo ∨ hi < x.toInt) (hd : decode Y.2.1 pc = .ok (.tableswitch dflt lo hi offs, len)) (ht : (pc : Int) + dflt = (tgt : Int)) (g : S em b d k n Y sh R m tgt ls st f) : S em b d k n Y sh R m pc ls (.int x :: st) f :=
  S_pure (fun hC hl kk => lv_tableOut hC.1 hC.2.1 hd hx ht (kk _ hl)) g
theorem o_lookup {dflt off : Int} {ps : Array (Int × Int)} {len tgt : Nat} {x : Int32} (hd : decode Y.2.1 pc = .ok (.lookupswitch dflt ps, len)) (hp : (ps.toList.zip (ps.toList.drop 1)).all (fun (a, next) => a.1 < next.1) = true) (ho : Op.lookupswitch.offset ps.toList dflt x.toInt = off) (ht : (pc : Int) + off = (tgt : Int)) (g : S em b d k n Y sh R m tgt ls st f) : S em b d k n Y sh R m pc ls (.int x :: st) f :=
  S_pure (fun hC hl kk => lv_lookup hC.1 hC.2.1 hd hp ho ht (kk _ hl)) g
theorem S_ite {c : Prop} {di : Decidable c} {f1 f2 : Option ρ} (g1 : c → S em b d k n Y sh R m pc ls st f1) (g2 : ¬ c → S em b d k n Y sh R m pc ls st f2) : S em b d k n Y sh R m pc ls st (@ite _ c di f1 f2) := by
  by_cases h : c
  · rw [if_pos h]; exact g1 h
  · rw [if_neg h]; exact g2 h
theorem S_at {pc' : Nat} (e : pc' = pc) (g : S em b d k n Y sh R m pc' ls st f) : S em b d k n Y sh R m pc ls st f := e ▸ g
-- ends
theorem o_iret {x : Int32} {r : ρ} (hd : decode Y.2.1 pc = .ok (.ireturn, 1)) (hr : Y.2.2.2 = some .int) (he : em r = (some (.int x), sh, mk m R)) : S em b d k n Y sh R m pc ls [.int x] (some r) := fun r' h => by
  cases h
  exact G_iret hd hr he.symm
theorem o_zret {x : Int32} {r : ρ} {ty : FieldType} (hd : decode Y.2.1 pc = .ok (.ireturn, 1)) (hr : Y.2.2.2 = some ty) (hn : narrow ty (.int x) = .int x) (he : em r = (some (.int x), sh, mk m R)) : S em b d k n Y sh R m pc ls [.int x] (some r) := fun r' h => by
  cases h
  exact G_zret hd hr hn he.symm
theorem o_lret {x : Int64} {r : ρ} (hd : decode Y.2.1 pc = .ok (.lreturn, 1)) (hr : Y.2.2.2 = some .long) (he : em r = (some (.long x), sh, mk m R)) : S em b d k n Y sh R m pc ls [.long x] (some r) := fun r' h => by
  cases h
  exact G_lret hd hr he.symm
theorem o_vret {r : ρ} (hd : decode Y.2.1 pc = .ok (.return_, 1)) (hr : Y.2.2.2 = none) (he : em r = (none, sh, mk m R)) : S em b d k n Y sh R m pc ls [] (some r) := fun r' h => by
  cases h
  exact G_vret hd hr he.symm
theorem o_aret {q : Option Nat} {r : ρ} {rt : FieldType} (hd : decode Y.2.1 pc = .ok (.areturn, 1)) (hr : Y.2.2.2 = some rt) (hrt : (∃ n, rt = .object n) ∨ ∃ t, rt = .array t) (he : em r = (some (va_rf q), sh, mk m R)) : S em b d k n Y sh R m pc ls [va_rf q] (some r) := fun r' h => by
  cases h
  exact G_aret hd hr hrt he.symm
end SS
theorem KS_of {ρ : Type} {em : EM ρ} {b : Bool} {d k n : Nat} {Y : YD} {sh : Sh} {R : RR} {m : MI} {av : List Value} {f : Option ρ} (hy : plainName Y.1.cls = true) (hlen : ∀ ad : Nat → Nat, (lg_sl (av.map (cV ad))).length ≤ Y.2.2.1) (g : S em b d k n Y sh R m 0 (lv_args 0 av) [] f) : KS em b d k n Y sh R m av f := fun r hr => K_of_G hy hlen (g r hr)
end
section
/-! THE RULES: fields, arrays, calls, what is made -/
theorem nF8 : ∀ {ci : Nat} {q : vw_C}, cls8[ci]? = some q → nF ci = q.2.2 := by
  intro ci q h
  match ci, h with
  | 0, h => cases h; rfl
  | 1, h => cases h; rfl
  | 2, h => cases h; rfl
  | 3, h => cases h; rfl
  | 4, h => cases h; rfl
  | 5, h => cases h; rfl
  | 6, h => cases h; rfl
  | 7, h => cases h; rfl
  | k + 8, h => simp [cls8] at h
def ck (i : Int32) (n : Nat) : Bool := !(decide (i < 0) || decide (n ≤ i.toNatClampNeg))
theorem ck_in {i : Int32} {n : Nat} (h : ck i n = true) : vp_in i n := by
  unfold ck at h
  simp only [Bool.not_eq_true', Bool.or_eq_false_iff, decide_eq_false_iff_not] at h
  exact fun q => q.elim h.1 h.2
section MB
variable {ct : Nat → ClassId} {ad : Nat → Nat} {M : MM} {kk nn ci j : Nat}
theorem cE_i : cE ct ad M kk (0, nn) = .inl (ct 0, nn, .inl (M.1 kk)) := by simp [cE]
theorem cE_l : cE ct ad M kk (1, nn) = .inl (ct 1, nn, .inr (.inl (M.2.1 kk))) := by simp [cE]
theorem cE_z : cE ct ad M kk (2, nn) = .inl (ct 2, nn, .inl (M.1 kk)) := by simp [cE]
theorem cE_q : cE ct ad M kk (3, nn) = .inl (ct 3, nn, .inr (.inr (.inr (.inr (fun i => (M.2.2 kk i).map ad))))) := by simp [cE]
theorem cE_a : cE ct ad M kk (4, nn) = .inl (ct 4, nn, .inr (.inr (.inr (.inr (fun i => (M.2.2 kk i).map ad))))) := by simp [cE]
theorem cF_len : (cF ad M kk ci).length = nF ci := by simp [cF]
theorem cF_I (h : j < nF ci) (hr : fR ci j = false) : (cF ad M kk ci)[j]? = some (.int (M.1 kk j)) := by
  simp [cF, h, hr]
theorem cF_R (h : j < nF ci) (hr : fR ci j = true) : (cF ad M kk ci)[j]? = some (cV ad (va_rf (M.2.2 kk j))) := by
  rw [← cV_rf]
  simp [cF, h, hr]
theorem cF_setI {x : Int32} (hr : fR ci j = false) : cF ad (wI M kk (upd (M.1 kk) j x)) kk ci = (cF ad M kk ci).set j (.int x) := by
  apply List.ext_getElem?
  intro i
  rw [List.getElem?_set]
  by_cases hi : j = i
  · subst hi
    rw [if_pos rfl, cF_len]
    by_cases hl : j < nF ci
    · rw [if_pos hl, cF_I hl hr]
      simp [wI, ur, upd]
    · rw [if_neg hl, List.getElem?_eq_none (by rw [cF_len]; omega)]
  · rw [if_neg hi]
    have hi' : ¬ i = j := fun q => hi q.symm
    simp only [cF, wI, ur_s, List.getElem?_map]
    by_cases hl : i < nF ci
    · simp [hl, upd, hi']
    · simp [hl]
theorem cF_setR {r : Option Nat} (hr : fR ci j = true) : cF ad (wR M kk (va_up (M.2.2 kk) j r)) kk ci = (cF ad M kk ci).set j (cV ad (va_rf r)) := by
  rw [← cV_rf]
  apply List.ext_getElem?
  intro i
  rw [List.getElem?_set]
  by_cases hi : j = i
  · subst hi
    rw [if_pos rfl, cF_len]
    by_cases hl : j < nF ci
    · rw [if_pos hl]
      simp [cF, hl, hr, wR, ur, va_up]
    · rw [if_neg hl, List.getElem?_eq_none (by rw [cF_len]; omega)]
  · rw [if_neg hi]
    have hi' : ¬ i = j := fun q => hi q.symm
    simp only [cF, wR, ur_s, List.getElem?_map]
    by_cases hl : i < nF ci
    · simp [hl, va_up, hi']
    · simp [hl]
end MB
theorem narrow_rf {ty : FieldType} {r : Option Nat} : narrow ty (va_rf r) = va_rf r := by cases r <;> cases ty <;> rfl
section MM
variable {ρ : Type} {em : EM ρ} {b : Bool} {d k n : Nat} {Y : YD} {sh : Sh} {R : RR} {m : MI} {pc : Nat} {ls : List (Nat × Value)} {st : List Value} {f : Option ρ}
variable {ci j idx kk nn : Nat} {q : vw_C}
theorem S_read {st' : List Value} {pc' : Nat}
    (h : ∀ {p : Program} {l : Launch} {e : Env} {R0 : Room} {s : State} {m0 : MethodId} {args : Array Value} {below : List Frame} {meth : Method} {c : Code} {H : Heap} {locs : List Loc} {cells slots : Nat} {Q' : State → Prop} {larr : Array Slot} {E : EV} {ad : Nat → Nat} {A : Nat → Prop},
      Cx Y E ad A p s m0 args meth c → Wd E ad sh (mk m R) A H → va_S A s.heap H locs → W p l e R0 s m0 args below meth c H locs cells slots Q' (F0 m0 pc' larr (st'.map (cV ad))) → W p l e R0 s m0 args below meth c H locs cells slots Q' (F0 m0 pc larr (st.map (cV ad))))
    (g : S em b d k n Y sh R m pc' ls st' f) : S em b d k n Y sh R m pc ls st f := fun r hr => G_read h (g r hr)
theorem S_mem {st' : List Value} {pc' : Nat} {R' : RR} {m' : MI}
    (h : ∀ {p : Program} {l : Launch} {e : Env} {R0 : Room} {s : State} {m0 : MethodId} {args : Array Value} {below : List Frame} {meth : Method} {c : Code} {H : Heap} {locs : List Loc} {cells slots : Nat} {Q' : State → Prop} {larr : Array Slot} {E : EV} {ad : Nat → Nat} {A : Nat → Prop},
      Cx Y E ad A p s m0 args meth c → Wd E ad sh (mk m R) A H → va_S A s.heap H locs → larr.size = Y.2.2.1 → R0.frames = d → R0.locals = 64 * d → (∀ (H1 : Heap) (locs1 : List Loc), Wd E ad sh (mk m' R') A H1 → va_S A s.heap H1 locs1 → W p l e R0 s m0 args below meth c H1 locs1 cells slots Q' (F0 m0 pc' larr (st'.map (cV ad)))) → W p l e R0 s m0 args below meth c H locs cells slots Q' (F0 m0 pc larr (st.map (cV ad))))
    (g : S em b d k n Y sh R' m' pc' ls st' f) : S em b d k n Y sh R m pc ls st f := fun r hr => G_mem h (g r hr)
/-- a store, as the kit's rows give it back -/
theorem Wd_set {E : EV} {ad : Nat → Nat} {A : Nat → Prop} {M M' : MM} {H1 : Heap} {s : Nat × Nat} {e : va_E} (h : sh[kk]? = some s) (h1 : ∀ k', k' ≠ kk → M'.1 k' = M.1 k' ∧ M'.2.1 k' = M.2.1 k' ∧ M'.2.2 k' = M.2.2 k') (h2 : cE E.2 ad M' kk s = e) (hP : va_P E.1 cls8 ((cW E.2 ad sh M).set kk (ad kk, e)) H1) (hD : va_D A ((cW E.2 ad sh M).set kk (ad kk, e))) : Wd E ad sh M' A H1 := by
  rw [cW_set h h1 h2] at hP hD
  exact ⟨hP, hD⟩
theorem o_getI (hd : decode Y.2.1 pc = .ok (.getfield idx, 3)) (hs : sh[kk]? = some (10 + ci, nn)) (hc : cls8[ci]? = some q) (hj : j < q.2.2) (hw : Cond.fieldLink Y.1.cls idx (q.2.1 j).1 (q.2.1 j).2.1 (q.2.1 j).2.2.1 ∈ tW) (hr : fR ci j = false)
    (g : S em b d k n Y sh R m (pc + 3) ls (.int (m.1 kk j) :: st) f) : S em b d k n Y sh R m pc ls (.ref kk :: st) f :=
  S_read (fun {p l e R0 s m0 args below meth c H locs cells slots Q' larr E ad A} hC hW hS kx => va_get (ref := (q.2.1 j).1) (C := q.1) (T := q.2.1) (N := q.2.2) hC.1 hC.2.1 hC.2.2.2.2.1 (in8 hc) hC.2.2.2.1 hC.2.2.2.2.2.2.2.2.1 hW.1 kk (by rw [cW_get hs, cE_obj]) hc j hj (hC.2.2.2.2.1 _ hw) (fun _ h => h) (cF_I (by rw [nF8 hc]; exact hj) hr) hd kx) g
theorem o_getR (hd : decode Y.2.1 pc = .ok (.getfield idx, 3)) (hs : sh[kk]? = some (10 + ci, nn)) (hc : cls8[ci]? = some q) (hj : j < q.2.2) (hw : Cond.fieldLink Y.1.cls idx (q.2.1 j).1 (q.2.1 j).2.1 (q.2.1 j).2.2.1 ∈ tW) (hr : fR ci j = true) {r : Option Nat} (hv : R kk j = r)
    (g : S em b d k n Y sh R m (pc + 3) ls (va_rf r :: st) f) : S em b d k n Y sh R m pc ls (.ref kk :: st) f :=
  S_read (fun {p l e R0 s m0 args below meth c H locs cells slots Q' larr E ad A} hC hW hS kx => va_get (ref := (q.2.1 j).1) (C := q.1) (T := q.2.1) (N := q.2.2) hC.1 hC.2.1 hC.2.2.2.2.1 (in8 hc) hC.2.2.2.1 hC.2.2.2.2.2.2.2.2.1 hW.1 kk (by rw [cW_get hs, cE_obj]) hc j hj (hC.2.2.2.2.1 _ hw) (fun _ h => h) (cF_R (M := mk m R) (by rw [nF8 hc]; exact hj) hr) hd (by rw [show (mk m R).2.2 kk j = r from hv]; exact kx)) g
theorem o_putI {x : Int32} {ty : FieldType} (hd : decode Y.2.1 pc = .ok (.putfield idx, 3)) (hs : sh[kk]? = some (10 + ci, nn)) (hc : cls8[ci]? = some q) (hj : j < q.2.2) (hw : Cond.fieldLink Y.1.cls idx (q.2.1 j).1 (q.2.1 j).2.1 (q.2.1 j).2.2.1 ∈ tW) (hr : fR ci j = false)
    (hfin : (q.2.1 j).2.2.2 = false) (ht : ty8 ci j = ty) (hn : narrow ty (.int x) = .int x) (hfit : fits ty (.int x) = true)
    (g : S em b d k n Y sh R (mI m kk (upd (m.1 kk) j x)) (pc + 3) ls st f) : S em b d k n Y sh R m pc ls (.int x :: .ref kk :: st) f :=
  S_mem (fun {p l e R0 s m0 args below meth c H locs cells slots Q' larr E ad A} hC hW hS _ _ _ kx => va_put (ref := (q.2.1 j).1) (C := q.1) (T := q.2.1) (N := q.2.2) hC.1 hC.2.1 hC.2.2.2.2.1 (in8 hc) (ty8 ci) (ty8_ok hc) (nm8 hc) hC.2.2.2.1 hC.2.2.2.2.2.2.2.2.1 hW.1 hW.2 hS kk (by rw [cW_get hs, cE_obj]) hc j hj (hC.2.2.2.2.1 _ hw) (fun _ h => h) hfin (ht ▸ ty8_ok hc j hj) hn hfit (by rw [cF_len, nF8 hc]; exact hj) hd
    (fun H1 locs1 hP hD hS1 => kx H1 locs1 (Wd_set hs (M' := wI (mk m R) kk (upd (m.1 kk) j x)) wI_off (by rw [cE_obj]; exact congrArg _ (congrArg _ (cF_setI (M := mk m R) hr))) hP hD) hS1)) g
theorem o_putIF {x : Int32} {ty : FieldType} (hd : decode Y.2.1 pc = .ok (.putfield idx, 3)) (hs : sh[kk]? = some (10 + ci, nn)) (hc : cls8[ci]? = some q) (hj : j < q.2.2) (hw : Cond.fieldLink Y.1.cls idx (q.2.1 j).1 (q.2.1 j).2.1 (q.2.1 j).2.2.1 ∈ tW) (hr : fR ci j = false)
    (hfin : (q.2.1 j).2.2.2 = true) (hnm : Y.1.name = "<init>") (hdc : (q.2.1 j).1 = Y.1.cls) (ht : ty8 ci j = ty) (hn : narrow ty (.int x) = .int x) (hfit : fits ty (.int x) = true)
    (g : S em b d k n Y sh R (mI m kk (upd (m.1 kk) j x)) (pc + 3) ls st f) : S em b d k n Y sh R m pc ls (.int x :: .ref kk :: st) f :=
  S_mem (fun {p l e R0 s m0 args below meth c H locs cells slots Q' larr E ad A} hC hW hS _ _ _ kx => va_putF (ref := (q.2.1 j).1) (C := q.1) (T := q.2.1) (N := q.2.2) hC.1 hC.2.1 hC.2.2.2.2.1 (in8 hc) (ty8 ci) (ty8_ok hc) (nm8 hc) hC.2.2.2.1 hC.2.2.2.2.2.2.2.2.1 hW.1 hW.2 hS kk (by rw [cW_get hs, cE_obj]) hc j hj (hC.2.2.2.2.1 _ hw) (fun _ h => h) hfin (hC.2.2.2.2.2.2.2.1.trans hnm) hdc (ht ▸ ty8_ok hc j hj) hn hfit (by rw [cF_len, nF8 hc]; exact hj) hd
    (fun H1 locs1 hP hD hS1 => kx H1 locs1 (Wd_set hs (M' := wI (mk m R) kk (upd (m.1 kk) j x)) wI_off (by rw [cE_obj]; exact congrArg _ (congrArg _ (cF_setI (M := mk m R) hr))) hP hD) hS1)) g
theorem o_putR {r : Option Nat} {ty : FieldType} (hd : decode Y.2.1 pc = .ok (.putfield idx, 3)) (hs : sh[kk]? = some (10 + ci, nn)) (hc : cls8[ci]? = some q) (hj : j < q.2.2) (hw : Cond.fieldLink Y.1.cls idx (q.2.1 j).1 (q.2.1 j).2.1 (q.2.1 j).2.2.1 ∈ tW) (hr : fR ci j = true)
    (hfin : (q.2.1 j).2.2.2 = false) (ht : ty8 ci j = ty) (hfit : ∀ a, fits ty (va_rf a) = true)
    (g : S em b d k n Y sh (ur R kk (va_up (R kk) j r)) m (pc + 3) ls st f) : S em b d k n Y sh R m pc ls (va_rf r :: .ref kk :: st) f :=
  S_mem (fun {p l e R0 s m0 args below meth c H locs cells slots Q' larr E ad A} hC hW hS _ _ _ kx => va_put (v := cV ad (va_rf r)) (ref := (q.2.1 j).1) (C := q.1) (T := q.2.1) (N := q.2.2) hC.1 hC.2.1 hC.2.2.2.2.1 (in8 hc) (ty8 ci) (ty8_ok hc) (nm8 hc) hC.2.2.2.1 hC.2.2.2.2.2.2.2.2.1 hW.1 hW.2 hS kk (by rw [cW_get hs, cE_obj]) hc j hj (hC.2.2.2.2.1 _ hw) (fun _ h => h) hfin (ht ▸ ty8_ok hc j hj) (by rw [← cV_rf]; exact narrow_rf) (by rw [← cV_rf]; exact hfit _) (by rw [cF_len, nF8 hc]; exact hj) hd
    (fun H1 locs1 hP hD hS1 => kx H1 locs1 (Wd_set hs (M' := wR (mk m R) kk (va_up (R kk) j r)) wR_off (by rw [cE_obj, ← cF_setR hr]) hP hD) hS1)) g
theorem o_putRF {r : Option Nat} {ty : FieldType} (hd : decode Y.2.1 pc = .ok (.putfield idx, 3)) (hs : sh[kk]? = some (10 + ci, nn)) (hc : cls8[ci]? = some q) (hj : j < q.2.2) (hw : Cond.fieldLink Y.1.cls idx (q.2.1 j).1 (q.2.1 j).2.1 (q.2.1 j).2.2.1 ∈ tW) (hr : fR ci j = true)
    (hfin : (q.2.1 j).2.2.2 = true) (hnm : Y.1.name = "<init>") (hdc : (q.2.1 j).1 = Y.1.cls) (ht : ty8 ci j = ty) (hfit : ∀ a, fits ty (va_rf a) = true)
    (g : S em b d k n Y sh (ur R kk (va_up (R kk) j r)) m (pc + 3) ls st f) : S em b d k n Y sh R m pc ls (va_rf r :: .ref kk :: st) f :=
  S_mem (fun {p l e R0 s m0 args below meth c H locs cells slots Q' larr E ad A} hC hW hS _ _ _ kx => va_putF (v := cV ad (va_rf r)) (ref := (q.2.1 j).1) (C := q.1) (T := q.2.1) (N := q.2.2) hC.1 hC.2.1 hC.2.2.2.2.1 (in8 hc) (ty8 ci) (ty8_ok hc) (nm8 hc) hC.2.2.2.1 hC.2.2.2.2.2.2.2.2.1 hW.1 hW.2 hS kk (by rw [cW_get hs, cE_obj]) hc j hj (hC.2.2.2.2.1 _ hw) (fun _ h => h) hfin (hC.2.2.2.2.2.2.2.1.trans hnm) hdc (ht ▸ ty8_ok hc j hj) (by rw [← cV_rf]; exact narrow_rf) (by rw [← cV_rf]; exact hfit _) (by rw [cF_len, nF8 hc]; exact hj) hd
    (fun H1 locs1 hP hD hS1 => kx H1 locs1 (Wd_set hs (M' := wR (mk m R) kk (va_up (R kk) j r)) wR_off (by rw [cE_obj, ← cF_setR hr]) hP hD) hS1)) g
theorem o_iald {i : Int32} (hd : decode Y.2.1 pc = .ok (.iaload, 1)) (hs : sh[kk]? = some (0, nn)) (hi : vp_in i nn)
    (g : S em b d k n Y sh R m (pc + 1) ls (.int (m.1 kk i.toNatClampNeg) :: st) f) : S em b d k n Y sh R m pc ls (.int i :: .ref kk :: st) f :=
  S_read (fun hC hW hS kx => va_iald hC.1 hC.2.1 hC.2.2.2.2.2.2.2.2.1 hW.1 kk 0 (by rw [cW_get hs, cE_i]) rfl hi hd kx) g
theorem o_zald {i : Int32} (hd : decode Y.2.1 pc = .ok (.baload, 1)) (hs : sh[kk]? = some (2, nn)) (hi : vp_in i nn)
    (g : S em b d k n Y sh R m (pc + 1) ls (.int (m.1 kk i.toNatClampNeg) :: st) f) : S em b d k n Y sh R m pc ls (.int i :: .ref kk :: st) f :=
  S_read (fun hC hW hS kx => va_zald hC.1 hC.2.1 hC.2.2.2.2.2.2.2.2.1 hW.1 kk 2 (by rw [cW_get hs, cE_z]) rfl hi hd kx) g
theorem o_lald {i : Int32} (hd : decode Y.2.1 pc = .ok (.laload, 1)) (hs : sh[kk]? = some (1, nn)) (hi : vp_in i nn)
    (g : S em b d k n Y sh R m (pc + 1) ls (.long (m.2 kk i.toNatClampNeg) :: st) f) : S em b d k n Y sh R m pc ls (.int i :: .ref kk :: st) f :=
  S_read (fun hC hW hS kx => va_lald hC.1 hC.2.1 hC.2.2.2.2.2.2.2.2.1 hW.1 kk 1 (by rw [cW_get hs, cE_l]) rfl hi hd kx) g
/-- a reference out of an array of references, whatever they point to -/
theorem va_aldg {p : Program} {l : Launch} {e : Env} {R : Room} {s : State} {m : MethodId} {args : Array Value} {below : List Frame} {meth : Method} {c : Code} {H : Heap} {locs : List Loc} {cells slots : Nat} {Q : State → Prop} {cc : ByteArray} {pc : Nat} {ls : Array Slot} {rest : List Value} {D : va_G} {cl : List vw_C} {a : Nat} {tys : List (ClassId × FieldType)} {ws : va_W}
    (hexec : p.tables.exec = Jvm.exec) (hb : c.code = cc) (hK : va_K D cl tys s) (hP : va_P D cl ws H) (q0 t0 : Nat) {cA : ClassId} {ty : FieldType} {n : Nat} {f : Nat → Option Nat} (ha : ws[q0]? = some (a, .inl (cA, n, .inr (.inr (.inr (.inr f)))))) (ht : tys[t0]? = some (cA, ty)) (hty : ty.isReference = true) {i : Int32} (hin : vp_in i n) (hdg : decode cc pc = .ok (.aaload, 1))
    (kk : W p l e R s m args below meth c H locs cells slots Q (F0 m (pc + 1) ls (va_rf (f i.toNatClampNeg) :: rest))) : W p l e R s m args below meth c H locs cells slots Q (F0 m pc ls (.int i :: .ref a :: rest)) := by
  have hlt : i.toNatClampNeg < n := Nat.not_le.mp fun q => hin (Or.inr q)
  exact W.aald (v := va_rf (f i.toNatClampNeg)) (ty := ty) hexec hb (hP q0 _ ha) ((hK.2 t0 _ ht).1 n (fun j => va_rf (f j))) hty (fun q => by cases q) (by show ¬ (i < 0 ∨ (arrV _ _ _).slots.size ≤ _); rw [arrV_size]; exact hin) (by show (arrV _ _ _).slots[_]? = _; rw [arrV_read _ _ hlt]) rfl rfl hdg kk
theorem o_aald {i : Int32} {r : Option Nat} (hd : decode Y.2.1 pc = .ok (.aaload, 1)) (hs : sh[kk]? = some (3, nn)) (hi : vp_in i nn) (hv : R kk i.toNatClampNeg = r)
    (g : S em b d k n Y sh R m (pc + 1) ls (va_rf r :: st) f) : S em b d k n Y sh R m pc ls (.int i :: .ref kk :: st) f :=
  S_read (fun {p l e R0 s m0 args below meth c H locs cells slots Q' larr E ad A} hC hW hS kx => va_aldg hC.1 hC.2.1 hC.2.2.2.2.2.2.2.2.1 hW.1 kk 3 (by rw [cW_get hs, cE_q]) rfl rfl hi hd (by
    rw [show va_rf (((mk m R).2.2 kk i.toNatClampNeg).map ad) = cV ad (va_rf r) from by rw [← hv]; exact cV_rf]
    exact kx)) g
theorem o_aaldI {i : Int32} {r : Option Nat} (hd : decode Y.2.1 pc = .ok (.aaload, 1)) (hs : sh[kk]? = some (4, nn)) (hi : vp_in i nn) (hv : R kk i.toNatClampNeg = r)
    (g : S em b d k n Y sh R m (pc + 1) ls (va_rf r :: st) f) : S em b d k n Y sh R m pc ls (.int i :: .ref kk :: st) f :=
  S_read (fun {p l e R0 s m0 args below meth c H locs cells slots Q' larr E ad A} hC hW hS kx => va_aldg hC.1 hC.2.1 hC.2.2.2.2.2.2.2.2.1 hW.1 kk 4 (by rw [cW_get hs, cE_a]) rfl rfl hi hd (by
    rw [show va_rf (((mk m R).2.2 kk i.toNatClampNeg).map ad) = cV ad (va_rf r) from by rw [← hv]; exact cV_rf]
    exact kx)) g
theorem o_alenI (hd : decode Y.2.1 pc = .ok (.arraylength, 1)) (hs : sh[kk]? = some (0, nn)) {v : Int32} (hv : Int32.ofNat nn = v)
    (g : S em b d k n Y sh R m (pc + 1) ls (.int v :: st) f) : S em b d k n Y sh R m pc ls (.ref kk :: st) f :=
  S_read (fun hC hW hS kx => va_alen hC.1 hC.2.1 hC.2.2.2.2.2.2.2.2.1 hW.1 kk 0 (by rw [cW_get hs, cE_i]) (ty := .int) rfl hv hd kx) g
theorem o_alenL (hd : decode Y.2.1 pc = .ok (.arraylength, 1)) (hs : sh[kk]? = some (1, nn)) {v : Int32} (hv : Int32.ofNat nn = v)
    (g : S em b d k n Y sh R m (pc + 1) ls (.int v :: st) f) : S em b d k n Y sh R m pc ls (.ref kk :: st) f :=
  S_read (fun hC hW hS kx => va_alen hC.1 hC.2.1 hC.2.2.2.2.2.2.2.2.1 hW.1 kk 1 (by rw [cW_get hs, cE_l]) (ty := .long) rfl hv hd kx) g
theorem o_iast {i x : Int32} (hd : decode Y.2.1 pc = .ok (.iastore, 1)) (hs : sh[kk]? = some (0, nn)) (hi : vp_in i nn)
    (g : S em b d k n Y sh R (mI m kk (upd (m.1 kk) i.toNatClampNeg x)) (pc + 1) ls st f) : S em b d k n Y sh R m pc ls (.int x :: .int i :: .ref kk :: st) f :=
  S_mem (fun {p l e R0 s m0 args below meth c H locs cells slots Q' larr E ad A} hC hW hS _ _ _ kx => va_iast hC.1 hC.2.1 hC.2.2.2.2.2.2.2.2.1 hW.1 hW.2 hS kk 0 (by rw [cW_get hs, cE_i]) rfl hi hd (fun H1 locs1 hP hD hS1 => kx H1 locs1 (Wd_set hs (M' := wI (mk m R) kk (upd (m.1 kk) i.toNatClampNeg x)) wI_off (by rw [cE_i]; simp only [wI, ur_s]) hP hD) hS1)) g
theorem o_zast {i x : Int32} (hd : decode Y.2.1 pc = .ok (.bastore, 1)) (hs : sh[kk]? = some (2, nn)) (hi : vp_in i nn)
    (g : S em b d k n Y sh R (mI m kk (upd (m.1 kk) i.toNatClampNeg (vp_nar .boolean x))) (pc + 1) ls st f) : S em b d k n Y sh R m pc ls (.int x :: .int i :: .ref kk :: st) f :=
  S_mem (fun {p l e R0 s m0 args below meth c H locs cells slots Q' larr E ad A} hC hW hS _ _ _ kx => va_zast hC.1 hC.2.1 hC.2.2.2.2.2.2.2.2.1 hW.1 hW.2 hS kk 2 (by rw [cW_get hs, cE_z]) rfl hi hd (fun H1 locs1 hP hD hS1 => kx H1 locs1 (Wd_set hs (M' := wI (mk m R) kk (upd (m.1 kk) i.toNatClampNeg (vp_nar .boolean x))) wI_off (by rw [cE_z]; simp only [wI, ur_s]) hP hD) hS1)) g
theorem o_last {i : Int32} {x : Int64} (hd : decode Y.2.1 pc = .ok (.lastore, 1)) (hs : sh[kk]? = some (1, nn)) (hi : vp_in i nn)
    (g : S em b d k n Y sh R (mJ m kk (vp_updL (m.2 kk) i.toNatClampNeg x)) (pc + 1) ls st f) : S em b d k n Y sh R m pc ls (.long x :: .int i :: .ref kk :: st) f :=
  S_mem (fun {p l e R0 s m0 args below meth c H locs cells slots Q' larr E ad A} hC hW hS _ _ _ kx => va_last hC.1 hC.2.1 hC.2.2.2.2.2.2.2.2.1 hW.1 hW.2 hS kk 1 (by rw [cW_get hs, cE_l]) rfl hi hd (fun H1 locs1 hP hD hS1 => kx H1 locs1 (Wd_set hs (M' := wJ (mk m R) kk (vp_updL (m.2 kk) i.toNatClampNeg x)) wJ_off (by rw [cE_l]; simp only [wJ, ur_s]) hP hD) hS1)) g
/-- System.arraycopy over int[] -/
theorem o_copyi {k0 n0 : Nat} {sp dp c : Int32} (hd : decode Y.2.1 pc = .ok (.invokestatic idx, 3)) (hw : Cond.methodLink Y.1.cls idx arraycopyName ∈ tW) (hw1 : Cond.native arraycopyName ∈ tW) (hw2 : Cond.static arraycopyName ∈ tW) (hw3 : Cond.initialized "java/lang/System" ∈ tW)
    (hs0 : sh[k0]? = some (0, n0)) (hs : sh[kk]? = some (0, nn)) (h1 : ¬ sp < 0) (h2 : ¬ dp < 0) (h3 : ¬ c < 0) (h4 : sp.toNatClampNeg + c.toNatClampNeg ≤ n0) (h5 : dp.toNatClampNeg + c.toNatClampNeg ≤ nn) (hd1 : 1 ≤ d) (hcat : (st.map fun v => v.category).sum ≤ 8) (hl : 8 + (nativeFrameWords "java/lang/System" "arraycopy" 5 + 11) ≤ 64)
    (g : S em b d k n Y sh R (mI m kk (va_cpy (m.1 k0) (m.1 kk) sp.toNatClampNeg dp.toNatClampNeg c.toNatClampNeg)) (pc + 3) ls st f) : S em b d k n Y sh R m pc ls (.int c :: .int dp :: .ref kk :: .int sp :: .ref k0 :: st) f :=
  S_mem (fun {p l e R0 s m0 args below meth cx H locs cells slots Q' larr E ad A} hC hW hS hsz hRf hRl kx => va_copyi hC.1 hC.2.1 (hC.2.2.1.trans hsz.symm) hC.2.2.2.1 (hC.2.2.2.2.1 _ hw) (hC.2.2.2.2.1 _ hw1) (hC.2.2.2.2.1 _ hw2) (hC.2.2.2.2.1 _ hw3) hC.2.2.2.2.2.2.2.2.1 hW.1 hW.2 hS k0 kk 0 0 (by rw [cW_get hs0, cE_i]) (by rw [cW_get hs, cE_i]) rfl rfl rfl h1 h2 h3 h4 h5 (fun _ _ => rfl) (by rw [hRf]; exact hd1) (by rw [hRl, List.map_map]; simp only [Function.comp_def, cV_cat]; omega) hd
    (fun H1 locs1 hP hD hS1 => kx H1 locs1 (Wd_set hs (M' := wI (mk m R) kk (va_cpy (m.1 k0) (m.1 kk) sp.toNatClampNeg dp.toNatClampNeg c.toNatClampNeg)) wI_off (by rw [cE_i]; simp only [wI, ur_s]) hP hD) hS1)) g
/-- System.arraycopy over long[] -/
theorem o_copyl {k0 n0 : Nat} {sp dp c : Int32} (hd : decode Y.2.1 pc = .ok (.invokestatic idx, 3)) (hw : Cond.methodLink Y.1.cls idx arraycopyName ∈ tW) (hw1 : Cond.native arraycopyName ∈ tW) (hw2 : Cond.static arraycopyName ∈ tW) (hw3 : Cond.initialized "java/lang/System" ∈ tW)
    (hs0 : sh[k0]? = some (1, n0)) (hs : sh[kk]? = some (1, nn)) (h1 : ¬ sp < 0) (h2 : ¬ dp < 0) (h3 : ¬ c < 0) (h4 : sp.toNatClampNeg + c.toNatClampNeg ≤ n0) (h5 : dp.toNatClampNeg + c.toNatClampNeg ≤ nn) (hd1 : 1 ≤ d) (hcat : (st.map fun v => v.category).sum ≤ 8) (hl : 8 + (nativeFrameWords "java/lang/System" "arraycopy" 5 + 11) ≤ 64)
    (g : S em b d k n Y sh R (mJ m kk (va_cpy (m.2 k0) (m.2 kk) sp.toNatClampNeg dp.toNatClampNeg c.toNatClampNeg)) (pc + 3) ls st f) : S em b d k n Y sh R m pc ls (.int c :: .int dp :: .ref kk :: .int sp :: .ref k0 :: st) f :=
  S_mem (fun {p l e R0 s m0 args below meth cx H locs cells slots Q' larr E ad A} hC hW hS hsz hRf hRl kx => va_copyl hC.1 hC.2.1 (hC.2.2.1.trans hsz.symm) hC.2.2.2.1 (hC.2.2.2.2.1 _ hw) (hC.2.2.2.2.1 _ hw1) (hC.2.2.2.2.1 _ hw2) (hC.2.2.2.2.1 _ hw3) hC.2.2.2.2.2.2.2.2.1 hW.1 hW.2 hS k0 kk 1 1 (by rw [cW_get hs0, cE_l]) (by rw [cW_get hs, cE_l]) rfl rfl rfl h1 h2 h3 h4 h5 (fun _ _ => rfl) (by rw [hRf]; exact hd1) (by rw [hRl, List.map_map]; simp only [Function.comp_def, cV_cat]; omega) hd
    (fun H1 locs1 hP hD hS1 => kx H1 locs1 (Wd_set hs (M' := wJ (mk m R) kk (va_cpy (m.2 k0) (m.2 kk) sp.toNatClampNeg dp.toNatClampNeg c.toNatClampNeg)) wJ_off (by rw [cE_l]; simp only [wJ, ur_s]) hP hD) hS1)) g
/-- the two tables -/
theorem o_getsA (hd : decode Y.2.1 pc = .ok (.getstatic idx, 3)) (hw : Cond.fieldLink Y.1.cls idx RX6 "ABOVE" "[I" ∈ tW) (g : S em b d k n Y sh R m (pc + 3) ls (.ref 1000 :: st) f) : S em b d k n Y sh R m pc ls st f :=
  S_read (fun hC hW hS kx => va_gets (ref := RX6) hC.1 hC.2.1 hC.2.2.2.2.2.2.2.2.2.1.1 hS hC.2.2.2.1 (hC.2.2.2.2.1 _ hw) (fun _ h => h) hd kx) g
theorem o_getsAN (hY : Y.1.cls = RX0) (hd : decode Y.2.1 pc = .ok (.getstatic 44, 3)) (g : S em b d k n Y sh R m (pc + 3) ls (.ref 1000 :: st) f) : S em b d k n Y sh R m pc ls st f :=
  S_read (fun hC hW hS kx => va_getsN (ref := RX6) (own := RX0) (host := RX6) hC.1 hC.2.1 hC.2.2.2.2.2.2.2.2.2.1.1 hS (hY ▸ hC.2.2.2.1) (hC.2.2.2.2.2.2.2.2.2.1.2.2.2.2.2.2.2.2.1.use rfl) (fun _ h => h) hd kx) g
theorem o_getsB (hd : decode Y.2.1 pc = .ok (.getstatic idx, 3)) (hw : Cond.fieldLink Y.1.cls idx RX0 "BODIES" "[I" ∈ tW) (g : S em b d k n Y sh R m (pc + 3) ls (.ref 1001 :: st) f) : S em b d k n Y sh R m pc ls st f :=
  S_read (fun hC hW hS kx => va_gets (ref := RX0) hC.1 hC.2.1 hC.2.2.2.2.2.2.2.2.2.1.2.2.1 hS hC.2.2.2.1 (hC.2.2.2.2.1 _ hw) (fun _ h => h) hd kx) g
theorem o_getsC (hd : decode Y.2.1 pc = .ok (.getstatic idx, 3)) (hw : Cond.fieldLink Y.1.cls idx RJ0 "COMPACT_STRINGS" "Z" ∈ tW) (g : S em b d k n Y sh R m (pc + 3) ls (.int 1 :: st) f) : S em b d k n Y sh R m pc ls st f :=
  S_read (fun hC hW hS kx => va_gets (ref := RJ0) hC.1 hC.2.1 hC.2.2.2.2.2.2.2.2.2.1.2.2.2.2.1 hS hC.2.2.2.1 (hC.2.2.2.2.1 _ hw) (fun _ h => h) hd kx) g
theorem o_tabA {i : Int32} (hd : decode Y.2.1 pc = .ok (.iaload, 1)) (hi : vp_in i 7) (g : S em b d k n Y sh R m (pc + 1) ls (.int (tabA i.toNatClampNeg) :: st) f) : S em b d k n Y sh R m pc ls (.int i :: .ref 1000 :: st) f :=
  S_read (fun hC hW hS kx => va_ti hC.1 hC.2.1 hC.2.2.2.2.2.2.2.2.2.1.2.1 hS hi rfl hd kx) g
theorem o_tabB {i : Int32} (hd : decode Y.2.1 pc = .ok (.iaload, 1)) (hi : vp_in i 21) (g : S em b d k n Y sh R m (pc + 1) ls (.int (tabB i.toNatClampNeg) :: st) f) : S em b d k n Y sh R m pc ls (.int i :: .ref 1001 :: st) f :=
  S_read (fun hC hW hS kx => va_ti hC.1 hC.2.1 hC.2.2.2.2.2.2.2.2.2.1.2.2.2.1 hS hi rfl hd kx) g
/-- Math.max, Math.min -/
theorem o_max {x y : Int32} (hd : decode Y.2.1 pc = .ok (.invokestatic idx, 3)) (hw : Cond.methodLink Y.1.cls idx Lib.Math.max.name ∈ tW) (hw1 : Cond.static Lib.Math.max.name ∈ tW) (hw2 : Cond.initialized "java/lang/Math" ∈ tW) (hw3 : Cond.code Lib.Math.max.name Lib.Math.max.code 2 (some .int) ∈ tW) (hd1 : 1 ≤ d) (hcat : (st.map fun v => v.category).sum ≤ 8)
    (g : S em b d k n Y sh R m (pc + 3) ls (.int (if x < y then y else x) :: st) f) : S em b d k n Y sh R m pc ls (.int y :: .int x :: st) f := fun r hr => by
  intro p l e s m0 args below meth c H locs cells slots E ad0 n0 ad A larr mc ms hC hAg hn hW hS hl hk hs
  exact va_mmax hC.1 hC.2.1 (hC.2.2.1.trans hl.1.symm) hC.2.2.2.1 (hC.2.2.2.2.1 _ hw) (hC.2.2.2.2.1 _ hw1) (hC.2.2.2.2.1 _ hw2) (hC.2.2.2.2.1 _ hw3) hd1 (by rw [List.map_map]; simp only [Function.comp_def, cV_cat]; show _ ≤ 64 * d; omega) (by show cells ≤ mc; omega) (by show slots ≤ ms; omega) hd (g r hr p l e s m0 args below meth c H locs cells slots E ad0 n0 ad A larr mc ms hC hAg hn hW hS hl hk hs)
theorem o_min {x y : Int32} (hd : decode Y.2.1 pc = .ok (.invokestatic idx, 3)) (hw : Cond.methodLink Y.1.cls idx Lib.Math.min.name ∈ tW) (hw1 : Cond.static Lib.Math.min.name ∈ tW) (hw2 : Cond.initialized "java/lang/Math" ∈ tW) (hw3 : Cond.code Lib.Math.min.name Lib.Math.min.code 2 (some .int) ∈ tW) (hd1 : 1 ≤ d) (hcat : (st.map fun v => v.category).sum ≤ 8)
    (g : S em b d k n Y sh R m (pc + 3) ls (.int (if y < x then y else x) :: st) f) : S em b d k n Y sh R m pc ls (.int y :: .int x :: st) f := fun r hr => by
  intro p l e s m0 args below meth c H locs cells slots E ad0 n0 ad A larr mc ms hC hAg hn hW hS hl hk hs
  exact va_mmin hC.1 hC.2.1 (hC.2.2.1.trans hl.1.symm) hC.2.2.2.1 (hC.2.2.2.2.1 _ hw) (hC.2.2.2.2.1 _ hw1) (hC.2.2.2.2.1 _ hw2) (hC.2.2.2.2.1 _ hw3) hd1 (by rw [List.map_map]; simp only [Function.comp_def, cV_cat]; show _ ≤ 64 * d; omega) (by show cells ≤ mc; omega) (by show slots ≤ ms; omega) hd (g r hr p l e s m0 args below meth c H locs cells slots E ad0 n0 ad A larr mc ms hC hAg hn hW hS hl hk hs)
/-- Object() -/
theorem o_objInit (hd : decode Y.2.1 pc = .ok (.invokespecial idx, 3)) (hw : Cond.methodLink Y.1.cls idx Lib.objectInit ∈ tW) (hw1 : Cond.instanceMethod Lib.objectInit ∈ tW) (hw2 : Cond.code Lib.objectInit ⟨#[0xb1]⟩ 1 none ∈ tW) (hd1 : 1 ≤ d) (hcat : (st.map fun v => v.category).sum ≤ 8)
    (g : S em b d k n Y sh R m (pc + 3) ls st f) : S em b d k n Y sh R m pc ls (.ref kk :: st) f := fun r hr => by
  intro p l e s m0 args below meth c H locs cells slots E ad0 n0 ad A larr mc ms hC hAg hn hW hS hl hk hs
  exact W.objInit hC.1 hC.2.1 hC.2.2.2.1 (hC.2.2.2.2.1 _ hw) (hC.2.2.2.2.1 _ hw1) (hC.2.2.2.2.1 _ hw2) (g := F0 m0 pc larr (.ref (ad kk) :: st.map (cV ad))) rfl (hl.1.trans hC.2.2.1.symm) rfl hd hd1 (by show 2 * 0 + _ + 12 ≤ 64 * d; rw [List.map_map]; simp only [Function.comp_def, cV_cat]; omega) (g r hr p l e s m0 args below meth c H locs cells slots E ad0 n0 ad A larr mc ms hC hAg hn hW hS hl hk hs)
end MM
end
section
/-! CALLS AT THE LEVEL OF S: callees that make nothing -/
def CMo (Y2 : YD) (ci np : Nat) : Prop := ∃ q : vw_C, cls8[ci]? = some q ∧ Y2.1.cls = q.1 ∧ Cond.instanceMethod Y2.1 ∈ tW ∧ Cond.selects q.1 Y2.1 Y2.1 ∈ tW ∧ Cond.initialized q.1 ∈ tW ∧ Cond.code Y2.1 Y2.2.1 Y2.2.2.1 Y2.2.2.2 ∈ tW ∧ (Y2.1.cls ≠ "java/lang/invoke/MethodHandle" ∧ Y2.1.cls ≠ "java/lang/invoke/VarHandle" ∧ (parseMethodDescriptor Y2.1.desc).map (fun d => d.parameters.length) = some np) ∧ Y2.2.2.1 ≤ 45
def CSo (Y2 : YD) (np : Nat) : Prop := Cond.static Y2.1 ∈ tW ∧ Cond.initialized Y2.1.cls ∈ tW ∧ Cond.code Y2.1 Y2.2.1 Y2.2.2.1 Y2.2.2.2 ∈ tW ∧ (Y2.1.cls ≠ "java/lang/invoke/MethodHandle" ∧ Y2.1.cls ≠ "java/lang/invoke/VarHandle" ∧ (parseMethodDescriptor Y2.1.desc).map (fun d => d.parameters.length) = some np) ∧ Y2.2.2.1 ≤ 45
section CC
variable {ρ : Type} {em : EM ρ} {b : Bool} {d k n : Nat} {Y : YD} {sh : Sh} {R : RR} {m : MI} {pc : Nat} {ls : List (Nat × Value)} {st : List Value}
variable {ci idx rk nn d2 np : Nat} {Y2 : YD} {av rest : List Value}
theorem S_callV {ρ2 : Type} {em2 : EM ρ2} {g2 : Option ρ2} {ko : ρ2 → Option ρ} (hd : decode Y.2.1 pc = .ok (.invokevirtual idx, 3)) (hlink : Cond.methodLink Y.1.cls idx Y2.1 ∈ tW) (hM : CMo Y2 ci np) (hK : KS em2 false d2 0 0 Y2 sh R m (.ref rk :: av) g2) (hs : sh[rk]? = some (10 + ci, nn)) (hav : av.length = np) (hst : st = av.reverse ++ .ref rk :: rest) (hcat : (rest.map fun v => v.category).sum ≤ 8) (hd2 : d2 + 1 ≤ d)
    (g : ∀ (r : ρ2) (v : Option Value) (sh' : Sh) (M' : MM), (v, sh', M') = em2 r → ∀ r', ko r = some r' → G b d k n Y sh' M' (pc + 3) ls (v.toList ++ rest) (fun v sh' M' => (v, sh', M') = em r')) : S em b d k n Y sh R m pc ls st (g2.bind ko) := by
  intro r hr
  obtain ⟨r2, h1, h2⟩ := Option.bind_eq_some_iff.mp hr
  obtain ⟨q, hc, hq, hinst, hsel, hini, hcode, hx, hml⟩ := hM
  exact G_callV hd (hK r2 h1) hs hc hq hlink hinst hsel hini hcode hx hav hst hcat hd2 hml (Or.inl rfl) (Nat.zero_le _) (Nat.zero_le _) (fun v sh' M' e _ => g r2 v sh' M' e r h2)
theorem S_callS {ρ2 : Type} {em2 : EM ρ2} {g2 : Option ρ2} {ko : ρ2 → Option ρ} (hd : decode Y.2.1 pc = .ok (.invokestatic idx, 3)) (hlink : Cond.methodLink Y.1.cls idx Y2.1 ∈ tW) (hM : CSo Y2 np) (hK : KS em2 false d2 0 0 Y2 sh R m av g2) (hav : av.length = np) (hst : st = av.reverse ++ rest) (hcat : (rest.map fun v => v.category).sum ≤ 8) (hd2 : d2 + 1 ≤ d)
    (g : ∀ (r : ρ2) (v : Option Value) (sh' : Sh) (M' : MM), (v, sh', M') = em2 r → ∀ r', ko r = some r' → G b d k n Y sh' M' (pc + 3) ls (v.toList ++ rest) (fun v sh' M' => (v, sh', M') = em r')) : S em b d k n Y sh R m pc ls st (g2.bind ko) := by
  intro r hr
  obtain ⟨r2, h1, h2⟩ := Option.bind_eq_some_iff.mp hr
  obtain ⟨hstat, hini, hcode, hx, hml⟩ := hM
  exact G_callS hd (hK r2 h1) hlink hstat hini hcode hx hav hst hcat hd2 hml (Or.inl rfl) (Nat.zero_le _) (Nat.zero_le _) (fun v sh' M' e _ => g r2 v sh' M' e r h2)
theorem o_callVI {g2 : Option (Int32 × MI)} {ko : Int32 × MI → Option ρ} (hd : decode Y.2.1 pc = .ok (.invokevirtual idx, 3)) (hlink : Cond.methodLink Y.1.cls idx Y2.1 ∈ tW) (hM : CMo Y2 ci np) (hK : KS (eI sh R) false d2 0 0 Y2 sh R m (.ref rk :: av) g2) (hs : sh[rk]? = some (10 + ci, nn)) (hav : av.length = np) (hst : st = av.reverse ++ .ref rk :: rest) (hcat : (rest.map fun v => v.category).sum ≤ 8) (hd2 : d2 + 1 ≤ d)
    (g : ∀ r : Int32 × MI, S em b d k n Y sh R r.2 (pc + 3) ls (.int r.1 :: rest) (ko r)) : S em b d k n Y sh R m pc ls st (g2.bind ko) :=
  S_callV hd hlink hM hK hs hav hst hcat hd2 (fun r v sh' M' e r' h => by
    simp only [eI, Prod.mk.injEq] at e
    obtain ⟨rfl, rfl, rfl⟩ := e
    exact g r r' h)
theorem o_callSI {g2 : Option (Int32 × MI)} {ko : Int32 × MI → Option ρ} (hd : decode Y.2.1 pc = .ok (.invokestatic idx, 3)) (hlink : Cond.methodLink Y.1.cls idx Y2.1 ∈ tW) (hM : CSo Y2 np) (hK : KS (eI sh R) false d2 0 0 Y2 sh R m av g2) (hav : av.length = np) (hst : st = av.reverse ++ rest) (hcat : (rest.map fun v => v.category).sum ≤ 8) (hd2 : d2 + 1 ≤ d)
    (g : ∀ r : Int32 × MI, S em b d k n Y sh R r.2 (pc + 3) ls (.int r.1 :: rest) (ko r)) : S em b d k n Y sh R m pc ls st (g2.bind ko) :=
  S_callS hd hlink hM hK hav hst hcat hd2 (fun r v sh' M' e r' h => by
    simp only [eI, Prod.mk.injEq] at e
    obtain ⟨rfl, rfl, rfl⟩ := e
    exact g r r' h)
theorem o_callVL {g2 : Option (Int64 × MI)} {ko : Int64 × MI → Option ρ} (hd : decode Y.2.1 pc = .ok (.invokevirtual idx, 3)) (hlink : Cond.methodLink Y.1.cls idx Y2.1 ∈ tW) (hM : CMo Y2 ci np) (hK : KS (eL sh R) false d2 0 0 Y2 sh R m (.ref rk :: av) g2) (hs : sh[rk]? = some (10 + ci, nn)) (hav : av.length = np) (hst : st = av.reverse ++ .ref rk :: rest) (hcat : (rest.map fun v => v.category).sum ≤ 8) (hd2 : d2 + 1 ≤ d)
    (g : ∀ r : Int64 × MI, S em b d k n Y sh R r.2 (pc + 3) ls (.long r.1 :: rest) (ko r)) : S em b d k n Y sh R m pc ls st (g2.bind ko) :=
  S_callV hd hlink hM hK hs hav hst hcat hd2 (fun r v sh' M' e r' h => by
    simp only [eL, Prod.mk.injEq] at e
    obtain ⟨rfl, rfl, rfl⟩ := e
    exact g r r' h)
theorem o_callSL {g2 : Option (Int64 × MI)} {ko : Int64 × MI → Option ρ} (hd : decode Y.2.1 pc = .ok (.invokestatic idx, 3)) (hlink : Cond.methodLink Y.1.cls idx Y2.1 ∈ tW) (hM : CSo Y2 np) (hK : KS (eL sh R) false d2 0 0 Y2 sh R m av g2) (hav : av.length = np) (hst : st = av.reverse ++ rest) (hcat : (rest.map fun v => v.category).sum ≤ 8) (hd2 : d2 + 1 ≤ d)
    (g : ∀ r : Int64 × MI, S em b d k n Y sh R r.2 (pc + 3) ls (.long r.1 :: rest) (ko r)) : S em b d k n Y sh R m pc ls st (g2.bind ko) :=
  S_callS hd hlink hM hK hav hst hcat hd2 (fun r v sh' M' e r' h => by
    simp only [eL, Prod.mk.injEq] at e
    obtain ⟨rfl, rfl, rfl⟩ := e
    exact g r r' h)
theorem o_callVV {g2 : Option (MI)} {ko : MI → Option ρ} (hd : decode Y.2.1 pc = .ok (.invokevirtual idx, 3)) (hlink : Cond.methodLink Y.1.cls idx Y2.1 ∈ tW) (hM : CMo Y2 ci np) (hK : KS (eV sh R) false d2 0 0 Y2 sh R m (.ref rk :: av) g2) (hs : sh[rk]? = some (10 + ci, nn)) (hav : av.length = np) (hst : st = av.reverse ++ .ref rk :: rest) (hcat : (rest.map fun v => v.category).sum ≤ 8) (hd2 : d2 + 1 ≤ d)
    (g : ∀ r : MI, S em b d k n Y sh R r (pc + 3) ls (rest) (ko r)) : S em b d k n Y sh R m pc ls st (g2.bind ko) :=
  S_callV hd hlink hM hK hs hav hst hcat hd2 (fun r v sh' M' e r' h => by
    simp only [eV, Prod.mk.injEq] at e
    obtain ⟨rfl, rfl, rfl⟩ := e
    exact g r r' h)
theorem o_callSV {g2 : Option (MI)} {ko : MI → Option ρ} (hd : decode Y.2.1 pc = .ok (.invokestatic idx, 3)) (hlink : Cond.methodLink Y.1.cls idx Y2.1 ∈ tW) (hM : CSo Y2 np) (hK : KS (eV sh R) false d2 0 0 Y2 sh R m av g2) (hav : av.length = np) (hst : st = av.reverse ++ rest) (hcat : (rest.map fun v => v.category).sum ≤ 8) (hd2 : d2 + 1 ≤ d)
    (g : ∀ r : MI, S em b d k n Y sh R r (pc + 3) ls (rest) (ko r)) : S em b d k n Y sh R m pc ls st (g2.bind ko) :=
  S_callS hd hlink hM hK hav hst hcat hd2 (fun r v sh' M' e r' h => by
    simp only [eV, Prod.mk.injEq] at e
    obtain ⟨rfl, rfl, rfl⟩ := e
    exact g r r' h)
theorem o_callVQ {g2 : Option (Option Nat × MI)} {ko : Option Nat × MI → Option ρ} (hd : decode Y.2.1 pc = .ok (.invokevirtual idx, 3)) (hlink : Cond.methodLink Y.1.cls idx Y2.1 ∈ tW) (hM : CMo Y2 ci np) (hK : KS (eQ sh R) false d2 0 0 Y2 sh R m (.ref rk :: av) g2) (hs : sh[rk]? = some (10 + ci, nn)) (hav : av.length = np) (hst : st = av.reverse ++ .ref rk :: rest) (hcat : (rest.map fun v => v.category).sum ≤ 8) (hd2 : d2 + 1 ≤ d)
    (g : ∀ r : Option Nat × MI, S em b d k n Y sh R r.2 (pc + 3) ls (va_rf r.1 :: rest) (ko r)) : S em b d k n Y sh R m pc ls st (g2.bind ko) :=
  S_callV hd hlink hM hK hs hav hst hcat hd2 (fun r v sh' M' e r' h => by
    simp only [eQ, Prod.mk.injEq] at e
    obtain ⟨rfl, rfl, rfl⟩ := e
    exact g r r' h)
theorem o_callSQ {g2 : Option (Option Nat × MI)} {ko : Option Nat × MI → Option ρ} (hd : decode Y.2.1 pc = .ok (.invokestatic idx, 3)) (hlink : Cond.methodLink Y.1.cls idx Y2.1 ∈ tW) (hM : CSo Y2 np) (hK : KS (eQ sh R) false d2 0 0 Y2 sh R m av g2) (hav : av.length = np) (hst : st = av.reverse ++ rest) (hcat : (rest.map fun v => v.category).sum ≤ 8) (hd2 : d2 + 1 ≤ d)
    (g : ∀ r : Option Nat × MI, S em b d k n Y sh R r.2 (pc + 3) ls (va_rf r.1 :: rest) (ko r)) : S em b d k n Y sh R m pc ls st (g2.bind ko) :=
  S_callS hd hlink hM hK hav hst hcat hd2 (fun r v sh' M' e r' h => by
    simp only [eQ, Prod.mk.injEq] at e
    obtain ⟨rfl, rfl, rfl⟩ := e
    exact g r r' h)
end CC
end
section
/-! WHAT THE PRINTED FUNCTIONS ARE MADE OF -/
def lt {ρ : Type} (e : Int32) (F : Int32 → Option ρ) : Option ρ := F e
def ltl {ρ : Type} (e : Int64) (F : Int64 → Option ρ) : Option ρ := F e
def lm {ρ : Type} (e : MI) (F : MI → Option ρ) : Option ρ := F e
def mn {ρ : Type} (q : Option Nat) (A : Option ρ) (F : Nat → Option ρ) : Option ρ := match q with
  | none => A
  | some a => F a
def mq {ρ : Type} (q : Option Nat) (F : Nat → Option ρ) : Option ρ := match q with
  | none => none
  | some a => F a
def kA (sh : Sh) (g kd : Nat) : Bool := match sh[g]? with
  | some s => s.1 == kd
  | none => false
def lenA (sh : Sh) (g : Nat) : Nat := match sh[g]? with
  | some s => s.2
  | none => 0
theorem kA_ok {sh : Sh} {g kd : Nat} (h : kA sh g kd = true) : sh[g]? = some (kd, lenA sh g) := by
  unfold kA at h
  unfold lenA
  cases hs : sh[g]? with
  | none => rw [hs] at h; cases h
  | some s =>
    rw [hs] at h
    obtain ⟨a, b⟩ := s
    simp only [beq_iff_eq] at h
    rw [h]
def zb (x : Int32) : Bool := decide (x = 0) || decide (x = 1)
theorem zb_ok {x : Int32} (h : zb x = true) : narrow .boolean (.int x) = .int x := by
  unfold zb at h
  simp only [Bool.or_eq_true, decide_eq_true_eq] at h
  rcases h with rfl | rfl <;> rfl
def cb (x : Int32) : Bool := decide ((x.toUInt32 % 65536).toInt32 = x)
theorem cb_ok {x : Int32} (h : cb x = true) : narrow .char (.int x) = .int x := by
  unfold cb at h
  simp only [decide_eq_true_eq] at h
  have e : narrow .char (.int x) = .int (vp_nar .char x) := by simp [vp_nar, narrow]
  rw [e]
  have e2 : vp_nar .char x = (x.toUInt32 % 65536).toInt32 := by rw [vp_nar_char]; rfl
  rw [e2, h]
def bb (x : Int32) : Bool := decide (x.toInt8.toInt32 = x)
theorem bb_ok {x : Int32} (h : bb x = true) : narrow .byte (.int x) = .int x := by
  unfold bb at h
  simp only [decide_eq_true_eq] at h
  rw [narrow_byte, h]
def cpk (sp dp c : Int32) (n0 n1 : Nat) : Bool := !(decide (sp < 0) || decide (dp < 0) || decide (c < 0)) && (decide (sp.toNatClampNeg + c.toNatClampNeg ≤ n0) && decide (dp.toNatClampNeg + c.toNatClampNeg ≤ n1))
theorem cpk_ok {sp dp c : Int32} {n0 n1 : Nat} (h : cpk sp dp c n0 n1 = true) : ¬ sp < 0 ∧ ¬ dp < 0 ∧ ¬ c < 0 ∧ sp.toNatClampNeg + c.toNatClampNeg ≤ n0 ∧ dp.toNatClampNeg + c.toNatClampNeg ≤ n1 := by
  unfold cpk at h
  simp only [Bool.and_eq_true, Bool.not_eq_true', Bool.or_eq_false_iff, decide_eq_false_iff_not, decide_eq_true_eq] at h
  exact ⟨h.1.1.1, h.1.1.2, h.1.2, h.2.1, h.2.2⟩
theorem nfw : 8 + (nativeFrameWords "java/lang/System" "arraycopy" 5 + 11) ≤ 64 := by decide +kernel
section HH
variable {ρ : Type} {em : EM ρ} {b : Bool} {d k n : Nat} {Y : YD} {sh : Sh} {R : RR} {m : MI} {pc : Nat} {ls : List (Nat × Value)} {st : List Value} {f : Option ρ} {ci j idx kk nn : Nat} {q : vw_C}
theorem o_lt {e : Int32} {F : Int32 → Option ρ} (g : ∀ x, S em b d k n Y sh R m pc ls (.int x :: st) (F x)) : S em b d k n Y sh R m pc ls (.int e :: st) (lt e F) := g e
theorem o_ltl {e : Int64} {F : Int64 → Option ρ} (g : ∀ x, S em b d k n Y sh R m pc ls (.long x :: st) (F x)) : S em b d k n Y sh R m pc ls (.long e :: st) (ltl e F) := g e
theorem o_ltL {ls : Int32 → List (Nat × Value)} {e : Int32} {F : Int32 → Option ρ} (g : ∀ x, S em b d k n Y sh R m pc (ls x) st (F x)) : S em b d k n Y sh R m pc (ls e) st (lt e F) := g e
theorem o_lm {e : MI} {F : MI → Option ρ} (g : ∀ x, S em b d k n Y sh R x pc ls st (F x)) : S em b d k n Y sh R e pc ls st (lm e F) := g e
theorem S_mq {q : Option Nat} {F : Nat → Option ρ} (g : ∀ a, q = some a → S em b d k n Y sh R m pc ls st (F a)) : S em b d k n Y sh R m pc ls st (mq q F) := by
  cases q with
  | none => exact S_none
  | some a => exact g a rfl
theorem o_mn {q : Option Nat} {ls : Option Nat → List (Nat × Value)} {st : Option Nat → List Value} {A : Option ρ} {F : Nat → Option ρ} (g1 : S em b d k n Y sh R m pc (ls none) (st none) A) (g2 : ∀ a, S em b d k n Y sh R m pc (ls (some a)) (st (some a)) (F a)) : S em b d k n Y sh R m pc (ls q) (st q) (mn q A F) := by
  cases q with
  | none => exact g1
  | some a => exact g2 a
theorem o_sub {ls' : List (Nat × Value)} (ks : List Nat) (h : lv_pick ls ks = ls') (g : S em b d k n Y sh R m pc ls' st f) : S em b d k n Y sh R m pc ls st f :=
  S_pure (fun hC hl kx => kx _ (by
    refine lv_sub hl ks ?_
    rw [← h]
    simp only [lv_pick, List.getElem?_map, List.map_filterMap])) g
theorem o_getRc {a : Nat} (hd : decode Y.2.1 pc = .ok (.getfield idx, 3)) (hs : sh[kk]? = some (10 + ci, nn)) (hc : cls8[ci]? = some q) (hj : j < q.2.2) (hw : Cond.fieldLink Y.1.cls idx (q.2.1 j).1 (q.2.1 j).2.1 (q.2.1 j).2.2.1 ∈ tW) (hr : fR ci j = true) (hv : R kk j = some a)
    (g : S em b d k n Y sh R m (pc + 3) ls (.ref a :: st) f) : S em b d k n Y sh R m pc ls (.ref kk :: st) f := o_getR hd hs hc hj hw hr hv g
theorem o_cpi {k0 n0 : Nat} {sp dp c : Int32} (hd : decode Y.2.1 pc = .ok (.invokestatic idx, 3)) (hw : Cond.methodLink Y.1.cls idx arraycopyName ∈ tW) (hw1 : Cond.native arraycopyName ∈ tW) (hw2 : Cond.static arraycopyName ∈ tW) (hw3 : Cond.initialized "java/lang/System" ∈ tW)
    (hs0 : sh[k0]? = some (0, n0)) (hs : sh[kk]? = some (0, nn)) (hc : cpk sp dp c n0 nn = true) (hd1 : 1 ≤ d) (hcat : (st.map fun v => v.category).sum ≤ 8)
    (g : S em b d k n Y sh R (mI m kk (va_cpy (m.1 k0) (m.1 kk) sp.toNatClampNeg dp.toNatClampNeg c.toNatClampNeg)) (pc + 3) ls st f) : S em b d k n Y sh R m pc ls (.int c :: .int dp :: .ref kk :: .int sp :: .ref k0 :: st) f :=
  o_copyi hd hw hw1 hw2 hw3 hs0 hs (cpk_ok hc).1 (cpk_ok hc).2.1 (cpk_ok hc).2.2.1 (cpk_ok hc).2.2.2.1 (cpk_ok hc).2.2.2.2 hd1 hcat nfw g
theorem o_cpl {k0 n0 : Nat} {sp dp c : Int32} (hd : decode Y.2.1 pc = .ok (.invokestatic idx, 3)) (hw : Cond.methodLink Y.1.cls idx arraycopyName ∈ tW) (hw1 : Cond.native arraycopyName ∈ tW) (hw2 : Cond.static arraycopyName ∈ tW) (hw3 : Cond.initialized "java/lang/System" ∈ tW)
    (hs0 : sh[k0]? = some (1, n0)) (hs : sh[kk]? = some (1, nn)) (hc : cpk sp dp c n0 nn = true) (hd1 : 1 ≤ d) (hcat : (st.map fun v => v.category).sum ≤ 8)
    (g : S em b d k n Y sh R (mJ m kk (va_cpy (m.2 k0) (m.2 kk) sp.toNatClampNeg dp.toNatClampNeg c.toNatClampNeg)) (pc + 3) ls st f) : S em b d k n Y sh R m pc ls (.int c :: .int dp :: .ref kk :: .int sp :: .ref k0 :: st) f :=
  o_copyl hd hw hw1 hw2 hw3 hs0 hs (cpk_ok hc).1 (cpk_ok hc).2.1 (cpk_ok hc).2.2.1 (cpk_ok hc).2.2.2.1 (cpk_ok hc).2.2.2.2 hd1 hcat nfw g
end HH
end
section
/-! STRING CONSTANTS -/
theorem St_vkS {ad : Nat → Nat} {A : Nat → Prop} {U : State} {H : Heap} (h : St ad A U H) : vk_S 6 sLen sByt (fun i => ad (1010 + i)) (fun i => ad (1020 + i)) A U H := h.2.2.2.2.2.2.1
section SQ
variable {ρ : Type} {em : EM ρ} {b : Bool} {d k n : Nat} {Y : YD} {sh : Sh} {R : RR} {m : MI} {pc : Nat} {ls : List (Nat × Value)} {st : List Value} {f : Option ρ} {idx : Nat}
theorem o_ldcS (i : Nat) (hi : i < 6) (hY : Y.1.cls = RX2) (hd : decode Y.2.1 pc = .ok (.ldc (sIx i), 2)) (g : S em b d k n Y sh R m (pc + 2) ls (.ref (1010 + i) :: st) f) : S em b d k n Y sh R m pc ls st f :=
  S_read (fun hC hW hS kx => va_ldcS (own := RX2) (tx := sTx i) hC.1 hC.2.1 (hY ▸ hC.2.2.2.1) (hC.2.2.2.2.2.2.2.2.2.1.2.2.2.2.2.2.2.1 i hi) hd kx) g
theorem o_getSV (i : Nat) (hi : i < 6) (hd : decode Y.2.1 pc = .ok (.getfield idx, 3)) (hw : Cond.fieldLink Y.1.cls idx "java/lang/String" "value" "[B" ∈ tW) (g : S em b d k n Y sh R m (pc + 3) ls (.ref (1020 + i) :: st) f) : S em b d k n Y sh R m pc ls (.ref (1010 + i) :: st) f :=
  S_read (fun hC hW hS kx => vk_getf (ref := "java/lang/String") hC.1 hC.2.1 ((St_vkS hC.2.2.2.2.2.2.2.2.2.1).1 i hi).2.2.1 hS hC.2.2.2.1 (hC.2.2.2.2.1 _ hw) (fun _ h => h) hd kx) g
theorem o_getSC (i : Nat) (hi : i < 6) (hd : decode Y.2.1 pc = .ok (.getfield idx, 3)) (hw : Cond.fieldLink Y.1.cls idx "java/lang/String" "coder" "B" ∈ tW) (g : S em b d k n Y sh R m (pc + 3) ls (.int 0 :: st) f) : S em b d k n Y sh R m pc ls (.ref (1010 + i) :: st) f :=
  S_read (fun hC hW hS kx => vk_getf (ref := "java/lang/String") hC.1 hC.2.1 ((St_vkS hC.2.2.2.2.2.2.2.2.2.1).1 i hi).2.1 hS hC.2.2.2.1 (hC.2.2.2.2.1 _ hw) (fun _ h => h) hd kx) g
theorem o_alenS (i : Nat) (hi : i < 6) {v : Int32} (hv : Int32.ofNat (sLen.getD i 0) = v) (hd : decode Y.2.1 pc = .ok (.arraylength, 1)) (g : S em b d k n Y sh R m (pc + 1) ls (.int v :: st) f) : S em b d k n Y sh R m pc ls (.ref (1020 + i) :: st) f :=
  S_read (fun hC hW hS kx => va_tlen hC.1 hC.2.1 ((St_vkS hC.2.2.2.2.2.2.2.2.2.1).1 i hi).2.2.2 hS hv hd kx) g
theorem o_baldS (i : Nat) (hi : i < 6) {x : Int32} {nn : Nat} (hn : sLen.getD i 0 = nn) (hin : vp_in x nn) (hd : decode Y.2.1 pc = .ok (.baload, 1)) (g : S em b d k n Y sh R m (pc + 1) ls (.int ((sByt.getD i []).getD x.toNatClampNeg 0) :: st) f) : S em b d k n Y sh R m pc ls (.int x :: .ref (1020 + i) :: st) f :=
  S_read (fun hC hW hS kx => va_tb hC.1 hC.2.1 ((St_vkS hC.2.2.2.2.2.2.2.2.2.1).1 i hi).2.2.2 hS (hn ▸ hin) rfl hd kx) g
theorem o_getsF (hd : decode Y.2.1 pc = .ok (.getstatic idx, 3)) (hw : Cond.fieldLink Y.1.cls idx RJ3 "SIOOBE_FORMATTER" "Ljava/util/function/BiFunction;" ∈ tW) (g1 : S em b d k n Y sh R m (pc + 3) ls (.null :: st) f) (g2 : S em b d k n Y sh R m (pc + 3) ls (.ref 1030 :: st) f) : S em b d k n Y sh R m pc ls st f := fun r hr => by
  intro p l e s m0 args below meth c H locs cells slots E ad0 n0 ad A larr mc ms hC hAg hn hW hS hl hk hs
  rcases hC.2.2.2.2.2.2.2.2.2.1.2.2.2.2.2.1 with h | h
  · exact va_gets (ref := RJ3) hC.1 hC.2.1 h hS hC.2.2.2.1 (hC.2.2.2.2.1 _ hw) (fun _ h => h) hd (g1 r hr p l e s m0 args below meth c H locs cells slots E ad0 n0 ad A larr mc ms hC hAg hn hW hS hl hk hs)
  · exact va_gets (ref := RJ3) hC.1 hC.2.1 h hS hC.2.2.2.1 (hC.2.2.2.2.1 _ hw) (fun _ h => h) hd (g2 r hr p l e s m0 args below meth c H locs cells slots E ad0 n0 ad A larr mc ms hC hAg hn hW hS hl hk hs)
def CMs (Y2 : YD) (np : Nat) : Prop := Y2.1.cls = RJ0 ∧ Cond.instanceMethod Y2.1 ∈ tW ∧ Cond.selects RJ0 Y2.1 Y2.1 ∈ tW ∧ Cond.initialized RJ0 ∈ tW ∧ Cond.code Y2.1 Y2.2.1 Y2.2.2.1 Y2.2.2.2 ∈ tW ∧ (Y2.1.cls ≠ "java/lang/invoke/MethodHandle" ∧ Y2.1.cls ≠ "java/lang/invoke/VarHandle" ∧ (parseMethodDescriptor Y2.1.desc).map (fun d => d.parameters.length) = some np) ∧ Y2.2.2.1 ≤ 45
/-- a method of String, at a constant: it makes nothing -/
theorem o_callVT {np d2 : Nat} {Y2 : YD} {av rest : List Value} {g2 : Option (Int32 × MI)} {ko : Int32 × MI → Option ρ} (i : Nat) (hi : i < 6) (hd : decode Y.2.1 pc = .ok (.invokevirtual idx, 3)) (hlink : Cond.methodLink Y.1.cls idx Y2.1 ∈ tW) (hM : CMs Y2 np) (hK : KS (eI sh R) false d2 0 0 Y2 sh R m (.ref (1010 + i) :: av) g2) (hav : av.length = np) (hst : st = av.reverse ++ .ref (1010 + i) :: rest) (hcat : (rest.map fun v => v.category).sum ≤ 8) (hd2 : d2 + 1 ≤ d)
    (g : ∀ r : Int32 × MI, S em b d k n Y sh R r.2 (pc + 3) ls (.int r.1 :: rest) (ko r)) : S em b d k n Y sh R m pc ls st (g2.bind ko) := by
  intro r hr
  obtain ⟨r2, h1, h2⟩ := Option.bind_eq_some_iff.mp hr
  obtain ⟨hq, hinst, hsel, hini, hcode, hx, hml⟩ := hM
  have hK2 := hK r2 h1
  refine G_call (b2 := false) (k2 := 0) (n2 := 0) (av := .ref (1010 + i) :: av) (rest := rest) ?_ (Or.inl rfl) (Nat.zero_le _) (Nat.zero_le _) (Q2 := fun v sh' M' => (v, sh', M') = eI sh R r2) (fun v sh' M' e _ => ?_)
  · intro p l e R0 s m0 args below meth c H locs cells slots larr E ad A hC hW hS hsz hRf hRl hroom
    have hT := hC.2.2.2.2.1
    have hcw : CallW R0 s args Y.1.cls RJ0 idx Y2.1 Y2.2.1 Y2.2.2.1 Y2.2.2.2 (.code Y2.1 Y2.2.1 Y2.2.2.1 Y2.2.2.2 :: tW) (rmK d2 0 0) 0 0 np :=
      cwV np hT (good_cons hlink (good_cons hinst (good_cons hsel (good_cons hini (good_cons hcode tW_good))))) rfl rfl rfl ⟨hq, hx⟩ ⟨by rw [hRf]; exact hd2, by rw [hRl]; show 8 + (Y2.2.2.1 + 11) + 64 * d2 ≤ 64 * d; omega⟩
    have hrec := vk_recv (St_vkS hC.2.2.2.2.2.2.2.2.2.1) hi hS
    exact va_runV (As := av.map (cV ad)) (b := ad (1010 + i)) ⟨hC.1, hC.2.1, hC.2.2.1, hC.2.2.2.1, hT⟩ (hK2 l E ad H.size) hcw ⟨pc_blind, hrec, pc_here (av := .ref (1010 + i) :: av) hC hW hS⟩ rfl (by rw [List.length_map]; exact hav) hsz
      (by show st.map (cV ad) = _; rw [hst, List.map_append, List.map_reverse]; rfl) (by show 2 * 0 + _ ≤ 8; rw [List.map_map]; simpa [Function.comp_def, cV_cat] using hcat) hd hroom
  · simp only [eI, Prod.mk.injEq] at e
    obtain ⟨rfl, rfl, rfl⟩ := e
    exact g r2 r h2
end SQ
end
