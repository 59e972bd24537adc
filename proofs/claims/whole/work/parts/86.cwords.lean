theorem k_93 : (Cond.methodLink "ShortStraw" 3 ⟨"java/lang/Object", "<init>", "()V"⟩) ∈ tW := tW_of 93 (by decide +kernel) rfl
theorem k_94 : (Cond.instanceMethod ⟨"java/lang/Object", "<init>", "()V"⟩) ∈ tW := tW_of 94 (by decide +kernel) rfl
theorem k_95 : (Cond.code ⟨"java/lang/Object", "<init>", "()V"⟩ ⟨#[0xb1]⟩ 1 none) ∈ tW := tW_of 95 (by decide +kernel) rfl
theorem k_96 : (Cond.classLink "ShortStraw" 9 "ShortStraw$Winter") ∈ tW := tW_of 96 (by decide +kernel) rfl
theorem k_97 : (Cond.instantiable "ShortStraw$Winter" 17) ∈ tW := tW_of 97 (by decide +kernel) rfl
theorem k_99 : (Cond.instanceMethod ⟨"ShortStraw$Winter", "<init>", "()V"⟩) ∈ tW := tW_of 99 (by decide +kernel) rfl
theorem k_100 : (Cond.code ⟨"ShortStraw$Winter", "<init>", "()V"⟩ cX5_init 1 (none)) ∈ tW := tW_of 100 (by decide +kernel) rfl
theorem k_101 : (Cond.methodLink "ShortStraw$Winter" 3 ⟨"java/lang/Object", "<init>", "()V"⟩) ∈ tW := tW_of 101 (by decide +kernel) rfl
theorem k_102 : (Cond.classLink "ShortStraw$Winter" 25 "[[I") ∈ tW := tW_of 102 (by decide +kernel) rfl
theorem k_104 : (Cond.classLink "ShortStraw$Winter" 60 "ShortStraw$Hut") ∈ tW := tW_of 104 (by decide +kernel) rfl
theorem k_105 : (Cond.instantiable "ShortStraw$Hut" 3) ∈ tW := tW_of 105 (by decide +kernel) rfl
theorem k_106 : (Cond.methodLink "ShortStraw$Winter" 62 ⟨"ShortStraw$Hut", "<init>", "()V"⟩) ∈ tW := tW_of 106 (by decide +kernel) rfl
theorem k_107 : (Cond.instanceMethod ⟨"ShortStraw$Hut", "<init>", "()V"⟩) ∈ tW := tW_of 107 (by decide +kernel) rfl
theorem k_108 : (Cond.code ⟨"ShortStraw$Hut", "<init>", "()V"⟩ cX1_init 1 (none)) ∈ tW := tW_of 108 (by decide +kernel) rfl
theorem k_109 : (Cond.methodLink "ShortStraw$Hut" 3 ⟨"java/lang/Object", "<init>", "()V"⟩) ∈ tW := tW_of 109 (by decide +kernel) rfl
theorem k_110 : (Cond.fieldLink "ShortStraw$Hut" 9 "ShortStraw$Hut" "shorts" "I") ∈ tW := tW_of 110 (by decide +kernel) rfl
theorem k_112 : (Cond.fieldLink "ShortStraw$Hut" 15 "ShortStraw$Hut" "longsMore" "I") ∈ tW := tW_of 112 (by decide +kernel) rfl
theorem k_122 : (Cond.arrayClass .int) ∈ tW := tW_of 122 (by decide +kernel) rfl
theorem k_155 : (Cond.fieldLink "ShortStraw" 140 "ShortStraw$Winter" "hut" "LShortStraw$Hut;") ∈ tW := tW_of 155 (by decide +kernel) rfl
theorem k_192 : (Cond.classLink "ShortStraw" 25 "ShortStraw$Likelihood") ∈ tW := tW_of 192 (by decide +kernel) rfl
theorem k_193 : (Cond.instantiable "ShortStraw$Likelihood" 6) ∈ tW := tW_of 193 (by decide +kernel) rfl
theorem k_194 : (Cond.methodLink "ShortStraw" 27 ⟨"ShortStraw$Likelihood", "<init>", "(LShortStraw$Winter;)V"⟩) ∈ tW := tW_of 194 (by decide +kernel) rfl
theorem k_195 : (Cond.instanceMethod ⟨"ShortStraw$Likelihood", "<init>", "(LShortStraw$Winter;)V"⟩) ∈ tW := tW_of 195 (by decide +kernel) rfl
theorem k_196 : (Cond.code ⟨"ShortStraw$Likelihood", "<init>", "(LShortStraw$Winter;)V"⟩ cX3_init 2 (none)) ∈ tW := tW_of 196 (by decide +kernel) rfl
theorem k_197 : (Cond.methodLink "ShortStraw$Likelihood" 3 ⟨"java/lang/Object", "<init>", "()V"⟩) ∈ tW := tW_of 197 (by decide +kernel) rfl
theorem k_218 : (Cond.arrayClass .long) ∈ tW := tW_of 218 (by decide +kernel) rfl
theorem k_219 : (Cond.classLink "ShortStraw" 41 "ShortStraw$HutReader") ∈ tW := tW_of 219 (by decide +kernel) rfl
theorem k_220 : (Cond.instantiable "ShortStraw$HutReader" 7) ∈ tW := tW_of 220 (by decide +kernel) rfl
theorem k_222 : (Cond.instanceMethod ⟨"ShortStraw$HutReader", "<init>", "()V"⟩) ∈ tW := tW_of 222 (by decide +kernel) rfl
theorem k_223 : (Cond.code ⟨"ShortStraw$HutReader", "<init>", "()V"⟩ cX2_init 1 (none)) ∈ tW := tW_of 223 (by decide +kernel) rfl
theorem k_224 : (Cond.methodLink "ShortStraw$HutReader" 3 ⟨"java/lang/Object", "<init>", "()V"⟩) ∈ tW := tW_of 224 (by decide +kernel) rfl
theorem k_228 : (Cond.fieldLink "ShortStraw" 133 "ShortStraw$HutReader" "at" "I") ∈ tW := tW_of 228 (by decide +kernel) rfl
theorem k_249 : (Cond.classLink "ShortStraw" 52 "ShortStraw$Acts") ∈ tW := tW_of 249 (by decide +kernel) rfl
theorem k_250 : (Cond.instantiable "ShortStraw$Acts" 5) ∈ tW := tW_of 250 (by decide +kernel) rfl
theorem k_252 : (Cond.instanceMethod ⟨"ShortStraw$Acts", "<init>", "()V"⟩) ∈ tW := tW_of 252 (by decide +kernel) rfl
theorem k_253 : (Cond.code ⟨"ShortStraw$Acts", "<init>", "()V"⟩ cX0_init 1 (none)) ∈ tW := tW_of 253 (by decide +kernel) rfl
theorem k_254 : (Cond.methodLink "ShortStraw$Acts" 3 ⟨"java/lang/Object", "<init>", "()V"⟩) ∈ tW := tW_of 254 (by decide +kernel) rfl
theorem k_273 : (Cond.classLink "ShortStraw" 59 "ShortStraw$Tape") ∈ tW := tW_of 273 (by decide +kernel) rfl
theorem k_275 : (Cond.instantiable "ShortStraw$Tape" 3) ∈ tW := tW_of 275 (by decide +kernel) rfl
theorem k_277 : (Cond.instanceMethod ⟨"ShortStraw$Tape", "<init>", "()V"⟩) ∈ tW := tW_of 277 (by decide +kernel) rfl
theorem k_278 : (Cond.code ⟨"ShortStraw$Tape", "<init>", "()V"⟩ cX4_init 1 (none)) ∈ tW := tW_of 278 (by decide +kernel) rfl
theorem k_279 : (Cond.methodLink "ShortStraw$Tape" 3 ⟨"java/lang/Object", "<init>", "()V"⟩) ∈ tW := tW_of 279 (by decide +kernel) rfl
theorem k_293 : (Cond.fieldLink "ShortStraw" 18 "ShortStraw" "kept" "LShortStraw$Winter;") ∈ tW := tW_of 293 (by decide +kernel) rfl
theorem k_294 : (Cond.fieldLink "ShortStraw" 21 "ShortStraw" "isKept" "Z") ∈ tW := tW_of 294 (by decide +kernel) rfl
theorem k_409 : (Cond.methodLink "ShortStraw" 129 ⟨"ShortStraw$HutReader", "readsAll", "()Z"⟩) ∈ tW := tW_of 409 (by decide +kernel) rfl
theorem k_410 : (Cond.instanceMethod ⟨"ShortStraw$HutReader", "readsAll", "()Z"⟩) ∈ tW := tW_of 410 (by decide +kernel) rfl
theorem k_411 : (Cond.selects "ShortStraw$HutReader" ⟨"ShortStraw$HutReader", "readsAll", "()Z"⟩ ⟨"ShortStraw$HutReader", "readsAll", "()Z"⟩) ∈ tW := tW_of 411 (by decide +kernel) rfl
theorem k_412 : (Cond.code ⟨"ShortStraw$HutReader", "readsAll", "()Z"⟩ cX2_readsAll 2 (some .boolean)) ∈ tW := tW_of 412 (by decide +kernel) rfl
theorem k_570 : (Cond.methodLink "ShortStraw" 136 ⟨"ShortStraw$HutReader", "newHut", "()LShortStraw$Hut;"⟩) ∈ tW := tW_of 570 (by decide +kernel) rfl
theorem k_571 : (Cond.instanceMethod ⟨"ShortStraw$HutReader", "newHut", "()LShortStraw$Hut;"⟩) ∈ tW := tW_of 571 (by decide +kernel) rfl
theorem k_572 : (Cond.selects "ShortStraw$HutReader" ⟨"ShortStraw$HutReader", "newHut", "()LShortStraw$Hut;"⟩ ⟨"ShortStraw$HutReader", "newHut", "()LShortStraw$Hut;"⟩) ∈ tW := tW_of 572 (by decide +kernel) rfl
theorem k_573 : (Cond.code ⟨"ShortStraw$HutReader", "newHut", "()LShortStraw$Hut;"⟩ cX2_newHut 1 (some (.object "ShortStraw$Hut"))) ∈ tW := tW_of 573 (by decide +kernel) rfl
theorem k_574 : (Cond.classLink "ShortStraw$HutReader" 42 "ShortStraw$Hut") ∈ tW := tW_of 574 (by decide +kernel) rfl
theorem k_575 : (Cond.methodLink "ShortStraw$HutReader" 44 ⟨"java/util/Arrays", "copyOf", "([II)[I"⟩) ∈ tW := tW_of 575 (by decide +kernel) rfl
theorem k_576 : (Cond.static ⟨"java/util/Arrays", "copyOf", "([II)[I"⟩) ∈ tW := tW_of 576 (by decide +kernel) rfl
theorem k_577 : (Cond.code ⟨"java/util/Arrays", "copyOf", "([II)[I"⟩ cJ7_copyOf_59c91 3 (some (.array Jvm.ClassFile.FieldType.int))) ∈ tW := tW_of 577 (by decide +kernel) rfl
theorem k_585 : (Cond.methodLink "java/util/Arrays" 304 ⟨"java/lang/Math", "min", "(II)I"⟩) ∈ tW := tW_of 585 (by decide +kernel) rfl
theorem k_586 : (Cond.methodLink "java/util/Arrays" 150 ⟨"java/lang/System", "arraycopy", "(Ljava/lang/Object;ILjava/lang/Object;II)V"⟩) ∈ tW := tW_of 586 (by decide +kernel) rfl
theorem k_587 : (Cond.methodLink "ShortStraw$HutReader" 50 ⟨"ShortStraw$Hut", "<init>", "(II[I)V"⟩) ∈ tW := tW_of 587 (by decide +kernel) rfl
theorem k_588 : (Cond.instanceMethod ⟨"ShortStraw$Hut", "<init>", "(II[I)V"⟩) ∈ tW := tW_of 588 (by decide +kernel) rfl
theorem k_589 : (Cond.code ⟨"ShortStraw$Hut", "<init>", "(II[I)V"⟩ cX1_init_ 4 (none)) ∈ tW := tW_of 589 (by decide +kernel) rfl
theorem k_590 : (Cond.methodLink "ShortStraw$Hut" 22 ⟨"java/lang/Math", "min", "(II)I"⟩) ∈ tW := tW_of 590 (by decide +kernel) rfl
theorem k_772 : (Cond.methodLink "ShortStraw" 260 ⟨"ShortStraw$Winter", "become", "(LShortStraw$Winter;)V"⟩) ∈ tW := tW_of 772 (by decide +kernel) rfl
theorem k_773 : (Cond.instanceMethod ⟨"ShortStraw$Winter", "become", "(LShortStraw$Winter;)V"⟩) ∈ tW := tW_of 773 (by decide +kernel) rfl
theorem k_774 : (Cond.selects "ShortStraw$Winter" ⟨"ShortStraw$Winter", "become", "(LShortStraw$Winter;)V"⟩ ⟨"ShortStraw$Winter", "become", "(LShortStraw$Winter;)V"⟩) ∈ tW := tW_of 774 (by decide +kernel) rfl
theorem k_775 : (Cond.code ⟨"ShortStraw$Winter", "become", "(LShortStraw$Winter;)V"⟩ cX5_become 3 (none)) ∈ tW := tW_of 775 (by decide +kernel) rfl
theorem k_858 : (Cond.methodLink "ShortStrawModel" 12 ⟨"java/lang/Object", "<init>", "()V"⟩) ∈ tW := tW_of 858 (by decide +kernel) rfl
theorem k_1091 : (Cond.arrayClass .boolean) ∈ tW := tW_of 1091 (by decide +kernel) rfl
theorem lb_101 : (Int8.ofInt (101)).toInt32 = 101 := by decide
theorem lb_110 : (Int8.ofInt (110)).toInt32 = 110 := by decide
theorem lb_114 : (Int8.ofInt (114)).toInt32 = 114 := by decide
theorem lb_115 : (Int8.ofInt (115)).toInt32 = 115 := by decide
theorem lb_116 : (Int8.ofInt (116)).toInt32 = 116 := by decide
theorem lb_13 : (Int8.ofInt (13)).toInt32 = 13 := by decide
theorem lb_14 : (Int8.ofInt (14)).toInt32 = 14 := by decide
theorem lb_15 : (Int8.ofInt (15)).toInt32 = 15 := by decide
theorem lb_97 : (Int8.ofInt (97)).toInt32 = 97 := by decide
theorem ls_144 : (Int16.ofInt (144)).toInt32 = 144 := by decide
theorem ls_360 : (Int16.ofInt (360)).toInt32 = 360 := by decide
theorem ls_600 : (Int16.ofInt (600)).toInt32 = 600 := by decide
abbrev YX1_init : YD := (yX1_init, cX1_init, 1, none)
abbrev YX5_init : YD := (yX5_init, cX5_init, 1, none)
abbrev YX3_init : YD := (yX3_init, cX3_init, 2, none)
abbrev YX2_init : YD := (yX2_init, cX2_init, 1, none)
abbrev YX0_init : YD := (yX0_init, cX0_init, 1, none)
abbrev YX4_init : YD := (yX4_init, cX4_init, 1, none)
abbrev YX6_init : YD := (yX6_init, cX6_init, 2, none)
abbrev YX7_init : YD := (yX7_init, cX7_init, 1, none)
abbrev YX1_init_ : YD := (yX1_init_, cX1_init_, 4, none)
abbrev YX2_newHut : YD := (yX2_newHut, cX2_newHut, 1, some (.object "ShortStraw$Hut"))
abbrev YJ7_copyOf_59c91 : YD := (yJ7_copyOf_59c91, cJ7_copyOf_59c91, 3, some (.array Jvm.ClassFile.FieldType.int))
abbrev YX6_hut : YD := (yX6_hut, cX6_hut, 2, some .int)
abbrev YX5_become : YD := (yX5_become, cX5_become, 3, none)
abbrev YX6_image : YD := (yX6_image, cX6_image, 1, some .int)
abbrev YX6_undo : YD := (yX6_undo, cX6_undo, 1, some .int)
theorem dJ7_copyOf_59c91_0 : decode cJ7_copyOf_59c91 0 = .ok (.iload_n 1, 1) := by decide +kernel
theorem dJ7_copyOf_59c91_1 : decode cJ7_copyOf_59c91 1 = .ok (.aload_n 0, 1) := by decide +kernel
theorem dJ7_copyOf_59c91_2 : decode cJ7_copyOf_59c91 2 = .ok (.arraylength, 1) := by decide +kernel
theorem dJ7_copyOf_59c91_3 : decode cJ7_copyOf_59c91 3 = .ok (.if_icmp .ne 11, 3) := by decide +kernel
theorem dJ7_copyOf_59c91_6 : decode cJ7_copyOf_59c91 6 = .ok (.aload_n 0, 1) := by decide +kernel
theorem dJ7_copyOf_59c91_7 : decode cJ7_copyOf_59c91 7 = .ok (.invokevirtual 316, 3) := by decide +kernel
theorem dJ7_copyOf_59c91_10 : decode cJ7_copyOf_59c91 10 = .ok (.checkcast 317, 3) := by decide +kernel
theorem dJ7_copyOf_59c91_13 : decode cJ7_copyOf_59c91 13 = .ok (.areturn, 1) := by decide +kernel
theorem dJ7_copyOf_59c91_14 : decode cJ7_copyOf_59c91 14 = .ok (.iload_n 1, 1) := by decide +kernel
theorem dJ7_copyOf_59c91_15 : decode cJ7_copyOf_59c91 15 = .ok (.newarray .int, 2) := by decide +kernel
theorem dJ7_copyOf_59c91_17 : decode cJ7_copyOf_59c91 17 = .ok (.astore_n 2, 1) := by decide +kernel
theorem dJ7_copyOf_59c91_18 : decode cJ7_copyOf_59c91 18 = .ok (.aload_n 0, 1) := by decide +kernel
theorem dJ7_copyOf_59c91_19 : decode cJ7_copyOf_59c91 19 = .ok (.iconst 0, 1) := by decide +kernel
theorem dJ7_copyOf_59c91_20 : decode cJ7_copyOf_59c91 20 = .ok (.aload_n 2, 1) := by decide +kernel
theorem dJ7_copyOf_59c91_21 : decode cJ7_copyOf_59c91 21 = .ok (.iconst 0, 1) := by decide +kernel
theorem dJ7_copyOf_59c91_22 : decode cJ7_copyOf_59c91 22 = .ok (.aload_n 0, 1) := by decide +kernel
theorem dJ7_copyOf_59c91_23 : decode cJ7_copyOf_59c91 23 = .ok (.arraylength, 1) := by decide +kernel
theorem dJ7_copyOf_59c91_24 : decode cJ7_copyOf_59c91 24 = .ok (.iload_n 1, 1) := by decide +kernel
theorem dJ7_copyOf_59c91_25 : decode cJ7_copyOf_59c91 25 = .ok (.invokestatic 304, 3) := by decide +kernel
theorem dJ7_copyOf_59c91_28 : decode cJ7_copyOf_59c91 28 = .ok (.invokestatic 150, 3) := by decide +kernel
theorem dJ7_copyOf_59c91_31 : decode cJ7_copyOf_59c91 31 = .ok (.aload_n 2, 1) := by decide +kernel
theorem dJ7_copyOf_59c91_32 : decode cJ7_copyOf_59c91 32 = .ok (.areturn, 1) := by decide +kernel
theorem dX0_init_0 : decode cX0_init 0 = .ok (.aload_n 0, 1) := by decide +kernel
theorem dX0_init_1 : decode cX0_init 1 = .ok (.invokespecial 3, 3) := by decide +kernel
theorem dX0_init_4 : decode cX0_init 4 = .ok (.aload_n 0, 1) := by decide +kernel
theorem dX0_init_5 : decode cX0_init 5 = .ok (.iconst 0, 1) := by decide +kernel
theorem dX0_init_6 : decode cX0_init 6 = .ok (.putfield 9, 3) := by decide +kernel
theorem dX0_init_9 : decode cX0_init 9 = .ok (.aload_n 0, 1) := by decide +kernel
theorem dX0_init_10 : decode cX0_init 10 = .ok (.bipush 20, 2) := by decide +kernel
theorem dX0_init_12 : decode cX0_init 12 = .ok (.newarray .int, 2) := by decide +kernel
theorem dX0_init_14 : decode cX0_init 14 = .ok (.putfield 15, 3) := by decide +kernel
theorem dX0_init_17 : decode cX0_init 17 = .ok (.aload_n 0, 1) := by decide +kernel
theorem dX0_init_18 : decode cX0_init 18 = .ok (.iconst 0, 1) := by decide +kernel
theorem dX0_init_19 : decode cX0_init 19 = .ok (.putfield 19, 3) := by decide +kernel
theorem dX0_init_22 : decode cX0_init 22 = .ok (.aload_n 0, 1) := by decide +kernel
theorem dX0_init_23 : decode cX0_init 23 = .ok (.iconst 0, 1) := by decide +kernel
theorem dX0_init_24 : decode cX0_init 24 = .ok (.putfield 22, 3) := by decide +kernel
theorem dX0_init_27 : decode cX0_init 27 = .ok (.aload_n 0, 1) := by decide +kernel
theorem dX0_init_28 : decode cX0_init 28 = .ok (.iconst 0, 1) := by decide +kernel
theorem dX0_init_29 : decode cX0_init 29 = .ok (.putfield 25, 3) := by decide +kernel
theorem dX0_init_32 : decode cX0_init 32 = .ok (.return_, 1) := by decide +kernel
theorem dX1_init_0 : decode cX1_init 0 = .ok (.aload_n 0, 1) := by decide +kernel
theorem dX1_init_1 : decode cX1_init 1 = .ok (.invokespecial 3, 3) := by decide +kernel
theorem dX1_init_4 : decode cX1_init 4 = .ok (.aload_n 0, 1) := by decide +kernel
theorem dX1_init_5 : decode cX1_init 5 = .ok (.iconst 1, 1) := by decide +kernel
theorem dX1_init_6 : decode cX1_init 6 = .ok (.putfield 9, 3) := by decide +kernel
theorem dX1_init_9 : decode cX1_init 9 = .ok (.aload_n 0, 1) := by decide +kernel
theorem dX1_init_10 : decode cX1_init 10 = .ok (.iconst 0, 1) := by decide +kernel
theorem dX1_init_11 : decode cX1_init 11 = .ok (.putfield 15, 3) := by decide +kernel
theorem dX1_init_14 : decode cX1_init 14 = .ok (.aload_n 0, 1) := by decide +kernel
theorem dX1_init_15 : decode cX1_init 15 = .ok (.iconst 0, 1) := by decide +kernel
theorem dX1_init_16 : decode cX1_init 16 = .ok (.newarray .int, 2) := by decide +kernel
theorem dX1_init_18 : decode cX1_init 18 = .ok (.putfield 18, 3) := by decide +kernel
theorem dX1_init_21 : decode cX1_init 21 = .ok (.return_, 1) := by decide +kernel
theorem dX1_init__0 : decode cX1_init_ 0 = .ok (.aload_n 0, 1) := by decide +kernel
theorem dX1_init__1 : decode cX1_init_ 1 = .ok (.invokespecial 3, 3) := by decide +kernel
theorem dX1_init__4 : decode cX1_init_ 4 = .ok (.aload_n 0, 1) := by decide +kernel
theorem dX1_init__5 : decode cX1_init_ 5 = .ok (.iconst 1, 1) := by decide +kernel
theorem dX1_init__6 : decode cX1_init_ 6 = .ok (.iconst 3, 1) := by decide +kernel
theorem dX1_init__7 : decode cX1_init_ 7 = .ok (.iload_n 1, 1) := by decide +kernel
theorem dX1_init__8 : decode cX1_init_ 8 = .ok (.invokestatic 22, 3) := by decide +kernel
theorem dX1_init__11 : decode cX1_init_ 11 = .ok (.invokestatic 28, 3) := by decide +kernel
theorem dX1_init__14 : decode cX1_init_ 14 = .ok (.putfield 9, 3) := by decide +kernel
theorem dX1_init__17 : decode cX1_init_ 17 = .ok (.aload_n 0, 1) := by decide +kernel
theorem dX1_init__18 : decode cX1_init_ 18 = .ok (.bipush 9, 2) := by decide +kernel
theorem dX1_init__20 : decode cX1_init_ 20 = .ok (.iload_n 2, 1) := by decide +kernel
theorem dX1_init__21 : decode cX1_init_ 21 = .ok (.invokestatic 22, 3) := by decide +kernel
theorem dX1_init__24 : decode cX1_init_ 24 = .ok (.putfield 15, 3) := by decide +kernel
theorem dX1_init__27 : decode cX1_init_ 27 = .ok (.aload_n 0, 1) := by decide +kernel
theorem dX1_init__28 : decode cX1_init_ 28 = .ok (.aload_n 3, 1) := by decide +kernel
theorem dX1_init__29 : decode cX1_init_ 29 = .ok (.putfield 18, 3) := by decide +kernel
theorem dX1_init__32 : decode cX1_init_ 32 = .ok (.return_, 1) := by decide +kernel
theorem dX2_init_0 : decode cX2_init 0 = .ok (.aload_n 0, 1) := by decide +kernel
theorem dX2_init_1 : decode cX2_init 1 = .ok (.invokespecial 3, 3) := by decide +kernel
theorem dX2_init_4 : decode cX2_init 4 = .ok (.aload_n 0, 1) := by decide +kernel
theorem dX2_init_5 : decode cX2_init 5 = .ok (.iconst 0, 1) := by decide +kernel
theorem dX2_init_6 : decode cX2_init 6 = .ok (.putfield 9, 3) := by decide +kernel
theorem dX2_init_9 : decode cX2_init 9 = .ok (.aload_n 0, 1) := by decide +kernel
theorem dX2_init_10 : decode cX2_init 10 = .ok (.iconst 0, 1) := by decide +kernel
theorem dX2_init_11 : decode cX2_init 11 = .ok (.putfield 15, 3) := by decide +kernel
theorem dX2_init_14 : decode cX2_init 14 = .ok (.aload_n 0, 1) := by decide +kernel
theorem dX2_init_15 : decode cX2_init 15 = .ok (.bipush 101, 2) := by decide +kernel
theorem dX2_init_17 : decode cX2_init 17 = .ok (.newarray .int, 2) := by decide +kernel
theorem dX2_init_19 : decode cX2_init 19 = .ok (.putfield 18, 3) := by decide +kernel
theorem dX2_init_22 : decode cX2_init 22 = .ok (.aload_n 0, 1) := by decide +kernel
theorem dX2_init_23 : decode cX2_init 23 = .ok (.iconst 1, 1) := by decide +kernel
theorem dX2_init_24 : decode cX2_init 24 = .ok (.putfield 22, 3) := by decide +kernel
theorem dX2_init_27 : decode cX2_init 27 = .ok (.aload_n 0, 1) := by decide +kernel
theorem dX2_init_28 : decode cX2_init 28 = .ok (.iconst 0, 1) := by decide +kernel
theorem dX2_init_29 : decode cX2_init 29 = .ok (.putfield 25, 3) := by decide +kernel
theorem dX2_init_32 : decode cX2_init 32 = .ok (.aload_n 0, 1) := by decide +kernel
theorem dX2_init_33 : decode cX2_init 33 = .ok (.iconst 0, 1) := by decide +kernel
theorem dX2_init_34 : decode cX2_init 34 = .ok (.putfield 28, 3) := by decide +kernel
theorem dX2_init_37 : decode cX2_init 37 = .ok (.aload_n 0, 1) := by decide +kernel
theorem dX2_init_38 : decode cX2_init 38 = .ok (.bipush 100, 2) := by decide +kernel
theorem dX2_init_40 : decode cX2_init 40 = .ok (.newarray .int, 2) := by decide +kernel
theorem dX2_init_42 : decode cX2_init 42 = .ok (.putfield 31, 3) := by decide +kernel
theorem dX2_init_45 : decode cX2_init 45 = .ok (.return_, 1) := by decide +kernel
theorem dX2_newHut_0 : decode cX2_newHut 0 = .ok (.new 42, 3) := by decide +kernel
theorem dX2_newHut_3 : decode cX2_newHut 3 = .ok (.dup, 1) := by decide +kernel
theorem dX2_newHut_4 : decode cX2_newHut 4 = .ok (.aload_n 0, 1) := by decide +kernel
theorem dX2_newHut_5 : decode cX2_newHut 5 = .ok (.getfield 22, 3) := by decide +kernel
theorem dX2_newHut_8 : decode cX2_newHut 8 = .ok (.aload_n 0, 1) := by decide +kernel
theorem dX2_newHut_9 : decode cX2_newHut 9 = .ok (.getfield 25, 3) := by decide +kernel
theorem dX2_newHut_12 : decode cX2_newHut 12 = .ok (.aload_n 0, 1) := by decide +kernel
theorem dX2_newHut_13 : decode cX2_newHut 13 = .ok (.getfield 31, 3) := by decide +kernel
theorem dX2_newHut_16 : decode cX2_newHut 16 = .ok (.aload_n 0, 1) := by decide +kernel
theorem dX2_newHut_17 : decode cX2_newHut 17 = .ok (.getfield 28, 3) := by decide +kernel
theorem dX2_newHut_20 : decode cX2_newHut 20 = .ok (.invokestatic 44, 3) := by decide +kernel
theorem dX2_newHut_23 : decode cX2_newHut 23 = .ok (.invokespecial 50, 3) := by decide +kernel
theorem dX2_newHut_26 : decode cX2_newHut 26 = .ok (.areturn, 1) := by decide +kernel
theorem dX3_init_0 : decode cX3_init 0 = .ok (.aload_n 0, 1) := by decide +kernel
theorem dX3_init_1 : decode cX3_init 1 = .ok (.invokespecial 3, 3) := by decide +kernel
theorem dX3_init_4 : decode cX3_init 4 = .ok (.aload_n 0, 1) := by decide +kernel
theorem dX3_init_5 : decode cX3_init 5 = .ok (.bipush 6, 2) := by decide +kernel
theorem dX3_init_7 : decode cX3_init 7 = .ok (.newarray .int, 2) := by decide +kernel
theorem dX3_init_9 : decode cX3_init 9 = .ok (.putfield 9, 3) := by decide +kernel
theorem dX3_init_12 : decode cX3_init 12 = .ok (.aload_n 0, 1) := by decide +kernel
theorem dX3_init_13 : decode cX3_init 13 = .ok (.iconst 4, 1) := by decide +kernel
theorem dX3_init_14 : decode cX3_init 14 = .ok (.newarray .long, 2) := by decide +kernel
theorem dX3_init_16 : decode cX3_init 16 = .ok (.putfield 15, 3) := by decide +kernel
theorem dX3_init_19 : decode cX3_init 19 = .ok (.aload_n 0, 1) := by decide +kernel
theorem dX3_init_20 : decode cX3_init 20 = .ok (.sipush 144, 3) := by decide +kernel
theorem dX3_init_23 : decode cX3_init 23 = .ok (.newarray .int, 2) := by decide +kernel
theorem dX3_init_25 : decode cX3_init 25 = .ok (.putfield 19, 3) := by decide +kernel
theorem dX3_init_28 : decode cX3_init 28 = .ok (.aload_n 0, 1) := by decide +kernel
theorem dX3_init_29 : decode cX3_init 29 = .ok (.iconst 0, 1) := by decide +kernel
theorem dX3_init_30 : decode cX3_init 30 = .ok (.putfield 22, 3) := by decide +kernel
theorem dX3_init_33 : decode cX3_init 33 = .ok (.aload_n 0, 1) := by decide +kernel
theorem dX3_init_34 : decode cX3_init 34 = .ok (.iconst 0, 1) := by decide +kernel
theorem dX3_init_35 : decode cX3_init 35 = .ok (.putfield 26, 3) := by decide +kernel
theorem dX3_init_38 : decode cX3_init 38 = .ok (.aload_n 0, 1) := by decide +kernel
theorem dX3_init_39 : decode cX3_init 39 = .ok (.aload_n 1, 1) := by decide +kernel
theorem dX3_init_40 : decode cX3_init 40 = .ok (.putfield 29, 3) := by decide +kernel
theorem dX3_init_43 : decode cX3_init 43 = .ok (.return_, 1) := by decide +kernel
theorem dX4_init_0 : decode cX4_init 0 = .ok (.aload_n 0, 1) := by decide +kernel
theorem dX4_init_1 : decode cX4_init 1 = .ok (.invokespecial 3, 3) := by decide +kernel
theorem dX4_init_4 : decode cX4_init 4 = .ok (.aload_n 0, 1) := by decide +kernel
theorem dX4_init_5 : decode cX4_init 5 = .ok (.iconst (-1), 1) := by decide +kernel
theorem dX4_init_6 : decode cX4_init 6 = .ok (.putfield 11, 3) := by decide +kernel
theorem dX4_init_9 : decode cX4_init 9 = .ok (.aload_n 0, 1) := by decide +kernel
theorem dX4_init_10 : decode cX4_init 10 = .ok (.iconst 0, 1) := by decide +kernel
theorem dX4_init_11 : decode cX4_init 11 = .ok (.putfield 15, 3) := by decide +kernel
theorem dX4_init_14 : decode cX4_init 14 = .ok (.aload_n 0, 1) := by decide +kernel
theorem dX4_init_15 : decode cX4_init 15 = .ok (.bipush 60, 2) := by decide +kernel
theorem dX4_init_17 : decode cX4_init 17 = .ok (.newarray .long, 2) := by decide +kernel
theorem dX4_init_19 : decode cX4_init 19 = .ok (.putfield 18, 3) := by decide +kernel
theorem dX4_init_22 : decode cX4_init 22 = .ok (.return_, 1) := by decide +kernel
theorem dX5_become_0 : decode cX5_become 0 = .ok (.aload_n 0, 1) := by decide +kernel
theorem dX5_become_1 : decode cX5_become 1 = .ok (.aload_n 1, 1) := by decide +kernel
theorem dX5_become_2 : decode cX5_become 2 = .ok (.getfield 9, 3) := by decide +kernel
theorem dX5_become_5 : decode cX5_become 5 = .ok (.putfield 9, 3) := by decide +kernel
theorem dX5_become_8 : decode cX5_become 8 = .ok (.aload_n 1, 1) := by decide +kernel
theorem dX5_become_9 : decode cX5_become 9 = .ok (.getfield 15, 3) := by decide +kernel
theorem dX5_become_12 : decode cX5_become 12 = .ok (.iconst 0, 1) := by decide +kernel
theorem dX5_become_13 : decode cX5_become 13 = .ok (.aload_n 0, 1) := by decide +kernel
theorem dX5_become_14 : decode cX5_become 14 = .ok (.getfield 15, 3) := by decide +kernel
theorem dX5_become_17 : decode cX5_become 17 = .ok (.iconst 0, 1) := by decide +kernel
theorem dX5_become_18 : decode cX5_become 18 = .ok (.bipush 6, 2) := by decide +kernel
theorem dX5_become_20 : decode cX5_become 20 = .ok (.invokestatic 79, 3) := by decide +kernel
theorem dX5_become_23 : decode cX5_become 23 = .ok (.aload_n 1, 1) := by decide +kernel
theorem dX5_become_24 : decode cX5_become 24 = .ok (.getfield 19, 3) := by decide +kernel
theorem dX5_become_27 : decode cX5_become 27 = .ok (.iconst 0, 1) := by decide +kernel
theorem dX5_become_28 : decode cX5_become 28 = .ok (.aload_n 0, 1) := by decide +kernel
theorem dX5_become_29 : decode cX5_become 29 = .ok (.getfield 19, 3) := by decide +kernel
theorem dX5_become_32 : decode cX5_become 32 = .ok (.iconst 0, 1) := by decide +kernel
theorem dX5_become_33 : decode cX5_become 33 = .ok (.bipush 6, 2) := by decide +kernel
theorem dX5_become_35 : decode cX5_become 35 = .ok (.invokestatic 79, 3) := by decide +kernel
theorem dX5_become_38 : decode cX5_become 38 = .ok (.aload_n 1, 1) := by decide +kernel
theorem dX5_become_39 : decode cX5_become 39 = .ok (.getfield 22, 3) := by decide +kernel
theorem dX5_become_42 : decode cX5_become 42 = .ok (.iconst 0, 1) := by decide +kernel
theorem dX5_become_43 : decode cX5_become 43 = .ok (.aload_n 0, 1) := by decide +kernel
theorem dX5_become_44 : decode cX5_become 44 = .ok (.getfield 22, 3) := by decide +kernel
theorem dX5_become_47 : decode cX5_become 47 = .ok (.iconst 0, 1) := by decide +kernel
theorem dX5_become_48 : decode cX5_become 48 = .ok (.bipush 6, 2) := by decide +kernel
theorem dX5_become_50 : decode cX5_become 50 = .ok (.invokestatic 79, 3) := by decide +kernel
theorem dX5_become_53 : decode cX5_become 53 = .ok (.iconst 0, 1) := by decide +kernel
theorem dX5_become_54 : decode cX5_become 54 = .ok (.istore_n 2, 1) := by decide +kernel
theorem dX5_become_55 : decode cX5_become 55 = .ok (.iload_n 2, 1) := by decide +kernel
theorem dX5_become_56 : decode cX5_become 56 = .ok (.bipush 6, 2) := by decide +kernel
theorem dX5_become_58 : decode cX5_become 58 = .ok (.if_icmp .ge 27, 3) := by decide +kernel
theorem dX5_become_61 : decode cX5_become 61 = .ok (.aload_n 1, 1) := by decide +kernel
theorem dX5_become_62 : decode cX5_become 62 = .ok (.getfield 27, 3) := by decide +kernel
theorem dX5_become_65 : decode cX5_become 65 = .ok (.iload_n 2, 1) := by decide +kernel
theorem dX5_become_66 : decode cX5_become 66 = .ok (.aaload, 1) := by decide +kernel
theorem dX5_become_67 : decode cX5_become 67 = .ok (.iconst 0, 1) := by decide +kernel
theorem dX5_become_68 : decode cX5_become 68 = .ok (.aload_n 0, 1) := by decide +kernel
theorem dX5_become_69 : decode cX5_become 69 = .ok (.getfield 27, 3) := by decide +kernel
theorem dX5_become_72 : decode cX5_become 72 = .ok (.iload_n 2, 1) := by decide +kernel
theorem dX5_become_73 : decode cX5_become 73 = .ok (.aaload, 1) := by decide +kernel
theorem dX5_become_74 : decode cX5_become 74 = .ok (.iconst 0, 1) := by decide +kernel
theorem dX5_become_75 : decode cX5_become 75 = .ok (.iconst 4, 1) := by decide +kernel
theorem dX5_become_76 : decode cX5_become 76 = .ok (.invokestatic 79, 3) := by decide +kernel
theorem dX5_become_79 : decode cX5_become 79 = .ok (.iinc 2 1, 3) := by decide +kernel
theorem dX5_become_82 : decode cX5_become 82 = .ok (.goto (-27), 3) := by decide +kernel
theorem dX5_become_85 : decode cX5_become 85 = .ok (.aload_n 1, 1) := by decide +kernel
theorem dX5_become_86 : decode cX5_become 86 = .ok (.getfield 30, 3) := by decide +kernel
theorem dX5_become_89 : decode cX5_become 89 = .ok (.iconst 0, 1) := by decide +kernel
theorem dX5_become_90 : decode cX5_become 90 = .ok (.aload_n 0, 1) := by decide +kernel
theorem dX5_become_91 : decode cX5_become 91 = .ok (.getfield 30, 3) := by decide +kernel
theorem dX5_become_94 : decode cX5_become 94 = .ok (.iconst 0, 1) := by decide +kernel
theorem dX5_become_95 : decode cX5_become 95 = .ok (.bipush 6, 2) := by decide +kernel
theorem dX5_become_97 : decode cX5_become 97 = .ok (.invokestatic 79, 3) := by decide +kernel
theorem dX5_become_100 : decode cX5_become 100 = .ok (.aload_n 0, 1) := by decide +kernel
theorem dX5_become_101 : decode cX5_become 101 = .ok (.aload_n 1, 1) := by decide +kernel
theorem dX5_become_102 : decode cX5_become 102 = .ok (.getfield 33, 3) := by decide +kernel
theorem dX5_become_105 : decode cX5_become 105 = .ok (.putfield 33, 3) := by decide +kernel
theorem dX5_become_108 : decode cX5_become 108 = .ok (.aload_n 0, 1) := by decide +kernel
theorem dX5_become_109 : decode cX5_become 109 = .ok (.aload_n 1, 1) := by decide +kernel
theorem dX5_become_110 : decode cX5_become 110 = .ok (.getfield 36, 3) := by decide +kernel
theorem dX5_become_113 : decode cX5_become 113 = .ok (.putfield 36, 3) := by decide +kernel
theorem dX5_become_116 : decode cX5_become 116 = .ok (.aload_n 0, 1) := by decide +kernel
theorem dX5_become_117 : decode cX5_become 117 = .ok (.aload_n 1, 1) := by decide +kernel
theorem dX5_become_118 : decode cX5_become 118 = .ok (.getfield 39, 3) := by decide +kernel
theorem dX5_become_121 : decode cX5_become 121 = .ok (.putfield 39, 3) := by decide +kernel
theorem dX5_become_124 : decode cX5_become 124 = .ok (.aload_n 0, 1) := by decide +kernel
theorem dX5_become_125 : decode cX5_become 125 = .ok (.aload_n 1, 1) := by decide +kernel
theorem dX5_become_126 : decode cX5_become 126 = .ok (.getfield 42, 3) := by decide +kernel
theorem dX5_become_129 : decode cX5_become 129 = .ok (.putfield 42, 3) := by decide +kernel
theorem dX5_become_132 : decode cX5_become 132 = .ok (.aload_n 0, 1) := by decide +kernel
theorem dX5_become_133 : decode cX5_become 133 = .ok (.aload_n 1, 1) := by decide +kernel
theorem dX5_become_134 : decode cX5_become 134 = .ok (.getfield 45, 3) := by decide +kernel
theorem dX5_become_137 : decode cX5_become 137 = .ok (.putfield 45, 3) := by decide +kernel
theorem dX5_become_140 : decode cX5_become 140 = .ok (.aload_n 1, 1) := by decide +kernel
theorem dX5_become_141 : decode cX5_become 141 = .ok (.getfield 48, 3) := by decide +kernel
theorem dX5_become_144 : decode cX5_become 144 = .ok (.iconst 0, 1) := by decide +kernel
theorem dX5_become_145 : decode cX5_become 145 = .ok (.aload_n 0, 1) := by decide +kernel
theorem dX5_become_146 : decode cX5_become 146 = .ok (.getfield 48, 3) := by decide +kernel
theorem dX5_become_149 : decode cX5_become 149 = .ok (.iconst 0, 1) := by decide +kernel
theorem dX5_become_150 : decode cX5_become 150 = .ok (.bipush 6, 2) := by decide +kernel
theorem dX5_become_152 : decode cX5_become 152 = .ok (.invokestatic 79, 3) := by decide +kernel
theorem dX5_become_155 : decode cX5_become 155 = .ok (.aload_n 1, 1) := by decide +kernel
theorem dX5_become_156 : decode cX5_become 156 = .ok (.getfield 51, 3) := by decide +kernel
theorem dX5_become_159 : decode cX5_become 159 = .ok (.iconst 0, 1) := by decide +kernel
theorem dX5_become_160 : decode cX5_become 160 = .ok (.aload_n 0, 1) := by decide +kernel
theorem dX5_become_161 : decode cX5_become 161 = .ok (.getfield 51, 3) := by decide +kernel
theorem dX5_become_164 : decode cX5_become 164 = .ok (.iconst 0, 1) := by decide +kernel
theorem dX5_become_165 : decode cX5_become 165 = .ok (.bipush 6, 2) := by decide +kernel
theorem dX5_become_167 : decode cX5_become 167 = .ok (.invokestatic 79, 3) := by decide +kernel
theorem dX5_become_170 : decode cX5_become 170 = .ok (.aload_n 0, 1) := by decide +kernel
theorem dX5_become_171 : decode cX5_become 171 = .ok (.aload_n 1, 1) := by decide +kernel
theorem dX5_become_172 : decode cX5_become 172 = .ok (.getfield 54, 3) := by decide +kernel
theorem dX5_become_175 : decode cX5_become 175 = .ok (.putfield 54, 3) := by decide +kernel
theorem dX5_become_178 : decode cX5_become 178 = .ok (.aload_n 1, 1) := by decide +kernel
theorem dX5_become_179 : decode cX5_become 179 = .ok (.getfield 57, 3) := by decide +kernel
theorem dX5_become_182 : decode cX5_become 182 = .ok (.iconst 0, 1) := by decide +kernel
theorem dX5_become_183 : decode cX5_become 183 = .ok (.aload_n 0, 1) := by decide +kernel
theorem dX5_become_184 : decode cX5_become 184 = .ok (.getfield 57, 3) := by decide +kernel
theorem dX5_become_187 : decode cX5_become 187 = .ok (.iconst 0, 1) := by decide +kernel
theorem dX5_become_188 : decode cX5_become 188 = .ok (.bipush 8, 2) := by decide +kernel
theorem dX5_become_190 : decode cX5_become 190 = .ok (.invokestatic 79, 3) := by decide +kernel
theorem dX5_become_193 : decode cX5_become 193 = .ok (.aload_n 0, 1) := by decide +kernel
theorem dX5_become_194 : decode cX5_become 194 = .ok (.aload_n 1, 1) := by decide +kernel
theorem dX5_become_195 : decode cX5_become 195 = .ok (.getfield 63, 3) := by decide +kernel
theorem dX5_become_198 : decode cX5_become 198 = .ok (.putfield 63, 3) := by decide +kernel
theorem dX5_become_201 : decode cX5_become 201 = .ok (.return_, 1) := by decide +kernel
theorem dX5_init_0 : decode cX5_init 0 = .ok (.aload_n 0, 1) := by decide +kernel
theorem dX5_init_1 : decode cX5_init 1 = .ok (.invokespecial 3, 3) := by decide +kernel
theorem dX5_init_4 : decode cX5_init 4 = .ok (.aload_n 0, 1) := by decide +kernel
theorem dX5_init_5 : decode cX5_init 5 = .ok (.iconst 0, 1) := by decide +kernel
theorem dX5_init_6 : decode cX5_init 6 = .ok (.putfield 9, 3) := by decide +kernel
theorem dX5_init_9 : decode cX5_init 9 = .ok (.aload_n 0, 1) := by decide +kernel
theorem dX5_init_10 : decode cX5_init 10 = .ok (.bipush 6, 2) := by decide +kernel
theorem dX5_init_12 : decode cX5_init 12 = .ok (.newarray .int, 2) := by decide +kernel
theorem dX5_init_14 : decode cX5_init 14 = .ok (.putfield 15, 3) := by decide +kernel
theorem dX5_init_17 : decode cX5_init 17 = .ok (.aload_n 0, 1) := by decide +kernel
theorem dX5_init_18 : decode cX5_init 18 = .ok (.bipush 6, 2) := by decide +kernel
theorem dX5_init_20 : decode cX5_init 20 = .ok (.newarray .int, 2) := by decide +kernel
theorem dX5_init_22 : decode cX5_init 22 = .ok (.putfield 19, 3) := by decide +kernel
theorem dX5_init_25 : decode cX5_init 25 = .ok (.aload_n 0, 1) := by decide +kernel
theorem dX5_init_26 : decode cX5_init 26 = .ok (.bipush 6, 2) := by decide +kernel
theorem dX5_init_28 : decode cX5_init 28 = .ok (.newarray .int, 2) := by decide +kernel
theorem dX5_init_30 : decode cX5_init 30 = .ok (.putfield 22, 3) := by decide +kernel
theorem dX5_init_33 : decode cX5_init 33 = .ok (.aload_n 0, 1) := by decide +kernel
theorem dX5_init_34 : decode cX5_init 34 = .ok (.bipush 6, 2) := by decide +kernel
theorem dX5_init_36 : decode cX5_init 36 = .ok (.iconst 4, 1) := by decide +kernel
theorem dX5_init_37 : decode cX5_init 37 = .ok (.multianewarray 25 2, 4) := by decide +kernel
theorem dX5_init_41 : decode cX5_init 41 = .ok (.putfield 27, 3) := by decide +kernel
theorem dX5_init_44 : decode cX5_init 44 = .ok (.aload_n 0, 1) := by decide +kernel
theorem dX5_init_45 : decode cX5_init 45 = .ok (.bipush 6, 2) := by decide +kernel
theorem dX5_init_47 : decode cX5_init 47 = .ok (.newarray .int, 2) := by decide +kernel
theorem dX5_init_49 : decode cX5_init 49 = .ok (.putfield 30, 3) := by decide +kernel
theorem dX5_init_52 : decode cX5_init 52 = .ok (.aload_n 0, 1) := by decide +kernel
theorem dX5_init_53 : decode cX5_init 53 = .ok (.iconst 1, 1) := by decide +kernel
theorem dX5_init_54 : decode cX5_init 54 = .ok (.putfield 33, 3) := by decide +kernel
theorem dX5_init_57 : decode cX5_init 57 = .ok (.aload_n 0, 1) := by decide +kernel
theorem dX5_init_58 : decode cX5_init 58 = .ok (.iconst 0, 1) := by decide +kernel
theorem dX5_init_59 : decode cX5_init 59 = .ok (.putfield 36, 3) := by decide +kernel
theorem dX5_init_62 : decode cX5_init 62 = .ok (.aload_n 0, 1) := by decide +kernel
theorem dX5_init_63 : decode cX5_init 63 = .ok (.iconst 0, 1) := by decide +kernel
theorem dX5_init_64 : decode cX5_init 64 = .ok (.putfield 39, 3) := by decide +kernel
theorem dX5_init_67 : decode cX5_init 67 = .ok (.aload_n 0, 1) := by decide +kernel
theorem dX5_init_68 : decode cX5_init 68 = .ok (.iconst 0, 1) := by decide +kernel
theorem dX5_init_69 : decode cX5_init 69 = .ok (.putfield 42, 3) := by decide +kernel
theorem dX5_init_72 : decode cX5_init 72 = .ok (.aload_n 0, 1) := by decide +kernel
theorem dX5_init_73 : decode cX5_init 73 = .ok (.iconst 0, 1) := by decide +kernel
theorem dX5_init_74 : decode cX5_init 74 = .ok (.putfield 45, 3) := by decide +kernel
theorem dX5_init_77 : decode cX5_init 77 = .ok (.aload_n 0, 1) := by decide +kernel
theorem dX5_init_78 : decode cX5_init 78 = .ok (.bipush 6, 2) := by decide +kernel
theorem dX5_init_80 : decode cX5_init 80 = .ok (.newarray .int, 2) := by decide +kernel
theorem dX5_init_82 : decode cX5_init 82 = .ok (.putfield 48, 3) := by decide +kernel
theorem dX5_init_85 : decode cX5_init 85 = .ok (.aload_n 0, 1) := by decide +kernel
theorem dX5_init_86 : decode cX5_init 86 = .ok (.bipush 6, 2) := by decide +kernel
theorem dX5_init_88 : decode cX5_init 88 = .ok (.newarray .int, 2) := by decide +kernel
theorem dX5_init_90 : decode cX5_init 90 = .ok (.putfield 51, 3) := by decide +kernel
theorem dX5_init_93 : decode cX5_init 93 = .ok (.aload_n 0, 1) := by decide +kernel
theorem dX5_init_94 : decode cX5_init 94 = .ok (.iconst 0, 1) := by decide +kernel
theorem dX5_init_95 : decode cX5_init 95 = .ok (.putfield 54, 3) := by decide +kernel
theorem dX5_init_98 : decode cX5_init 98 = .ok (.aload_n 0, 1) := by decide +kernel
theorem dX5_init_99 : decode cX5_init 99 = .ok (.bipush 8, 2) := by decide +kernel
theorem dX5_init_101 : decode cX5_init 101 = .ok (.newarray .int, 2) := by decide +kernel
theorem dX5_init_103 : decode cX5_init 103 = .ok (.putfield 57, 3) := by decide +kernel
theorem dX5_init_106 : decode cX5_init 106 = .ok (.aload_n 0, 1) := by decide +kernel
theorem dX5_init_107 : decode cX5_init 107 = .ok (.new 60, 3) := by decide +kernel
theorem dX5_init_110 : decode cX5_init 110 = .ok (.dup, 1) := by decide +kernel
theorem dX5_init_111 : decode cX5_init 111 = .ok (.invokespecial 62, 3) := by decide +kernel
theorem dX5_init_114 : decode cX5_init 114 = .ok (.putfield 63, 3) := by decide +kernel
theorem dX5_init_117 : decode cX5_init 117 = .ok (.aload_n 0, 1) := by decide +kernel
theorem dX5_init_118 : decode cX5_init 118 = .ok (.bipush 6, 2) := by decide +kernel
theorem dX5_init_120 : decode cX5_init 120 = .ok (.newarray .int, 2) := by decide +kernel
theorem dX5_init_122 : decode cX5_init 122 = .ok (.putfield 67, 3) := by decide +kernel
theorem dX5_init_125 : decode cX5_init 125 = .ok (.return_, 1) := by decide +kernel
theorem dX6_hut_0 : decode cX6_hut 0 = .ok (.aload_n 0, 1) := by decide +kernel
theorem dX6_hut_1 : decode cX6_hut 1 = .ok (.getfield 48, 3) := by decide +kernel
theorem dX6_hut_4 : decode cX6_hut 4 = .ok (.bipush 6, 2) := by decide +kernel
theorem dX6_hut_6 : decode cX6_hut 6 = .ok (.if_icmp .lt 6, 3) := by decide +kernel
theorem dX6_hut_9 : decode cX6_hut 9 = .ok (.bipush (-4), 2) := by decide +kernel
theorem dX6_hut_11 : decode cX6_hut 11 = .ok (.ireturn, 1) := by decide +kernel
theorem dX6_hut_12 : decode cX6_hut 12 = .ok (.aload_n 0, 1) := by decide +kernel
theorem dX6_hut_13 : decode cX6_hut 13 = .ok (.getfield 44, 3) := by decide +kernel
theorem dX6_hut_16 : decode cX6_hut 16 = .ok (.invokevirtual 129, 3) := by decide +kernel
theorem dX6_hut_19 : decode cX6_hut 19 = .ok (.istore_n 1, 1) := by decide +kernel
theorem dX6_hut_20 : decode cX6_hut 20 = .ok (.aload_n 0, 1) := by decide +kernel
theorem dX6_hut_21 : decode cX6_hut 21 = .ok (.getfield 44, 3) := by decide +kernel
theorem dX6_hut_24 : decode cX6_hut 24 = .ok (.iconst 0, 1) := by decide +kernel
theorem dX6_hut_25 : decode cX6_hut 25 = .ok (.putfield 123, 3) := by decide +kernel
theorem dX6_hut_28 : decode cX6_hut 28 = .ok (.iload_n 1, 1) := by decide +kernel
theorem dX6_hut_29 : decode cX6_hut 29 = .ok (.ifCond .ne 14, 3) := by decide +kernel
theorem dX6_hut_32 : decode cX6_hut 32 = .ok (.bipush (-10), 2) := by decide +kernel
theorem dX6_hut_34 : decode cX6_hut 34 = .ok (.aload_n 0, 1) := by decide +kernel
theorem dX6_hut_35 : decode cX6_hut 35 = .ok (.getfield 44, 3) := by decide +kernel
theorem dX6_hut_38 : decode cX6_hut 38 = .ok (.getfield 133, 3) := by decide +kernel
theorem dX6_hut_41 : decode cX6_hut 41 = .ok (.isub, 1) := by decide +kernel
theorem dX6_hut_42 : decode cX6_hut 42 = .ok (.ireturn, 1) := by decide +kernel
theorem dX6_hut_43 : decode cX6_hut 43 = .ok (.aload_n 0, 1) := by decide +kernel
theorem dX6_hut_44 : decode cX6_hut 44 = .ok (.getfield 12, 3) := by decide +kernel
theorem dX6_hut_47 : decode cX6_hut 47 = .ok (.aload_n 0, 1) := by decide +kernel
theorem dX6_hut_48 : decode cX6_hut 48 = .ok (.getfield 44, 3) := by decide +kernel
theorem dX6_hut_51 : decode cX6_hut 51 = .ok (.invokevirtual 136, 3) := by decide +kernel
theorem dX6_hut_54 : decode cX6_hut 54 = .ok (.putfield 140, 3) := by decide +kernel
theorem dX6_hut_57 : decode cX6_hut 57 = .ok (.aload_n 0, 1) := by decide +kernel
theorem dX6_hut_58 : decode cX6_hut 58 = .ok (.getfield 12, 3) := by decide +kernel
theorem dX6_hut_61 : decode cX6_hut 61 = .ok (.invokevirtual 120, 3) := by decide +kernel
theorem dX6_hut_64 : decode cX6_hut 64 = .ok (.aload_n 0, 1) := by decide +kernel
theorem dX6_hut_65 : decode cX6_hut 65 = .ok (.dup, 1) := by decide +kernel
theorem dX6_hut_66 : decode cX6_hut 66 = .ok (.getfield 48, 3) := by decide +kernel
theorem dX6_hut_69 : decode cX6_hut 69 = .ok (.iconst 1, 1) := by decide +kernel
theorem dX6_hut_70 : decode cX6_hut 70 = .ok (.iadd, 1) := by decide +kernel
theorem dX6_hut_71 : decode cX6_hut 71 = .ok (.putfield 48, 3) := by decide +kernel
theorem dX6_hut_74 : decode cX6_hut 74 = .ok (.aload_n 0, 1) := by decide +kernel
theorem dX6_hut_75 : decode cX6_hut 75 = .ok (.getfield 48, 3) := by decide +kernel
theorem dX6_hut_78 : decode cX6_hut 78 = .ok (.iconst 1, 1) := by decide +kernel
theorem dX6_hut_79 : decode cX6_hut 79 = .ok (.isub, 1) := by decide +kernel
theorem dX6_hut_80 : decode cX6_hut 80 = .ok (.ireturn, 1) := by decide +kernel
theorem dX6_image_0 : decode cX6_image 0 = .ok (.aload_n 0, 1) := by decide +kernel
theorem dX6_image_1 : decode cX6_image 1 = .ok (.getfield 18, 3) := by decide +kernel
theorem dX6_image_4 : decode cX6_image 4 = .ok (.aload_n 0, 1) := by decide +kernel
theorem dX6_image_5 : decode cX6_image 5 = .ok (.getfield 12, 3) := by decide +kernel
theorem dX6_image_8 : decode cX6_image 8 = .ok (.invokevirtual 260, 3) := by decide +kernel
theorem dX6_image_11 : decode cX6_image 11 = .ok (.aload_n 0, 1) := by decide +kernel
theorem dX6_image_12 : decode cX6_image 12 = .ok (.iconst 1, 1) := by decide +kernel
theorem dX6_image_13 : decode cX6_image 13 = .ok (.putfield 21, 3) := by decide +kernel
theorem dX6_image_16 : decode cX6_image 16 = .ok (.aload_n 0, 1) := by decide +kernel
theorem dX6_image_17 : decode cX6_image 17 = .ok (.getfield 18, 3) := by decide +kernel
theorem dX6_image_20 : decode cX6_image 20 = .ok (.getfield 66, 3) := by decide +kernel
theorem dX6_image_23 : decode cX6_image 23 = .ok (.ireturn, 1) := by decide +kernel
theorem dX6_init_0 : decode cX6_init 0 = .ok (.aload_n 0, 1) := by decide +kernel
theorem dX6_init_1 : decode cX6_init 1 = .ok (.invokespecial 3, 3) := by decide +kernel
theorem dX6_init_4 : decode cX6_init 4 = .ok (.aload_n 0, 1) := by decide +kernel
theorem dX6_init_5 : decode cX6_init 5 = .ok (.new 9, 3) := by decide +kernel
theorem dX6_init_8 : decode cX6_init 8 = .ok (.dup, 1) := by decide +kernel
theorem dX6_init_9 : decode cX6_init 9 = .ok (.invokespecial 11, 3) := by decide +kernel
theorem dX6_init_12 : decode cX6_init 12 = .ok (.putfield 12, 3) := by decide +kernel
theorem dX6_init_15 : decode cX6_init 15 = .ok (.aload_n 0, 1) := by decide +kernel
theorem dX6_init_16 : decode cX6_init 16 = .ok (.new 9, 3) := by decide +kernel
theorem dX6_init_19 : decode cX6_init 19 = .ok (.dup, 1) := by decide +kernel
theorem dX6_init_20 : decode cX6_init 20 = .ok (.invokespecial 11, 3) := by decide +kernel
theorem dX6_init_23 : decode cX6_init 23 = .ok (.putfield 18, 3) := by decide +kernel
theorem dX6_init_26 : decode cX6_init 26 = .ok (.aload_n 0, 1) := by decide +kernel
theorem dX6_init_27 : decode cX6_init 27 = .ok (.iconst 0, 1) := by decide +kernel
theorem dX6_init_28 : decode cX6_init 28 = .ok (.putfield 21, 3) := by decide +kernel
theorem dX6_init_31 : decode cX6_init 31 = .ok (.aload_n 0, 1) := by decide +kernel
theorem dX6_init_32 : decode cX6_init 32 = .ok (.new 25, 3) := by decide +kernel
theorem dX6_init_35 : decode cX6_init 35 = .ok (.dup, 1) := by decide +kernel
theorem dX6_init_36 : decode cX6_init 36 = .ok (.aload_n 0, 1) := by decide +kernel
theorem dX6_init_37 : decode cX6_init 37 = .ok (.getfield 12, 3) := by decide +kernel
theorem dX6_init_40 : decode cX6_init 40 = .ok (.invokespecial 27, 3) := by decide +kernel
theorem dX6_init_43 : decode cX6_init 43 = .ok (.putfield 30, 3) := by decide +kernel
theorem dX6_init_46 : decode cX6_init 46 = .ok (.aload_n 0, 1) := by decide +kernel
theorem dX6_init_47 : decode cX6_init 47 = .ok (.bipush 6, 2) := by decide +kernel
theorem dX6_init_49 : decode cX6_init 49 = .ok (.newarray .int, 2) := by decide +kernel
theorem dX6_init_51 : decode cX6_init 51 = .ok (.putfield 34, 3) := by decide +kernel
theorem dX6_init_54 : decode cX6_init 54 = .ok (.aload_n 0, 1) := by decide +kernel
theorem dX6_init_55 : decode cX6_init 55 = .ok (.bipush 6, 2) := by decide +kernel
theorem dX6_init_57 : decode cX6_init 57 = .ok (.newarray .int, 2) := by decide +kernel
theorem dX6_init_59 : decode cX6_init 59 = .ok (.putfield 38, 3) := by decide +kernel
theorem dX6_init_62 : decode cX6_init 62 = .ok (.aload_n 0, 1) := by decide +kernel
theorem dX6_init_63 : decode cX6_init 63 = .ok (.new 41, 3) := by decide +kernel
theorem dX6_init_66 : decode cX6_init 66 = .ok (.dup, 1) := by decide +kernel
theorem dX6_init_67 : decode cX6_init 67 = .ok (.invokespecial 43, 3) := by decide +kernel
theorem dX6_init_70 : decode cX6_init 70 = .ok (.putfield 44, 3) := by decide +kernel
theorem dX6_init_73 : decode cX6_init 73 = .ok (.aload_n 0, 1) := by decide +kernel
theorem dX6_init_74 : decode cX6_init 74 = .ok (.iconst 0, 1) := by decide +kernel
theorem dX6_init_75 : decode cX6_init 75 = .ok (.putfield 48, 3) := by decide +kernel
theorem dX6_init_78 : decode cX6_init 78 = .ok (.aload_n 0, 1) := by decide +kernel
theorem dX6_init_79 : decode cX6_init 79 = .ok (.new 52, 3) := by decide +kernel
theorem dX6_init_82 : decode cX6_init 82 = .ok (.dup, 1) := by decide +kernel
theorem dX6_init_83 : decode cX6_init 83 = .ok (.invokespecial 54, 3) := by decide +kernel
theorem dX6_init_86 : decode cX6_init 86 = .ok (.putfield 55, 3) := by decide +kernel
theorem dX6_init_89 : decode cX6_init 89 = .ok (.aload_n 0, 1) := by decide +kernel
theorem dX6_init_90 : decode cX6_init 90 = .ok (.bipush 6, 2) := by decide +kernel
theorem dX6_init_92 : decode cX6_init 92 = .ok (.anewarray 59, 3) := by decide +kernel
theorem dX6_init_95 : decode cX6_init 95 = .ok (.putfield 61, 3) := by decide +kernel
theorem dX6_init_98 : decode cX6_init 98 = .ok (.iconst 0, 1) := by decide +kernel
theorem dX6_init_99 : decode cX6_init 99 = .ok (.istore_n 1, 1) := by decide +kernel
theorem dX6_init_100 : decode cX6_init 100 = .ok (.iload_n 1, 1) := by decide +kernel
theorem dX6_init_101 : decode cX6_init 101 = .ok (.bipush 6, 2) := by decide +kernel
theorem dX6_init_103 : decode cX6_init 103 = .ok (.if_icmp .ge 22, 3) := by decide +kernel
theorem dX6_init_106 : decode cX6_init 106 = .ok (.aload_n 0, 1) := by decide +kernel
theorem dX6_init_107 : decode cX6_init 107 = .ok (.getfield 61, 3) := by decide +kernel
theorem dX6_init_110 : decode cX6_init 110 = .ok (.iload_n 1, 1) := by decide +kernel
theorem dX6_init_111 : decode cX6_init 111 = .ok (.new 59, 3) := by decide +kernel
theorem dX6_init_114 : decode cX6_init 114 = .ok (.dup, 1) := by decide +kernel
theorem dX6_init_115 : decode cX6_init 115 = .ok (.invokespecial 65, 3) := by decide +kernel
theorem dX6_init_118 : decode cX6_init 118 = .ok (.aastore, 1) := by decide +kernel
theorem dX6_init_119 : decode cX6_init 119 = .ok (.iinc 1 1, 3) := by decide +kernel
theorem dX6_init_122 : decode cX6_init 122 = .ok (.goto (-22), 3) := by decide +kernel
theorem dX6_init_125 : decode cX6_init 125 = .ok (.return_, 1) := by decide +kernel
theorem dX6_undo_0 : decode cX6_undo 0 = .ok (.aload_n 0, 1) := by decide +kernel
theorem dX6_undo_1 : decode cX6_undo 1 = .ok (.getfield 21, 3) := by decide +kernel
theorem dX6_undo_4 : decode cX6_undo 4 = .ok (.ifCond .ne 6, 3) := by decide +kernel
theorem dX6_undo_7 : decode cX6_undo 7 = .ok (.bipush (-3), 2) := by decide +kernel
theorem dX6_undo_9 : decode cX6_undo 9 = .ok (.ireturn, 1) := by decide +kernel
theorem dX6_undo_10 : decode cX6_undo 10 = .ok (.aload_n 0, 1) := by decide +kernel
theorem dX6_undo_11 : decode cX6_undo 11 = .ok (.getfield 12, 3) := by decide +kernel
theorem dX6_undo_14 : decode cX6_undo 14 = .ok (.aload_n 0, 1) := by decide +kernel
theorem dX6_undo_15 : decode cX6_undo 15 = .ok (.getfield 18, 3) := by decide +kernel
theorem dX6_undo_18 : decode cX6_undo 18 = .ok (.invokevirtual 260, 3) := by decide +kernel
theorem dX6_undo_21 : decode cX6_undo 21 = .ok (.aload_n 0, 1) := by decide +kernel
theorem dX6_undo_22 : decode cX6_undo 22 = .ok (.getfield 12, 3) := by decide +kernel
theorem dX6_undo_25 : decode cX6_undo 25 = .ok (.getfield 66, 3) := by decide +kernel
theorem dX6_undo_28 : decode cX6_undo 28 = .ok (.ireturn, 1) := by decide +kernel
theorem dX7_init_0 : decode cX7_init 0 = .ok (.aload_n 0, 1) := by decide +kernel
theorem dX7_init_1 : decode cX7_init 1 = .ok (.invokespecial 12, 3) := by decide +kernel
theorem dX7_init_4 : decode cX7_init 4 = .ok (.aload_n 0, 1) := by decide +kernel
theorem dX7_init_5 : decode cX7_init 5 = .ok (.iconst 0, 1) := by decide +kernel
theorem dX7_init_6 : decode cX7_init 6 = .ok (.putfield 1, 3) := by decide +kernel
theorem dX7_init_9 : decode cX7_init 9 = .ok (.aload_n 0, 1) := by decide +kernel
theorem dX7_init_10 : decode cX7_init 10 = .ok (.iconst 0, 1) := by decide +kernel
theorem dX7_init_11 : decode cX7_init 11 = .ok (.putfield 18, 3) := by decide +kernel
theorem dX7_init_14 : decode cX7_init 14 = .ok (.aload_n 0, 1) := by decide +kernel
theorem dX7_init_15 : decode cX7_init 15 = .ok (.iconst 0, 1) := by decide +kernel
theorem dX7_init_16 : decode cX7_init 16 = .ok (.putfield 21, 3) := by decide +kernel
theorem dX7_init_19 : decode cX7_init 19 = .ok (.aload_n 0, 1) := by decide +kernel
theorem dX7_init_20 : decode cX7_init 20 = .ok (.iconst 0, 1) := by decide +kernel
theorem dX7_init_21 : decode cX7_init 21 = .ok (.putfield 24, 3) := by decide +kernel
theorem dX7_init_24 : decode cX7_init 24 = .ok (.aload_n 0, 1) := by decide +kernel
theorem dX7_init_25 : decode cX7_init 25 = .ok (.iconst 0, 1) := by decide +kernel
theorem dX7_init_26 : decode cX7_init 26 = .ok (.putfield 27, 3) := by decide +kernel
theorem dX7_init_29 : decode cX7_init 29 = .ok (.aload_n 0, 1) := by decide +kernel
theorem dX7_init_30 : decode cX7_init 30 = .ok (.bipush 6, 2) := by decide +kernel
theorem dX7_init_32 : decode cX7_init 32 = .ok (.newarray .int, 2) := by decide +kernel
theorem dX7_init_34 : decode cX7_init 34 = .ok (.putfield 30, 3) := by decide +kernel
theorem dX7_init_37 : decode cX7_init 37 = .ok (.aload_n 0, 1) := by decide +kernel
theorem dX7_init_38 : decode cX7_init 38 = .ok (.bipush 6, 2) := by decide +kernel
theorem dX7_init_40 : decode cX7_init 40 = .ok (.newarray .int, 2) := by decide +kernel
theorem dX7_init_42 : decode cX7_init 42 = .ok (.putfield 34, 3) := by decide +kernel
theorem dX7_init_45 : decode cX7_init 45 = .ok (.aload_n 0, 1) := by decide +kernel
theorem dX7_init_46 : decode cX7_init 46 = .ok (.bipush 6, 2) := by decide +kernel
theorem dX7_init_48 : decode cX7_init 48 = .ok (.newarray .int, 2) := by decide +kernel
theorem dX7_init_50 : decode cX7_init 50 = .ok (.putfield 37, 3) := by decide +kernel
theorem dX7_init_53 : decode cX7_init 53 = .ok (.aload_n 0, 1) := by decide +kernel
theorem dX7_init_54 : decode cX7_init 54 = .ok (.bipush 24, 2) := by decide +kernel
theorem dX7_init_56 : decode cX7_init 56 = .ok (.newarray .int, 2) := by decide +kernel
theorem dX7_init_58 : decode cX7_init 58 = .ok (.putfield 40, 3) := by decide +kernel
theorem dX7_init_61 : decode cX7_init 61 = .ok (.aload_n 0, 1) := by decide +kernel
theorem dX7_init_62 : decode cX7_init 62 = .ok (.bipush 6, 2) := by decide +kernel
theorem dX7_init_64 : decode cX7_init 64 = .ok (.newarray .int, 2) := by decide +kernel
theorem dX7_init_66 : decode cX7_init 66 = .ok (.putfield 43, 3) := by decide +kernel
theorem dX7_init_69 : decode cX7_init 69 = .ok (.aload_n 0, 1) := by decide +kernel
theorem dX7_init_70 : decode cX7_init 70 = .ok (.iconst 0, 1) := by decide +kernel
theorem dX7_init_71 : decode cX7_init 71 = .ok (.putfield 46, 3) := by decide +kernel
theorem dX7_init_74 : decode cX7_init 74 = .ok (.aload_n 0, 1) := by decide +kernel
theorem dX7_init_75 : decode cX7_init 75 = .ok (.iconst (-1), 1) := by decide +kernel
theorem dX7_init_76 : decode cX7_init 76 = .ok (.putfield 49, 3) := by decide +kernel
theorem dX7_init_79 : decode cX7_init 79 = .ok (.aload_n 0, 1) := by decide +kernel
theorem dX7_init_80 : decode cX7_init 80 = .ok (.iconst 0, 1) := by decide +kernel
theorem dX7_init_81 : decode cX7_init 81 = .ok (.putfield 52, 3) := by decide +kernel
theorem dX7_init_84 : decode cX7_init 84 = .ok (.aload_n 0, 1) := by decide +kernel
theorem dX7_init_85 : decode cX7_init 85 = .ok (.iconst 0, 1) := by decide +kernel
theorem dX7_init_86 : decode cX7_init 86 = .ok (.putfield 55, 3) := by decide +kernel
theorem dX7_init_89 : decode cX7_init 89 = .ok (.aload_n 0, 1) := by decide +kernel
theorem dX7_init_90 : decode cX7_init 90 = .ok (.iconst 0, 1) := by decide +kernel
theorem dX7_init_91 : decode cX7_init 91 = .ok (.putfield 58, 3) := by decide +kernel
theorem dX7_init_94 : decode cX7_init 94 = .ok (.aload_n 0, 1) := by decide +kernel
theorem dX7_init_95 : decode cX7_init 95 = .ok (.bipush 100, 2) := by decide +kernel
theorem dX7_init_97 : decode cX7_init 97 = .ok (.newarray .int, 2) := by decide +kernel
theorem dX7_init_99 : decode cX7_init 99 = .ok (.putfield 61, 3) := by decide +kernel
theorem dX7_init_102 : decode cX7_init 102 = .ok (.aload_n 0, 1) := by decide +kernel
theorem dX7_init_103 : decode cX7_init 103 = .ok (.bipush 6, 2) := by decide +kernel
theorem dX7_init_105 : decode cX7_init 105 = .ok (.newarray .int, 2) := by decide +kernel
theorem dX7_init_107 : decode cX7_init 107 = .ok (.putfield 64, 3) := by decide +kernel
theorem dX7_init_110 : decode cX7_init 110 = .ok (.aload_n 0, 1) := by decide +kernel
theorem dX7_init_111 : decode cX7_init 111 = .ok (.bipush 60, 2) := by decide +kernel
theorem dX7_init_113 : decode cX7_init 113 = .ok (.newarray .int, 2) := by decide +kernel
theorem dX7_init_115 : decode cX7_init 115 = .ok (.putfield 67, 3) := by decide +kernel
theorem dX7_init_118 : decode cX7_init 118 = .ok (.aload_n 0, 1) := by decide +kernel
theorem dX7_init_119 : decode cX7_init 119 = .ok (.bipush 60, 2) := by decide +kernel
theorem dX7_init_121 : decode cX7_init 121 = .ok (.newarray .int, 2) := by decide +kernel
theorem dX7_init_123 : decode cX7_init 123 = .ok (.putfield 70, 3) := by decide +kernel
theorem dX7_init_126 : decode cX7_init 126 = .ok (.aload_n 0, 1) := by decide +kernel
theorem dX7_init_127 : decode cX7_init 127 = .ok (.bipush 60, 2) := by decide +kernel
theorem dX7_init_129 : decode cX7_init 129 = .ok (.newarray .int, 2) := by decide +kernel
theorem dX7_init_131 : decode cX7_init 131 = .ok (.putfield 73, 3) := by decide +kernel
theorem dX7_init_134 : decode cX7_init 134 = .ok (.aload_n 0, 1) := by decide +kernel
theorem dX7_init_135 : decode cX7_init 135 = .ok (.bipush 60, 2) := by decide +kernel
theorem dX7_init_137 : decode cX7_init 137 = .ok (.newarray .int, 2) := by decide +kernel
theorem dX7_init_139 : decode cX7_init 139 = .ok (.putfield 76, 3) := by decide +kernel
theorem dX7_init_142 : decode cX7_init 142 = .ok (.aload_n 0, 1) := by decide +kernel
theorem dX7_init_143 : decode cX7_init 143 = .ok (.sipush 600, 3) := by decide +kernel
theorem dX7_init_146 : decode cX7_init 146 = .ok (.newarray .int, 2) := by decide +kernel
theorem dX7_init_148 : decode cX7_init 148 = .ok (.putfield 79, 3) := by decide +kernel
theorem dX7_init_151 : decode cX7_init 151 = .ok (.aload_n 0, 1) := by decide +kernel
theorem dX7_init_152 : decode cX7_init 152 = .ok (.bipush 101, 2) := by decide +kernel
theorem dX7_init_154 : decode cX7_init 154 = .ok (.newarray .int, 2) := by decide +kernel
theorem dX7_init_156 : decode cX7_init 156 = .ok (.putfield 82, 3) := by decide +kernel
theorem dX7_init_159 : decode cX7_init 159 = .ok (.aload_n 0, 1) := by decide +kernel
theorem dX7_init_160 : decode cX7_init 160 = .ok (.iconst 0, 1) := by decide +kernel
theorem dX7_init_161 : decode cX7_init 161 = .ok (.putfield 85, 3) := by decide +kernel
theorem dX7_init_164 : decode cX7_init 164 = .ok (.aload_n 0, 1) := by decide +kernel
theorem dX7_init_165 : decode cX7_init 165 = .ok (.iconst 0, 1) := by decide +kernel
theorem dX7_init_166 : decode cX7_init 166 = .ok (.putfield 88, 3) := by decide +kernel
theorem dX7_init_169 : decode cX7_init 169 = .ok (.aload_n 0, 1) := by decide +kernel
theorem dX7_init_170 : decode cX7_init 170 = .ok (.iconst 0, 1) := by decide +kernel
theorem dX7_init_171 : decode cX7_init 171 = .ok (.putfield 91, 3) := by decide +kernel
theorem dX7_init_174 : decode cX7_init 174 = .ok (.aload_n 0, 1) := by decide +kernel
theorem dX7_init_175 : decode cX7_init 175 = .ok (.bipush 16, 2) := by decide +kernel
theorem dX7_init_177 : decode cX7_init 177 = .ok (.newarray .int, 2) := by decide +kernel
theorem dX7_init_179 : decode cX7_init 179 = .ok (.dup, 1) := by decide +kernel
theorem dX7_init_180 : decode cX7_init 180 = .ok (.iconst 0, 1) := by decide +kernel
theorem dX7_init_181 : decode cX7_init 181 = .ok (.bipush 108, 2) := by decide +kernel
theorem dX7_init_183 : decode cX7_init 183 = .ok (.iastore, 1) := by decide +kernel
theorem dX7_init_184 : decode cX7_init 184 = .ok (.dup, 1) := by decide +kernel
theorem dX7_init_185 : decode cX7_init 185 = .ok (.iconst 1, 1) := by decide +kernel
theorem dX7_init_186 : decode cX7_init 186 = .ok (.bipush 101, 2) := by decide +kernel
theorem dX7_init_188 : decode cX7_init 188 = .ok (.iastore, 1) := by decide +kernel
theorem dX7_init_189 : decode cX7_init 189 = .ok (.dup, 1) := by decide +kernel
theorem dX7_init_190 : decode cX7_init 190 = .ok (.iconst 2, 1) := by decide +kernel
theorem dX7_init_191 : decode cX7_init 191 = .ok (.bipush 97, 2) := by decide +kernel
theorem dX7_init_193 : decode cX7_init 193 = .ok (.iastore, 1) := by decide +kernel
theorem dX7_init_194 : decode cX7_init 194 = .ok (.dup, 1) := by decide +kernel
theorem dX7_init_195 : decode cX7_init 195 = .ok (.iconst 3, 1) := by decide +kernel
theorem dX7_init_196 : decode cX7_init 196 = .ok (.bipush 110, 2) := by decide +kernel
theorem dX7_init_198 : decode cX7_init 198 = .ok (.iastore, 1) := by decide +kernel
theorem dX7_init_199 : decode cX7_init 199 = .ok (.dup, 1) := by decide +kernel
theorem dX7_init_200 : decode cX7_init 200 = .ok (.iconst 4, 1) := by decide +kernel
theorem dX7_init_201 : decode cX7_init 201 = .ok (.bipush 115, 2) := by decide +kernel
theorem dX7_init_203 : decode cX7_init 203 = .ok (.iastore, 1) := by decide +kernel
theorem dX7_init_204 : decode cX7_init 204 = .ok (.dup, 1) := by decide +kernel
theorem dX7_init_205 : decode cX7_init 205 = .ok (.iconst 5, 1) := by decide +kernel
theorem dX7_init_206 : decode cX7_init 206 = .ok (.bipush 104, 2) := by decide +kernel
theorem dX7_init_208 : decode cX7_init 208 = .ok (.iastore, 1) := by decide +kernel
theorem dX7_init_209 : decode cX7_init 209 = .ok (.dup, 1) := by decide +kernel
theorem dX7_init_210 : decode cX7_init 210 = .ok (.bipush 6, 2) := by decide +kernel
theorem dX7_init_212 : decode cX7_init 212 = .ok (.bipush 121, 2) := by decide +kernel
theorem dX7_init_214 : decode cX7_init 214 = .ok (.iastore, 1) := by decide +kernel
theorem dX7_init_215 : decode cX7_init 215 = .ok (.dup, 1) := by decide +kernel
theorem dX7_init_216 : decode cX7_init 216 = .ok (.bipush 7, 2) := by decide +kernel
theorem dX7_init_218 : decode cX7_init 218 = .ok (.bipush 115, 2) := by decide +kernel
theorem dX7_init_220 : decode cX7_init 220 = .ok (.iastore, 1) := by decide +kernel
theorem dX7_init_221 : decode cX7_init 221 = .ok (.dup, 1) := by decide +kernel
theorem dX7_init_222 : decode cX7_init 222 = .ok (.bipush 8, 2) := by decide +kernel
theorem dX7_init_224 : decode cX7_init 224 = .ok (.bipush 104, 2) := by decide +kernel
theorem dX7_init_226 : decode cX7_init 226 = .ok (.iastore, 1) := by decide +kernel
theorem dX7_init_227 : decode cX7_init 227 = .ok (.dup, 1) := by decide +kernel
theorem dX7_init_228 : decode cX7_init 228 = .ok (.bipush 9, 2) := by decide +kernel
theorem dX7_init_230 : decode cX7_init 230 = .ok (.bipush 111, 2) := by decide +kernel
theorem dX7_init_232 : decode cX7_init 232 = .ok (.iastore, 1) := by decide +kernel
theorem dX7_init_233 : decode cX7_init 233 = .ok (.dup, 1) := by decide +kernel
theorem dX7_init_234 : decode cX7_init 234 = .ok (.bipush 10, 2) := by decide +kernel
theorem dX7_init_236 : decode cX7_init 236 = .ok (.bipush 114, 2) := by decide +kernel
theorem dX7_init_238 : decode cX7_init 238 = .ok (.iastore, 1) := by decide +kernel
theorem dX7_init_239 : decode cX7_init 239 = .ok (.dup, 1) := by decide +kernel
theorem dX7_init_240 : decode cX7_init 240 = .ok (.bipush 11, 2) := by decide +kernel
theorem dX7_init_242 : decode cX7_init 242 = .ok (.bipush 116, 2) := by decide +kernel
theorem dX7_init_244 : decode cX7_init 244 = .ok (.iastore, 1) := by decide +kernel
theorem dX7_init_245 : decode cX7_init 245 = .ok (.dup, 1) := by decide +kernel
theorem dX7_init_246 : decode cX7_init 246 = .ok (.bipush 12, 2) := by decide +kernel
theorem dX7_init_248 : decode cX7_init 248 = .ok (.bipush 109, 2) := by decide +kernel
theorem dX7_init_250 : decode cX7_init 250 = .ok (.iastore, 1) := by decide +kernel
theorem dX7_init_251 : decode cX7_init 251 = .ok (.dup, 1) := by decide +kernel
theorem dX7_init_252 : decode cX7_init 252 = .ok (.bipush 13, 2) := by decide +kernel
theorem dX7_init_254 : decode cX7_init 254 = .ok (.bipush 111, 2) := by decide +kernel
theorem dX7_init_256 : decode cX7_init 256 = .ok (.iastore, 1) := by decide +kernel
theorem dX7_init_257 : decode cX7_init 257 = .ok (.dup, 1) := by decide +kernel
theorem dX7_init_258 : decode cX7_init 258 = .ok (.bipush 14, 2) := by decide +kernel
theorem dX7_init_260 : decode cX7_init 260 = .ok (.bipush 114, 2) := by decide +kernel
theorem dX7_init_262 : decode cX7_init 262 = .ok (.iastore, 1) := by decide +kernel
theorem dX7_init_263 : decode cX7_init 263 = .ok (.dup, 1) := by decide +kernel
theorem dX7_init_264 : decode cX7_init 264 = .ok (.bipush 15, 2) := by decide +kernel
theorem dX7_init_266 : decode cX7_init 266 = .ok (.bipush 101, 2) := by decide +kernel
theorem dX7_init_268 : decode cX7_init 268 = .ok (.iastore, 1) := by decide +kernel
theorem dX7_init_269 : decode cX7_init 269 = .ok (.putfield 94, 3) := by decide +kernel
theorem dX7_init_272 : decode cX7_init 272 = .ok (.aload_n 0, 1) := by decide +kernel
theorem dX7_init_273 : decode cX7_init 273 = .ok (.bipush 100, 2) := by decide +kernel
theorem dX7_init_275 : decode cX7_init 275 = .ok (.newarray .boolean, 2) := by decide +kernel
theorem dX7_init_277 : decode cX7_init 277 = .ok (.putfield 97, 3) := by decide +kernel
theorem dX7_init_280 : decode cX7_init 280 = .ok (.aload_n 0, 1) := by decide +kernel
theorem dX7_init_281 : decode cX7_init 281 = .ok (.iconst 0, 1) := by decide +kernel
theorem dX7_init_282 : decode cX7_init 282 = .ok (.putfield 101, 3) := by decide +kernel
theorem dX7_init_285 : decode cX7_init 285 = .ok (.aload_n 0, 1) := by decide +kernel
theorem dX7_init_286 : decode cX7_init 286 = .ok (.iconst 0, 1) := by decide +kernel
theorem dX7_init_287 : decode cX7_init 287 = .ok (.putfield 104, 3) := by decide +kernel
theorem dX7_init_290 : decode cX7_init 290 = .ok (.aload_n 0, 1) := by decide +kernel
theorem dX7_init_291 : decode cX7_init 291 = .ok (.iconst 0, 1) := by decide +kernel
theorem dX7_init_292 : decode cX7_init 292 = .ok (.putfield 107, 3) := by decide +kernel
theorem dX7_init_295 : decode cX7_init 295 = .ok (.aload_n 0, 1) := by decide +kernel
theorem dX7_init_296 : decode cX7_init 296 = .ok (.bipush 6, 2) := by decide +kernel
theorem dX7_init_298 : decode cX7_init 298 = .ok (.newarray .int, 2) := by decide +kernel
theorem dX7_init_300 : decode cX7_init 300 = .ok (.putfield 110, 3) := by decide +kernel
theorem dX7_init_303 : decode cX7_init 303 = .ok (.aload_n 0, 1) := by decide +kernel
theorem dX7_init_304 : decode cX7_init 304 = .ok (.iconst 5, 1) := by decide +kernel
theorem dX7_init_305 : decode cX7_init 305 = .ok (.newarray .int, 2) := by decide +kernel
theorem dX7_init_307 : decode cX7_init 307 = .ok (.putfield 113, 3) := by decide +kernel
theorem dX7_init_310 : decode cX7_init 310 = .ok (.aload_n 0, 1) := by decide +kernel
theorem dX7_init_311 : decode cX7_init 311 = .ok (.iconst 5, 1) := by decide +kernel
theorem dX7_init_312 : decode cX7_init 312 = .ok (.newarray .int, 2) := by decide +kernel
theorem dX7_init_314 : decode cX7_init 314 = .ok (.putfield 116, 3) := by decide +kernel
theorem dX7_init_317 : decode cX7_init 317 = .ok (.aload_n 0, 1) := by decide +kernel
theorem dX7_init_318 : decode cX7_init 318 = .ok (.iconst 0, 1) := by decide +kernel
theorem dX7_init_319 : decode cX7_init 319 = .ok (.putfield 119, 3) := by decide +kernel
theorem dX7_init_322 : decode cX7_init 322 = .ok (.aload_n 0, 1) := by decide +kernel
theorem dX7_init_323 : decode cX7_init 323 = .ok (.bipush 6, 2) := by decide +kernel
theorem dX7_init_325 : decode cX7_init 325 = .ok (.newarray .int, 2) := by decide +kernel
theorem dX7_init_327 : decode cX7_init 327 = .ok (.putfield 122, 3) := by decide +kernel
theorem dX7_init_330 : decode cX7_init 330 = .ok (.aload_n 0, 1) := by decide +kernel
theorem dX7_init_331 : decode cX7_init 331 = .ok (.bipush 6, 2) := by decide +kernel
theorem dX7_init_333 : decode cX7_init 333 = .ok (.newarray .int, 2) := by decide +kernel
theorem dX7_init_335 : decode cX7_init 335 = .ok (.putfield 125, 3) := by decide +kernel
theorem dX7_init_338 : decode cX7_init 338 = .ok (.aload_n 0, 1) := by decide +kernel
theorem dX7_init_339 : decode cX7_init 339 = .ok (.iconst 0, 1) := by decide +kernel
theorem dX7_init_340 : decode cX7_init 340 = .ok (.putfield 128, 3) := by decide +kernel
theorem dX7_init_343 : decode cX7_init 343 = .ok (.aload_n 0, 1) := by decide +kernel
theorem dX7_init_344 : decode cX7_init 344 = .ok (.iconst 0, 1) := by decide +kernel
theorem dX7_init_345 : decode cX7_init 345 = .ok (.putfield 131, 3) := by decide +kernel
theorem dX7_init_348 : decode cX7_init 348 = .ok (.aload_n 0, 1) := by decide +kernel
theorem dX7_init_349 : decode cX7_init 349 = .ok (.iconst 0, 1) := by decide +kernel
theorem dX7_init_350 : decode cX7_init 350 = .ok (.putfield 134, 3) := by decide +kernel
theorem dX7_init_353 : decode cX7_init 353 = .ok (.aload_n 0, 1) := by decide +kernel
theorem dX7_init_354 : decode cX7_init 354 = .ok (.bipush 6, 2) := by decide +kernel
theorem dX7_init_356 : decode cX7_init 356 = .ok (.newarray .int, 2) := by decide +kernel
theorem dX7_init_358 : decode cX7_init 358 = .ok (.putfield 137, 3) := by decide +kernel
theorem dX7_init_361 : decode cX7_init 361 = .ok (.aload_n 0, 1) := by decide +kernel
theorem dX7_init_362 : decode cX7_init 362 = .ok (.iconst 0, 1) := by decide +kernel
theorem dX7_init_363 : decode cX7_init 363 = .ok (.putfield 140, 3) := by decide +kernel
theorem dX7_init_366 : decode cX7_init 366 = .ok (.aload_n 0, 1) := by decide +kernel
theorem dX7_init_367 : decode cX7_init 367 = .ok (.bipush 6, 2) := by decide +kernel
theorem dX7_init_369 : decode cX7_init 369 = .ok (.newarray .int, 2) := by decide +kernel
theorem dX7_init_371 : decode cX7_init 371 = .ok (.putfield 143, 3) := by decide +kernel
theorem dX7_init_374 : decode cX7_init 374 = .ok (.aload_n 0, 1) := by decide +kernel
theorem dX7_init_375 : decode cX7_init 375 = .ok (.bipush 6, 2) := by decide +kernel
theorem dX7_init_377 : decode cX7_init 377 = .ok (.newarray .boolean, 2) := by decide +kernel
theorem dX7_init_379 : decode cX7_init 379 = .ok (.putfield 146, 3) := by decide +kernel
theorem dX7_init_382 : decode cX7_init 382 = .ok (.aload_n 0, 1) := by decide +kernel
theorem dX7_init_383 : decode cX7_init 383 = .ok (.iconst 0, 1) := by decide +kernel
theorem dX7_init_384 : decode cX7_init 384 = .ok (.putfield 149, 3) := by decide +kernel
theorem dX7_init_387 : decode cX7_init 387 = .ok (.aload_n 0, 1) := by decide +kernel
theorem dX7_init_388 : decode cX7_init 388 = .ok (.bipush 8, 2) := by decide +kernel
theorem dX7_init_390 : decode cX7_init 390 = .ok (.newarray .int, 2) := by decide +kernel
theorem dX7_init_392 : decode cX7_init 392 = .ok (.putfield 152, 3) := by decide +kernel
theorem dX7_init_395 : decode cX7_init 395 = .ok (.aload_n 0, 1) := by decide +kernel
theorem dX7_init_396 : decode cX7_init 396 = .ok (.iconst 0, 1) := by decide +kernel
theorem dX7_init_397 : decode cX7_init 397 = .ok (.putfield 155, 3) := by decide +kernel
theorem dX7_init_400 : decode cX7_init 400 = .ok (.aload_n 0, 1) := by decide +kernel
theorem dX7_init_401 : decode cX7_init 401 = .ok (.iconst (-1), 1) := by decide +kernel
theorem dX7_init_402 : decode cX7_init 402 = .ok (.putfield 159, 3) := by decide +kernel
theorem dX7_init_405 : decode cX7_init 405 = .ok (.aload_n 0, 1) := by decide +kernel
theorem dX7_init_406 : decode cX7_init 406 = .ok (.iconst 0, 1) := by decide +kernel
theorem dX7_init_407 : decode cX7_init 407 = .ok (.putfield 162, 3) := by decide +kernel
theorem dX7_init_410 : decode cX7_init 410 = .ok (.aload_n 0, 1) := by decide +kernel
theorem dX7_init_411 : decode cX7_init 411 = .ok (.iconst 0, 1) := by decide +kernel
theorem dX7_init_412 : decode cX7_init 412 = .ok (.putfield 165, 3) := by decide +kernel
theorem dX7_init_415 : decode cX7_init 415 = .ok (.aload_n 0, 1) := by decide +kernel
theorem dX7_init_416 : decode cX7_init 416 = .ok (.iconst 0, 1) := by decide +kernel
theorem dX7_init_417 : decode cX7_init 417 = .ok (.putfield 168, 3) := by decide +kernel
theorem dX7_init_420 : decode cX7_init 420 = .ok (.aload_n 0, 1) := by decide +kernel
theorem dX7_init_421 : decode cX7_init 421 = .ok (.iconst 0, 1) := by decide +kernel
theorem dX7_init_422 : decode cX7_init 422 = .ok (.putfield 171, 3) := by decide +kernel
theorem dX7_init_425 : decode cX7_init 425 = .ok (.aload_n 0, 1) := by decide +kernel
theorem dX7_init_426 : decode cX7_init 426 = .ok (.iconst 0, 1) := by decide +kernel
theorem dX7_init_427 : decode cX7_init 427 = .ok (.putfield 174, 3) := by decide +kernel
theorem dX7_init_430 : decode cX7_init 430 = .ok (.aload_n 0, 1) := by decide +kernel
theorem dX7_init_431 : decode cX7_init 431 = .ok (.iconst 0, 1) := by decide +kernel
theorem dX7_init_432 : decode cX7_init 432 = .ok (.putfield 177, 3) := by decide +kernel
theorem dX7_init_435 : decode cX7_init 435 = .ok (.aload_n 0, 1) := by decide +kernel
theorem dX7_init_436 : decode cX7_init 436 = .ok (.iconst 0, 1) := by decide +kernel
theorem dX7_init_437 : decode cX7_init 437 = .ok (.putfield 180, 3) := by decide +kernel
theorem dX7_init_440 : decode cX7_init 440 = .ok (.aload_n 0, 1) := by decide +kernel
theorem dX7_init_441 : decode cX7_init 441 = .ok (.bipush 6, 2) := by decide +kernel
theorem dX7_init_443 : decode cX7_init 443 = .ok (.newarray .int, 2) := by decide +kernel
theorem dX7_init_445 : decode cX7_init 445 = .ok (.putfield 183, 3) := by decide +kernel
theorem dX7_init_448 : decode cX7_init 448 = .ok (.aload_n 0, 1) := by decide +kernel
theorem dX7_init_449 : decode cX7_init 449 = .ok (.bipush 6, 2) := by decide +kernel
theorem dX7_init_451 : decode cX7_init 451 = .ok (.newarray .int, 2) := by decide +kernel
theorem dX7_init_453 : decode cX7_init 453 = .ok (.putfield 186, 3) := by decide +kernel
theorem dX7_init_456 : decode cX7_init 456 = .ok (.aload_n 0, 1) := by decide +kernel
theorem dX7_init_457 : decode cX7_init 457 = .ok (.bipush 6, 2) := by decide +kernel
theorem dX7_init_459 : decode cX7_init 459 = .ok (.newarray .int, 2) := by decide +kernel
theorem dX7_init_461 : decode cX7_init 461 = .ok (.putfield 189, 3) := by decide +kernel
theorem dX7_init_464 : decode cX7_init 464 = .ok (.aload_n 0, 1) := by decide +kernel
theorem dX7_init_465 : decode cX7_init 465 = .ok (.bipush 6, 2) := by decide +kernel
theorem dX7_init_467 : decode cX7_init 467 = .ok (.newarray .int, 2) := by decide +kernel
theorem dX7_init_469 : decode cX7_init 469 = .ok (.putfield 192, 3) := by decide +kernel
theorem dX7_init_472 : decode cX7_init 472 = .ok (.aload_n 0, 1) := by decide +kernel
theorem dX7_init_473 : decode cX7_init 473 = .ok (.bipush 24, 2) := by decide +kernel
theorem dX7_init_475 : decode cX7_init 475 = .ok (.newarray .int, 2) := by decide +kernel
theorem dX7_init_477 : decode cX7_init 477 = .ok (.putfield 195, 3) := by decide +kernel
theorem dX7_init_480 : decode cX7_init 480 = .ok (.aload_n 0, 1) := by decide +kernel
theorem dX7_init_481 : decode cX7_init 481 = .ok (.bipush 6, 2) := by decide +kernel
theorem dX7_init_483 : decode cX7_init 483 = .ok (.newarray .int, 2) := by decide +kernel
theorem dX7_init_485 : decode cX7_init 485 = .ok (.putfield 198, 3) := by decide +kernel
theorem dX7_init_488 : decode cX7_init 488 = .ok (.aload_n 0, 1) := by decide +kernel
theorem dX7_init_489 : decode cX7_init 489 = .ok (.bipush 8, 2) := by decide +kernel
theorem dX7_init_491 : decode cX7_init 491 = .ok (.newarray .int, 2) := by decide +kernel
theorem dX7_init_493 : decode cX7_init 493 = .ok (.putfield 201, 3) := by decide +kernel
theorem dX7_init_496 : decode cX7_init 496 = .ok (.aload_n 0, 1) := by decide +kernel
theorem dX7_init_497 : decode cX7_init 497 = .ok (.bipush 6, 2) := by decide +kernel
theorem dX7_init_499 : decode cX7_init 499 = .ok (.newarray .boolean, 2) := by decide +kernel
theorem dX7_init_501 : decode cX7_init 501 = .ok (.putfield 204, 3) := by decide +kernel
theorem dX7_init_504 : decode cX7_init 504 = .ok (.aload_n 0, 1) := by decide +kernel
theorem dX7_init_505 : decode cX7_init 505 = .ok (.iconst 0, 1) := by decide +kernel
theorem dX7_init_506 : decode cX7_init 506 = .ok (.putfield 207, 3) := by decide +kernel
theorem dX7_init_509 : decode cX7_init 509 = .ok (.aload_n 0, 1) := by decide +kernel
theorem dX7_init_510 : decode cX7_init 510 = .ok (.bipush 20, 2) := by decide +kernel
theorem dX7_init_512 : decode cX7_init 512 = .ok (.newarray .int, 2) := by decide +kernel
theorem dX7_init_514 : decode cX7_init 514 = .ok (.putfield 210, 3) := by decide +kernel
theorem dX7_init_517 : decode cX7_init 517 = .ok (.aload_n 0, 1) := by decide +kernel
theorem dX7_init_518 : decode cX7_init 518 = .ok (.bipush 6, 2) := by decide +kernel
theorem dX7_init_520 : decode cX7_init 520 = .ok (.newarray .int, 2) := by decide +kernel
theorem dX7_init_522 : decode cX7_init 522 = .ok (.dup, 1) := by decide +kernel
theorem dX7_init_523 : decode cX7_init 523 = .ok (.iconst 0, 1) := by decide +kernel
theorem dX7_init_524 : decode cX7_init 524 = .ok (.iconst (-1), 1) := by decide +kernel
theorem dX7_init_525 : decode cX7_init 525 = .ok (.iastore, 1) := by decide +kernel
theorem dX7_init_526 : decode cX7_init 526 = .ok (.dup, 1) := by decide +kernel
theorem dX7_init_527 : decode cX7_init 527 = .ok (.iconst 1, 1) := by decide +kernel
theorem dX7_init_528 : decode cX7_init 528 = .ok (.iconst (-1), 1) := by decide +kernel
theorem dX7_init_529 : decode cX7_init 529 = .ok (.iastore, 1) := by decide +kernel
theorem dX7_init_530 : decode cX7_init 530 = .ok (.dup, 1) := by decide +kernel
theorem dX7_init_531 : decode cX7_init 531 = .ok (.iconst 2, 1) := by decide +kernel
theorem dX7_init_532 : decode cX7_init 532 = .ok (.iconst (-1), 1) := by decide +kernel
theorem dX7_init_533 : decode cX7_init 533 = .ok (.iastore, 1) := by decide +kernel
theorem dX7_init_534 : decode cX7_init 534 = .ok (.dup, 1) := by decide +kernel
theorem dX7_init_535 : decode cX7_init 535 = .ok (.iconst 3, 1) := by decide +kernel
theorem dX7_init_536 : decode cX7_init 536 = .ok (.iconst (-1), 1) := by decide +kernel
theorem dX7_init_537 : decode cX7_init 537 = .ok (.iastore, 1) := by decide +kernel
theorem dX7_init_538 : decode cX7_init 538 = .ok (.dup, 1) := by decide +kernel
theorem dX7_init_539 : decode cX7_init 539 = .ok (.iconst 4, 1) := by decide +kernel
theorem dX7_init_540 : decode cX7_init 540 = .ok (.iconst (-1), 1) := by decide +kernel
theorem dX7_init_541 : decode cX7_init 541 = .ok (.iastore, 1) := by decide +kernel
theorem dX7_init_542 : decode cX7_init 542 = .ok (.dup, 1) := by decide +kernel
theorem dX7_init_543 : decode cX7_init 543 = .ok (.iconst 5, 1) := by decide +kernel
theorem dX7_init_544 : decode cX7_init 544 = .ok (.iconst (-1), 1) := by decide +kernel
theorem dX7_init_545 : decode cX7_init 545 = .ok (.iastore, 1) := by decide +kernel
theorem dX7_init_546 : decode cX7_init 546 = .ok (.putfield 213, 3) := by decide +kernel
theorem dX7_init_549 : decode cX7_init 549 = .ok (.aload_n 0, 1) := by decide +kernel
theorem dX7_init_550 : decode cX7_init 550 = .ok (.bipush 6, 2) := by decide +kernel
theorem dX7_init_552 : decode cX7_init 552 = .ok (.newarray .int, 2) := by decide +kernel
theorem dX7_init_554 : decode cX7_init 554 = .ok (.putfield 216, 3) := by decide +kernel
theorem dX7_init_557 : decode cX7_init 557 = .ok (.aload_n 0, 1) := by decide +kernel
theorem dX7_init_558 : decode cX7_init 558 = .ok (.sipush 360, 3) := by decide +kernel
theorem dX7_init_561 : decode cX7_init 561 = .ok (.newarray .long, 2) := by decide +kernel
theorem dX7_init_563 : decode cX7_init 563 = .ok (.putfield 219, 3) := by decide +kernel
theorem dX7_init_566 : decode cX7_init 566 = .ok (.aload_n 0, 1) := by decide +kernel
theorem dX7_init_567 : decode cX7_init 567 = .ok (.bipush 60, 2) := by decide +kernel
theorem dX7_init_569 : decode cX7_init 569 = .ok (.newarray .long, 2) := by decide +kernel
theorem dX7_init_571 : decode cX7_init 571 = .ok (.putfield 223, 3) := by decide +kernel
theorem dX7_init_574 : decode cX7_init 574 = .ok (.aload_n 0, 1) := by decide +kernel
theorem dX7_init_575 : decode cX7_init 575 = .ok (.invokevirtual 226, 3) := by decide +kernel
theorem dX7_init_578 : decode cX7_init 578 = .ok (.return_, 1) := by decide +kernel
