theorem dJ0_charAt_5068e_0 : decode cJ0_charAt_5068e 0 = .ok (.aload_n 0, 1) := by decide +kernel
theorem dJ0_charAt_5068e_1 : decode cJ0_charAt_5068e 1 = .ok (.invokevirtual 492, 3) := by decide +kernel
theorem dJ0_charAt_5068e_4 : decode cJ0_charAt_5068e 4 = .ok (.ifCond .eq 12, 3) := by decide +kernel
theorem dJ0_charAt_5068e_7 : decode cJ0_charAt_5068e 7 = .ok (.aload_n 0, 1) := by decide +kernel
theorem dJ0_charAt_5068e_8 : decode cJ0_charAt_5068e 8 = .ok (.getfield 9, 3) := by decide +kernel
theorem dJ0_charAt_5068e_11 : decode cJ0_charAt_5068e 11 = .ok (.iload_n 1, 1) := by decide +kernel
theorem dJ0_charAt_5068e_12 : decode cJ0_charAt_5068e 12 = .ok (.invokestatic 495, 3) := by decide +kernel
theorem dJ0_charAt_5068e_15 : decode cJ0_charAt_5068e 15 = .ok (.ireturn, 1) := by decide +kernel
theorem dJ0_checkIndex_df160_0 : decode cJ0_checkIndex_df160 0 = .ok (.iload_n 0, 1) := by decide +kernel
theorem dJ0_checkIndex_df160_1 : decode cJ0_checkIndex_df160 1 = .ok (.iload_n 1, 1) := by decide +kernel
theorem dJ0_checkIndex_df160_2 : decode cJ0_checkIndex_df160 2 = .ok (.getstatic 1053, 3) := by decide +kernel
theorem dJ0_checkIndex_df160_5 : decode cJ0_checkIndex_df160 5 = .ok (.invokestatic 1059, 3) := by decide +kernel
theorem dJ0_checkIndex_df160_8 : decode cJ0_checkIndex_df160 8 = .ok (.pop, 1) := by decide +kernel
theorem dJ0_checkIndex_df160_9 : decode cJ0_checkIndex_df160 9 = .ok (.return_, 1) := by decide +kernel
theorem dJ0_coder_7d493_0 : decode cJ0_coder_7d493 0 = .ok (.getstatic 38, 3) := by decide +kernel
theorem dJ0_coder_7d493_3 : decode cJ0_coder_7d493 3 = .ok (.ifCond .eq 10, 3) := by decide +kernel
theorem dJ0_coder_7d493_6 : decode cJ0_coder_7d493 6 = .ok (.aload_n 0, 1) := by decide +kernel
theorem dJ0_coder_7d493_7 : decode cJ0_coder_7d493 7 = .ok (.getfield 15, 3) := by decide +kernel
theorem dJ0_coder_7d493_10 : decode cJ0_coder_7d493 10 = .ok (.goto 4, 3) := by decide +kernel
theorem dJ0_coder_7d493_14 : decode cJ0_coder_7d493 14 = .ok (.ireturn, 1) := by decide +kernel
theorem dJ0_indexOf_0f7a4_0 : decode cJ0_indexOf_0f7a4 0 = .ok (.aload_n 0, 1) := by decide +kernel
theorem dJ0_indexOf_0f7a4_1 : decode cJ0_indexOf_0f7a4 1 = .ok (.iload_n 1, 1) := by decide +kernel
theorem dJ0_indexOf_0f7a4_2 : decode cJ0_indexOf_0f7a4 2 = .ok (.iconst 0, 1) := by decide +kernel
theorem dJ0_indexOf_0f7a4_3 : decode cJ0_indexOf_0f7a4 3 = .ok (.invokevirtual 633, 3) := by decide +kernel
theorem dJ0_indexOf_0f7a4_6 : decode cJ0_indexOf_0f7a4 6 = .ok (.ireturn, 1) := by decide +kernel
theorem dJ0_indexOf_7cf53_0 : decode cJ0_indexOf_7cf53 0 = .ok (.aload_n 0, 1) := by decide +kernel
theorem dJ0_indexOf_7cf53_1 : decode cJ0_indexOf_7cf53 1 = .ok (.invokevirtual 492, 3) := by decide +kernel
theorem dJ0_indexOf_7cf53_4 : decode cJ0_indexOf_7cf53 4 = .ok (.ifCond .eq 19, 3) := by decide +kernel
theorem dJ0_indexOf_7cf53_7 : decode cJ0_indexOf_7cf53 7 = .ok (.aload_n 0, 1) := by decide +kernel
theorem dJ0_indexOf_7cf53_8 : decode cJ0_indexOf_7cf53 8 = .ok (.getfield 9, 3) := by decide +kernel
theorem dJ0_indexOf_7cf53_11 : decode cJ0_indexOf_7cf53 11 = .ok (.iload_n 1, 1) := by decide +kernel
theorem dJ0_indexOf_7cf53_12 : decode cJ0_indexOf_7cf53 12 = .ok (.iload_n 2, 1) := by decide +kernel
theorem dJ0_indexOf_7cf53_13 : decode cJ0_indexOf_7cf53 13 = .ok (.aload_n 0, 1) := by decide +kernel
theorem dJ0_indexOf_7cf53_14 : decode cJ0_indexOf_7cf53 14 = .ok (.invokevirtual 505, 3) := by decide +kernel
theorem dJ0_indexOf_7cf53_17 : decode cJ0_indexOf_7cf53 17 = .ok (.invokestatic 637, 3) := by decide +kernel
theorem dJ0_indexOf_7cf53_20 : decode cJ0_indexOf_7cf53 20 = .ok (.goto 16, 3) := by decide +kernel
theorem dJ0_indexOf_7cf53_36 : decode cJ0_indexOf_7cf53 36 = .ok (.ireturn, 1) := by decide +kernel
theorem dJ0_isLatin1_aae02_0 : decode cJ0_isLatin1_aae02 0 = .ok (.getstatic 38, 3) := by decide +kernel
theorem dJ0_isLatin1_aae02_3 : decode cJ0_isLatin1_aae02 3 = .ok (.ifCond .eq 14, 3) := by decide +kernel
theorem dJ0_isLatin1_aae02_6 : decode cJ0_isLatin1_aae02 6 = .ok (.aload_n 0, 1) := by decide +kernel
theorem dJ0_isLatin1_aae02_7 : decode cJ0_isLatin1_aae02 7 = .ok (.getfield 15, 3) := by decide +kernel
theorem dJ0_isLatin1_aae02_10 : decode cJ0_isLatin1_aae02 10 = .ok (.ifCond .ne 7, 3) := by decide +kernel
theorem dJ0_isLatin1_aae02_13 : decode cJ0_isLatin1_aae02 13 = .ok (.iconst 1, 1) := by decide +kernel
theorem dJ0_isLatin1_aae02_14 : decode cJ0_isLatin1_aae02 14 = .ok (.goto 4, 3) := by decide +kernel
theorem dJ0_isLatin1_aae02_18 : decode cJ0_isLatin1_aae02 18 = .ok (.ireturn, 1) := by decide +kernel
theorem dJ0_length_8abf5_0 : decode cJ0_length_8abf5 0 = .ok (.aload_n 0, 1) := by decide +kernel
theorem dJ0_length_8abf5_1 : decode cJ0_length_8abf5 1 = .ok (.getfield 9, 3) := by decide +kernel
theorem dJ0_length_8abf5_4 : decode cJ0_length_8abf5 4 = .ok (.arraylength, 1) := by decide +kernel
theorem dJ0_length_8abf5_5 : decode cJ0_length_8abf5 5 = .ok (.aload_n 0, 1) := by decide +kernel
theorem dJ0_length_8abf5_6 : decode cJ0_length_8abf5 6 = .ok (.invokevirtual 335, 3) := by decide +kernel
theorem dJ0_length_8abf5_9 : decode cJ0_length_8abf5 9 = .ok (.ishr, 1) := by decide +kernel
theorem dJ0_length_8abf5_10 : decode cJ0_length_8abf5 10 = .ok (.ireturn, 1) := by decide +kernel
theorem dJ1_canEncode_9a6ad_0 : decode cJ1_canEncode_9a6ad 0 = .ok (.iload_n 0, 1) := by decide +kernel
theorem dJ1_canEncode_9a6ad_1 : decode cJ1_canEncode_9a6ad 1 = .ok (.ifCond .lt 14, 3) := by decide +kernel
theorem dJ1_canEncode_9a6ad_4 : decode cJ1_canEncode_9a6ad 4 = .ok (.iload_n 0, 1) := by decide +kernel
theorem dJ1_canEncode_9a6ad_5 : decode cJ1_canEncode_9a6ad 5 = .ok (.sipush 255, 3) := by decide +kernel
theorem dJ1_canEncode_9a6ad_8 : decode cJ1_canEncode_9a6ad 8 = .ok (.if_icmp .gt 7, 3) := by decide +kernel
theorem dJ1_canEncode_9a6ad_11 : decode cJ1_canEncode_9a6ad 11 = .ok (.iconst 1, 1) := by decide +kernel
theorem dJ1_canEncode_9a6ad_12 : decode cJ1_canEncode_9a6ad 12 = .ok (.goto 4, 3) := by decide +kernel
theorem dJ1_canEncode_9a6ad_15 : decode cJ1_canEncode_9a6ad 15 = .ok (.iconst 0, 1) := by decide +kernel
theorem dJ1_canEncode_9a6ad_16 : decode cJ1_canEncode_9a6ad 16 = .ok (.ireturn, 1) := by decide +kernel
theorem dJ1_charAt_3b067_0 : decode cJ1_charAt_3b067 0 = .ok (.iload_n 1, 1) := by decide +kernel
theorem dJ1_charAt_3b067_1 : decode cJ1_charAt_3b067 1 = .ok (.aload_n 0, 1) := by decide +kernel
theorem dJ1_charAt_3b067_2 : decode cJ1_charAt_3b067 2 = .ok (.arraylength, 1) := by decide +kernel
theorem dJ1_charAt_3b067_3 : decode cJ1_charAt_3b067 3 = .ok (.invokestatic 9, 3) := by decide +kernel
theorem dJ1_charAt_3b067_6 : decode cJ1_charAt_3b067 6 = .ok (.aload_n 0, 1) := by decide +kernel
theorem dJ1_charAt_3b067_7 : decode cJ1_charAt_3b067 7 = .ok (.iload_n 1, 1) := by decide +kernel
theorem dJ1_charAt_3b067_8 : decode cJ1_charAt_3b067 8 = .ok (.baload, 1) := by decide +kernel
theorem dJ1_charAt_3b067_9 : decode cJ1_charAt_3b067 9 = .ok (.sipush 255, 3) := by decide +kernel
theorem dJ1_charAt_3b067_12 : decode cJ1_charAt_3b067 12 = .ok (.iand, 1) := by decide +kernel
theorem dJ1_charAt_3b067_13 : decode cJ1_charAt_3b067 13 = .ok (.i2c, 1) := by decide +kernel
theorem dJ1_charAt_3b067_14 : decode cJ1_charAt_3b067 14 = .ok (.ireturn, 1) := by decide +kernel
theorem dJ1_indexOfChar_4cfef_0 : decode cJ1_indexOfChar_4cfef 0 = .ok (.iload_n 1, 1) := by decide +kernel
theorem dJ1_indexOfChar_4cfef_1 : decode cJ1_indexOfChar_4cfef 1 = .ok (.i2b, 1) := by decide +kernel
theorem dJ1_indexOfChar_4cfef_2 : decode cJ1_indexOfChar_4cfef 2 = .ok (.istore 4, 2) := by decide +kernel
theorem dJ1_indexOfChar_4cfef_4 : decode cJ1_indexOfChar_4cfef 4 = .ok (.iload_n 2, 1) := by decide +kernel
theorem dJ1_indexOfChar_4cfef_5 : decode cJ1_indexOfChar_4cfef 5 = .ok (.istore 5, 2) := by decide +kernel
theorem dJ1_indexOfChar_4cfef_7 : decode cJ1_indexOfChar_4cfef 7 = .ok (.iload 5, 2) := by decide +kernel
theorem dJ1_indexOfChar_4cfef_9 : decode cJ1_indexOfChar_4cfef 9 = .ok (.iload_n 3, 1) := by decide +kernel
theorem dJ1_indexOfChar_4cfef_10 : decode cJ1_indexOfChar_4cfef 10 = .ok (.if_icmp .ge 21, 3) := by decide +kernel
theorem dJ1_indexOfChar_4cfef_13 : decode cJ1_indexOfChar_4cfef 13 = .ok (.aload_n 0, 1) := by decide +kernel
theorem dJ1_indexOfChar_4cfef_14 : decode cJ1_indexOfChar_4cfef 14 = .ok (.iload 5, 2) := by decide +kernel
theorem dJ1_indexOfChar_4cfef_16 : decode cJ1_indexOfChar_4cfef 16 = .ok (.baload, 1) := by decide +kernel
theorem dJ1_indexOfChar_4cfef_17 : decode cJ1_indexOfChar_4cfef 17 = .ok (.iload 4, 2) := by decide +kernel
theorem dJ1_indexOfChar_4cfef_19 : decode cJ1_indexOfChar_4cfef 19 = .ok (.if_icmp .ne 6, 3) := by decide +kernel
theorem dJ1_indexOfChar_4cfef_22 : decode cJ1_indexOfChar_4cfef 22 = .ok (.iload 5, 2) := by decide +kernel
theorem dJ1_indexOfChar_4cfef_24 : decode cJ1_indexOfChar_4cfef 24 = .ok (.ireturn, 1) := by decide +kernel
theorem dJ1_indexOfChar_4cfef_25 : decode cJ1_indexOfChar_4cfef 25 = .ok (.iinc 5 1, 3) := by decide +kernel
theorem dJ1_indexOfChar_4cfef_28 : decode cJ1_indexOfChar_4cfef 28 = .ok (.goto (-21), 3) := by decide +kernel
theorem dJ1_indexOfChar_4cfef_31 : decode cJ1_indexOfChar_4cfef 31 = .ok (.iconst (-1), 1) := by decide +kernel
theorem dJ1_indexOfChar_4cfef_32 : decode cJ1_indexOfChar_4cfef 32 = .ok (.ireturn, 1) := by decide +kernel
theorem dJ1_indexOf_4cfef_0 : decode cJ1_indexOf_4cfef 0 = .ok (.iload_n 1, 1) := by decide +kernel
theorem dJ1_indexOf_4cfef_1 : decode cJ1_indexOf_4cfef 1 = .ok (.invokestatic 88, 3) := by decide +kernel
theorem dJ1_indexOf_4cfef_4 : decode cJ1_indexOf_4cfef 4 = .ok (.ifCond .ne 5, 3) := by decide +kernel
theorem dJ1_indexOf_4cfef_7 : decode cJ1_indexOf_4cfef 7 = .ok (.iconst (-1), 1) := by decide +kernel
theorem dJ1_indexOf_4cfef_8 : decode cJ1_indexOf_4cfef 8 = .ok (.ireturn, 1) := by decide +kernel
theorem dJ1_indexOf_4cfef_9 : decode cJ1_indexOf_4cfef 9 = .ok (.iload_n 2, 1) := by decide +kernel
theorem dJ1_indexOf_4cfef_10 : decode cJ1_indexOf_4cfef 10 = .ok (.iconst 0, 1) := by decide +kernel
theorem dJ1_indexOf_4cfef_11 : decode cJ1_indexOf_4cfef 11 = .ok (.invokestatic 92, 3) := by decide +kernel
theorem dJ1_indexOf_4cfef_14 : decode cJ1_indexOf_4cfef 14 = .ok (.istore_n 2, 1) := by decide +kernel
theorem dJ1_indexOf_4cfef_15 : decode cJ1_indexOf_4cfef 15 = .ok (.iload_n 3, 1) := by decide +kernel
theorem dJ1_indexOf_4cfef_16 : decode cJ1_indexOf_4cfef 16 = .ok (.aload_n 0, 1) := by decide +kernel
theorem dJ1_indexOf_4cfef_17 : decode cJ1_indexOf_4cfef 17 = .ok (.arraylength, 1) := by decide +kernel
theorem dJ1_indexOf_4cfef_18 : decode cJ1_indexOf_4cfef 18 = .ok (.invokestatic 38, 3) := by decide +kernel
theorem dJ1_indexOf_4cfef_21 : decode cJ1_indexOf_4cfef 21 = .ok (.istore_n 3, 1) := by decide +kernel
theorem dJ1_indexOf_4cfef_22 : decode cJ1_indexOf_4cfef 22 = .ok (.iload_n 2, 1) := by decide +kernel
theorem dJ1_indexOf_4cfef_23 : decode cJ1_indexOf_4cfef 23 = .ok (.iload_n 3, 1) := by decide +kernel
theorem dJ1_indexOf_4cfef_24 : decode cJ1_indexOf_4cfef 24 = .ok (.if_icmp .lt 5, 3) := by decide +kernel
theorem dJ1_indexOf_4cfef_27 : decode cJ1_indexOf_4cfef 27 = .ok (.iconst (-1), 1) := by decide +kernel
theorem dJ1_indexOf_4cfef_28 : decode cJ1_indexOf_4cfef 28 = .ok (.ireturn, 1) := by decide +kernel
theorem dJ1_indexOf_4cfef_29 : decode cJ1_indexOf_4cfef 29 = .ok (.aload_n 0, 1) := by decide +kernel
theorem dJ1_indexOf_4cfef_30 : decode cJ1_indexOf_4cfef 30 = .ok (.iload_n 1, 1) := by decide +kernel
theorem dJ1_indexOf_4cfef_31 : decode cJ1_indexOf_4cfef 31 = .ok (.iload_n 2, 1) := by decide +kernel
theorem dJ1_indexOf_4cfef_32 : decode cJ1_indexOf_4cfef 32 = .ok (.iload_n 3, 1) := by decide +kernel
theorem dJ1_indexOf_4cfef_33 : decode cJ1_indexOf_4cfef 33 = .ok (.invokestatic 95, 3) := by decide +kernel
theorem dJ1_indexOf_4cfef_36 : decode cJ1_indexOf_4cfef 36 = .ok (.ireturn, 1) := by decide +kernel
theorem dJ3_checkIndex_8e157_0 : decode cJ3_checkIndex_8e157 0 = .ok (.iload_n 0, 1) := by decide +kernel
theorem dJ3_checkIndex_8e157_1 : decode cJ3_checkIndex_8e157 1 = .ok (.ifCond .lt 8, 3) := by decide +kernel
theorem dJ3_checkIndex_8e157_4 : decode cJ3_checkIndex_8e157 4 = .ok (.iload_n 0, 1) := by decide +kernel
theorem dJ3_checkIndex_8e157_5 : decode cJ3_checkIndex_8e157 5 = .ok (.iload_n 1, 1) := by decide +kernel
theorem dJ3_checkIndex_8e157_6 : decode cJ3_checkIndex_8e157 6 = .ok (.if_icmp .lt 10, 3) := by decide +kernel
theorem dJ3_checkIndex_8e157_16 : decode cJ3_checkIndex_8e157 16 = .ok (.iload_n 0, 1) := by decide +kernel
theorem dJ3_checkIndex_8e157_17 : decode cJ3_checkIndex_8e157 17 = .ok (.ireturn, 1) := by decide +kernel
theorem dJ7_fill_53178_0 : decode cJ7_fill_53178 0 = .ok (.iconst 0, 1) := by decide +kernel
theorem dJ7_fill_53178_1 : decode cJ7_fill_53178 1 = .ok (.istore_n 2, 1) := by decide +kernel
theorem dJ7_fill_53178_2 : decode cJ7_fill_53178 2 = .ok (.aload_n 0, 1) := by decide +kernel
theorem dJ7_fill_53178_3 : decode cJ7_fill_53178 3 = .ok (.arraylength, 1) := by decide +kernel
theorem dJ7_fill_53178_4 : decode cJ7_fill_53178 4 = .ok (.istore_n 3, 1) := by decide +kernel
theorem dJ7_fill_53178_5 : decode cJ7_fill_53178 5 = .ok (.iload_n 2, 1) := by decide +kernel
theorem dJ7_fill_53178_6 : decode cJ7_fill_53178 6 = .ok (.iload_n 3, 1) := by decide +kernel
theorem dJ7_fill_53178_7 : decode cJ7_fill_53178 7 = .ok (.if_icmp .ge 13, 3) := by decide +kernel
theorem dJ7_fill_53178_10 : decode cJ7_fill_53178 10 = .ok (.aload_n 0, 1) := by decide +kernel
theorem dJ7_fill_53178_11 : decode cJ7_fill_53178 11 = .ok (.iload_n 2, 1) := by decide +kernel
theorem dJ7_fill_53178_12 : decode cJ7_fill_53178 12 = .ok (.iload_n 1, 1) := by decide +kernel
theorem dJ7_fill_53178_13 : decode cJ7_fill_53178 13 = .ok (.iastore, 1) := by decide +kernel
theorem dJ7_fill_53178_14 : decode cJ7_fill_53178 14 = .ok (.iinc 2 1, 3) := by decide +kernel
theorem dJ7_fill_53178_17 : decode cJ7_fill_53178 17 = .ok (.goto (-12), 3) := by decide +kernel
theorem dJ7_fill_53178_20 : decode cJ7_fill_53178 20 = .ok (.return_, 1) := by decide +kernel
theorem dJ7_fill_d0a16_0 : decode cJ7_fill_d0a16 0 = .ok (.iconst 0, 1) := by decide +kernel
theorem dJ7_fill_d0a16_1 : decode cJ7_fill_d0a16 1 = .ok (.istore_n 3, 1) := by decide +kernel
theorem dJ7_fill_d0a16_2 : decode cJ7_fill_d0a16 2 = .ok (.aload_n 0, 1) := by decide +kernel
theorem dJ7_fill_d0a16_3 : decode cJ7_fill_d0a16 3 = .ok (.arraylength, 1) := by decide +kernel
theorem dJ7_fill_d0a16_4 : decode cJ7_fill_d0a16 4 = .ok (.istore 4, 2) := by decide +kernel
theorem dJ7_fill_d0a16_6 : decode cJ7_fill_d0a16 6 = .ok (.iload_n 3, 1) := by decide +kernel
theorem dJ7_fill_d0a16_7 : decode cJ7_fill_d0a16 7 = .ok (.iload 4, 2) := by decide +kernel
theorem dJ7_fill_d0a16_9 : decode cJ7_fill_d0a16 9 = .ok (.if_icmp .ge 13, 3) := by decide +kernel
theorem dJ7_fill_d0a16_12 : decode cJ7_fill_d0a16 12 = .ok (.aload_n 0, 1) := by decide +kernel
theorem dJ7_fill_d0a16_13 : decode cJ7_fill_d0a16 13 = .ok (.iload_n 3, 1) := by decide +kernel
theorem dJ7_fill_d0a16_14 : decode cJ7_fill_d0a16 14 = .ok (.lload_n 1, 1) := by decide +kernel
theorem dJ7_fill_d0a16_15 : decode cJ7_fill_d0a16 15 = .ok (.lastore, 1) := by decide +kernel
theorem dJ7_fill_d0a16_16 : decode cJ7_fill_d0a16 16 = .ok (.iinc 3 1, 3) := by decide +kernel
theorem dJ7_fill_d0a16_19 : decode cJ7_fill_d0a16 19 = .ok (.goto (-13), 3) := by decide +kernel
theorem dJ7_fill_d0a16_22 : decode cJ7_fill_d0a16 22 = .ok (.return_, 1) := by decide +kernel
theorem dX0_begin_0 : decode cX0_begin 0 = .ok (.aload_n 0, 1) := by decide +kernel
theorem dX0_begin_1 : decode cX0_begin 1 = .ok (.iload_n 1, 1) := by decide +kernel
theorem dX0_begin_2 : decode cX0_begin 2 = .ok (.putfield 19, 3) := by decide +kernel
theorem dX0_begin_5 : decode cX0_begin 5 = .ok (.aload_n 0, 1) := by decide +kernel
theorem dX0_begin_6 : decode cX0_begin 6 = .ok (.iload_n 2, 1) := by decide +kernel
theorem dX0_begin_7 : decode cX0_begin 7 = .ok (.putfield 22, 3) := by decide +kernel
theorem dX0_begin_10 : decode cX0_begin 10 = .ok (.aload_n 0, 1) := by decide +kernel
theorem dX0_begin_11 : decode cX0_begin 11 = .ok (.iload_n 3, 1) := by decide +kernel
theorem dX0_begin_12 : decode cX0_begin 12 = .ok (.putfield 25, 3) := by decide +kernel
theorem dX0_begin_15 : decode cX0_begin 15 = .ok (.aload_n 0, 1) := by decide +kernel
theorem dX0_begin_16 : decode cX0_begin 16 = .ok (.iconst 0, 1) := by decide +kernel
theorem dX0_begin_17 : decode cX0_begin 17 = .ok (.putfield 9, 3) := by decide +kernel
theorem dX0_begin_20 : decode cX0_begin 20 = .ok (.aload_n 0, 1) := by decide +kernel
theorem dX0_begin_21 : decode cX0_begin 21 = .ok (.aload_n 0, 1) := by decide +kernel
theorem dX0_begin_22 : decode cX0_begin 22 = .ok (.getfield 22, 3) := by decide +kernel
theorem dX0_begin_25 : decode cX0_begin 25 = .ok (.iload 4, 2) := by decide +kernel
theorem dX0_begin_27 : decode cX0_begin 27 = .ok (.iload 5, 2) := by decide +kernel
theorem dX0_begin_29 : decode cX0_begin 29 = .ok (.iconst 0, 1) := by decide +kernel
theorem dX0_begin_30 : decode cX0_begin 30 = .ok (.invokevirtual 28, 3) := by decide +kernel
theorem dX0_begin_33 : decode cX0_begin 33 = .ok (.ireturn, 1) := by decide +kernel
theorem dX0_bodyOf_0 : decode cX0_bodyOf 0 = .ok (.iload_n 0, 1) := by decide +kernel
theorem dX0_bodyOf_1 : decode cX0_bodyOf 1 = .ok (.istore_n 2, 1) := by decide +kernel
theorem dX0_bodyOf_2 : decode cX0_bodyOf 2 = .ok (.iconst 0, 1) := by decide +kernel
theorem dX0_bodyOf_3 : decode cX0_bodyOf 3 = .ok (.istore_n 3, 1) := by decide +kernel
theorem dX0_bodyOf_4 : decode cX0_bodyOf 4 = .ok (.iload_n 3, 1) := by decide +kernel
theorem dX0_bodyOf_5 : decode cX0_bodyOf 5 = .ok (.bipush 7, 2) := by decide +kernel
theorem dX0_bodyOf_7 : decode cX0_bodyOf 7 = .ok (.if_icmp .ge 38, 3) := by decide +kernel
theorem dX0_bodyOf_10 : decode cX0_bodyOf 10 = .ok (.iload_n 2, 1) := by decide +kernel
theorem dX0_bodyOf_11 : decode cX0_bodyOf 11 = .ok (.ifCond .lt 34, 3) := by decide +kernel
theorem dX0_bodyOf_14 : decode cX0_bodyOf 14 = .ok (.getstatic 47, 3) := by decide +kernel
theorem dX0_bodyOf_17 : decode cX0_bodyOf 17 = .ok (.iload_n 2, 1) := by decide +kernel
theorem dX0_bodyOf_18 : decode cX0_bodyOf 18 = .ok (.iconst 3, 1) := by decide +kernel
theorem dX0_bodyOf_19 : decode cX0_bodyOf 19 = .ok (.imul, 1) := by decide +kernel
theorem dX0_bodyOf_20 : decode cX0_bodyOf 20 = .ok (.iload_n 1, 1) := by decide +kernel
theorem dX0_bodyOf_21 : decode cX0_bodyOf 21 = .ok (.iadd, 1) := by decide +kernel
theorem dX0_bodyOf_22 : decode cX0_bodyOf 22 = .ok (.iaload, 1) := by decide +kernel
theorem dX0_bodyOf_23 : decode cX0_bodyOf 23 = .ok (.istore 4, 2) := by decide +kernel
theorem dX0_bodyOf_25 : decode cX0_bodyOf 25 = .ok (.iload 4, 2) := by decide +kernel
theorem dX0_bodyOf_27 : decode cX0_bodyOf 27 = .ok (.ifCond .eq 6, 3) := by decide +kernel
theorem dX0_bodyOf_30 : decode cX0_bodyOf 30 = .ok (.iload 4, 2) := by decide +kernel
theorem dX0_bodyOf_32 : decode cX0_bodyOf 32 = .ok (.ireturn, 1) := by decide +kernel
theorem dX0_bodyOf_33 : decode cX0_bodyOf 33 = .ok (.getstatic 44, 3) := by decide +kernel
theorem dX0_bodyOf_36 : decode cX0_bodyOf 36 = .ok (.iload_n 2, 1) := by decide +kernel
theorem dX0_bodyOf_37 : decode cX0_bodyOf 37 = .ok (.iaload, 1) := by decide +kernel
theorem dX0_bodyOf_38 : decode cX0_bodyOf 38 = .ok (.istore_n 2, 1) := by decide +kernel
theorem dX0_bodyOf_39 : decode cX0_bodyOf 39 = .ok (.iinc 3 1, 3) := by decide +kernel
theorem dX0_bodyOf_42 : decode cX0_bodyOf 42 = .ok (.goto (-38), 3) := by decide +kernel
theorem dX0_bodyOf_45 : decode cX0_bodyOf 45 = .ok (.iconst 0, 1) := by decide +kernel
theorem dX0_bodyOf_46 : decode cX0_bodyOf 46 = .ok (.ireturn, 1) := by decide +kernel
theorem dX0_keep_0 : decode cX0_keep 0 = .ok (.aload_n 0, 1) := by decide +kernel
theorem dX0_keep_1 : decode cX0_keep 1 = .ok (.getfield 9, 3) := by decide +kernel
theorem dX0_keep_4 : decode cX0_keep 4 = .ok (.bipush 20, 2) := by decide +kernel
theorem dX0_keep_6 : decode cX0_keep 6 = .ok (.if_icmp .ge 13, 3) := by decide +kernel
theorem dX0_keep_9 : decode cX0_keep 9 = .ok (.aload_n 0, 1) := by decide +kernel
theorem dX0_keep_10 : decode cX0_keep 10 = .ok (.getfield 15, 3) := by decide +kernel
theorem dX0_keep_13 : decode cX0_keep 13 = .ok (.aload_n 0, 1) := by decide +kernel
theorem dX0_keep_14 : decode cX0_keep 14 = .ok (.getfield 9, 3) := by decide +kernel
theorem dX0_keep_17 : decode cX0_keep 17 = .ok (.iload_n 1, 1) := by decide +kernel
theorem dX0_keep_18 : decode cX0_keep 18 = .ok (.iastore, 1) := by decide +kernel
theorem dX0_keep_19 : decode cX0_keep 19 = .ok (.aload_n 0, 1) := by decide +kernel
theorem dX0_keep_20 : decode cX0_keep 20 = .ok (.dup, 1) := by decide +kernel
theorem dX0_keep_21 : decode cX0_keep 21 = .ok (.getfield 9, 3) := by decide +kernel
theorem dX0_keep_24 : decode cX0_keep 24 = .ok (.iconst 1, 1) := by decide +kernel
theorem dX0_keep_25 : decode cX0_keep 25 = .ok (.iadd, 1) := by decide +kernel
theorem dX0_keep_26 : decode cX0_keep 26 = .ok (.putfield 9, 3) := by decide +kernel
theorem dX0_keep_29 : decode cX0_keep 29 = .ok (.return_, 1) := by decide +kernel
theorem dX0_run_0 : decode cX0_run 0 = .ok (.iload 4, 2) := by decide +kernel
theorem dX0_run_2 : decode cX0_run 2 = .ok (.bipush 20, 2) := by decide +kernel
theorem dX0_run_4 : decode cX0_run 4 = .ok (.if_icmp .le 5, 3) := by decide +kernel
theorem dX0_run_7 : decode cX0_run 7 = .ok (.iconst 0, 1) := by decide +kernel
theorem dX0_run_8 : decode cX0_run 8 = .ok (.ireturn, 1) := by decide +kernel
theorem dX0_run_9 : decode cX0_run 9 = .ok (.iload_n 1, 1) := by decide +kernel
theorem dX0_run_10 : decode cX0_run 10 = .ok (.iload_n 2, 1) := by decide +kernel
theorem dX0_run_11 : decode cX0_run 11 = .ok (.invokestatic 32, 3) := by decide +kernel
theorem dX0_run_14 : decode cX0_run 14 = .ok (.istore 5, 2) := by decide +kernel
theorem dX0_run_16 : decode cX0_run 16 = .ok (.aload_n 0, 1) := by decide +kernel
theorem dX0_run_17 : decode cX0_run 17 = .ok (.iload 5, 2) := by decide +kernel
theorem dX0_run_19 : decode cX0_run 19 = .ok (.invokevirtual 36, 3) := by decide +kernel
theorem dX0_run_22 : decode cX0_run 22 = .ok (.aload_n 0, 1) := by decide +kernel
theorem dX0_run_23 : decode cX0_run 23 = .ok (.iload 5, 2) := by decide +kernel
theorem dX0_run_25 : decode cX0_run 25 = .ok (.iload_n 3, 1) := by decide +kernel
theorem dX0_run_26 : decode cX0_run 26 = .ok (.iload 4, 2) := by decide +kernel
theorem dX0_run_28 : decode cX0_run 28 = .ok (.iconst 1, 1) := by decide +kernel
theorem dX0_run_29 : decode cX0_run 29 = .ok (.iadd, 1) := by decide +kernel
theorem dX0_run_30 : decode cX0_run 30 = .ok (.invokevirtual 40, 3) := by decide +kernel
theorem dX0_run_33 : decode cX0_run 33 = .ok (.ireturn, 1) := by decide +kernel
theorem dX0_work_0 : decode cX0_work 0 = .ok (.iload_n 1, 1) := by decide +kernel
theorem dX0_work_1 : decode cX0_work 1 = .ok (.lookupswitch 287 #[(10, 99), (11, 106), (12, 123), (20, 137), (30, 153), (40, 168), (50, 193), (51, 207), (60, 222), (70, 240), (71, 268)], 99) := by decide +kernel
theorem dX0_work_100 : decode cX0_work 100 = .ok (.iload_n 2, 1) := by decide +kernel
theorem dX0_work_101 : decode cX0_work 101 = .ok (.aload_n 0, 1) := by decide +kernel
theorem dX0_work_102 : decode cX0_work 102 = .ok (.getfield 19, 3) := by decide +kernel
theorem dX0_work_105 : decode cX0_work 105 = .ok (.iadd, 1) := by decide +kernel
theorem dX0_work_106 : decode cX0_work 106 = .ok (.ireturn, 1) := by decide +kernel
theorem dX0_work_107 : decode cX0_work 107 = .ok (.aload_n 0, 1) := by decide +kernel
theorem dX0_work_108 : decode cX0_work 108 = .ok (.aload_n 0, 1) := by decide +kernel
theorem dX0_work_109 : decode cX0_work 109 = .ok (.getfield 22, 3) := by decide +kernel
theorem dX0_work_112 : decode cX0_work 112 = .ok (.iconst 0, 1) := by decide +kernel
theorem dX0_work_113 : decode cX0_work 113 = .ok (.iload_n 2, 1) := by decide +kernel
theorem dX0_work_114 : decode cX0_work 114 = .ok (.iload_n 3, 1) := by decide +kernel
theorem dX0_work_115 : decode cX0_work 115 = .ok (.invokevirtual 28, 3) := by decide +kernel
theorem dX0_work_118 : decode cX0_work 118 = .ok (.aload_n 0, 1) := by decide +kernel
theorem dX0_work_119 : decode cX0_work 119 = .ok (.getfield 25, 3) := by decide +kernel
theorem dX0_work_122 : decode cX0_work 122 = .ok (.isub, 1) := by decide +kernel
theorem dX0_work_123 : decode cX0_work 123 = .ok (.ireturn, 1) := by decide +kernel
theorem dX0_work_124 : decode cX0_work 124 = .ok (.aload_n 0, 1) := by decide +kernel
theorem dX0_work_125 : decode cX0_work 125 = .ok (.aload_n 0, 1) := by decide +kernel
theorem dX0_work_126 : decode cX0_work 126 = .ok (.getfield 22, 3) := by decide +kernel
theorem dX0_work_129 : decode cX0_work 129 = .ok (.iconst 1, 1) := by decide +kernel
theorem dX0_work_130 : decode cX0_work 130 = .ok (.iload_n 2, 1) := by decide +kernel
theorem dX0_work_131 : decode cX0_work 131 = .ok (.iload_n 3, 1) := by decide +kernel
theorem dX0_work_132 : decode cX0_work 132 = .ok (.invokevirtual 28, 3) := by decide +kernel
theorem dX0_work_135 : decode cX0_work 135 = .ok (.iconst 2, 1) := by decide +kernel
theorem dX0_work_136 : decode cX0_work 136 = .ok (.imul, 1) := by decide +kernel
theorem dX0_work_137 : decode cX0_work 137 = .ok (.ireturn, 1) := by decide +kernel
theorem dX0_work_138 : decode cX0_work 138 = .ok (.aload_n 0, 1) := by decide +kernel
theorem dX0_work_139 : decode cX0_work 139 = .ok (.getstatic 44, 3) := by decide +kernel
theorem dX0_work_142 : decode cX0_work 142 = .ok (.iconst 1, 1) := by decide +kernel
theorem dX0_work_143 : decode cX0_work 143 = .ok (.iaload, 1) := by decide +kernel
theorem dX0_work_144 : decode cX0_work 144 = .ok (.iconst 1, 1) := by decide +kernel
theorem dX0_work_145 : decode cX0_work 145 = .ok (.iload_n 2, 1) := by decide +kernel
theorem dX0_work_146 : decode cX0_work 146 = .ok (.iload_n 3, 1) := by decide +kernel
theorem dX0_work_147 : decode cX0_work 147 = .ok (.invokevirtual 28, 3) := by decide +kernel
theorem dX0_work_150 : decode cX0_work 150 = .ok (.bipush 6, 2) := by decide +kernel
theorem dX0_work_152 : decode cX0_work 152 = .ok (.ixor, 1) := by decide +kernel
theorem dX0_work_153 : decode cX0_work 153 = .ok (.ireturn, 1) := by decide +kernel
theorem dX0_work_154 : decode cX0_work 154 = .ok (.aload_n 0, 1) := by decide +kernel
theorem dX0_work_155 : decode cX0_work 155 = .ok (.getstatic 44, 3) := by decide +kernel
theorem dX0_work_158 : decode cX0_work 158 = .ok (.iconst 2, 1) := by decide +kernel
theorem dX0_work_159 : decode cX0_work 159 = .ok (.iaload, 1) := by decide +kernel
theorem dX0_work_160 : decode cX0_work 160 = .ok (.iconst 0, 1) := by decide +kernel
theorem dX0_work_161 : decode cX0_work 161 = .ok (.iload_n 2, 1) := by decide +kernel
theorem dX0_work_162 : decode cX0_work 162 = .ok (.iconst 3, 1) := by decide +kernel
theorem dX0_work_163 : decode cX0_work 163 = .ok (.imul, 1) := by decide +kernel
theorem dX0_work_164 : decode cX0_work 164 = .ok (.iload_n 3, 1) := by decide +kernel
theorem dX0_work_165 : decode cX0_work 165 = .ok (.invokevirtual 28, 3) := by decide +kernel
theorem dX0_work_168 : decode cX0_work 168 = .ok (.ireturn, 1) := by decide +kernel
theorem dX0_work_169 : decode cX0_work 169 = .ok (.aload_n 0, 1) := by decide +kernel
theorem dX0_work_170 : decode cX0_work 170 = .ok (.getstatic 44, 3) := by decide +kernel
theorem dX0_work_173 : decode cX0_work 173 = .ok (.iconst 3, 1) := by decide +kernel
theorem dX0_work_174 : decode cX0_work 174 = .ok (.iaload, 1) := by decide +kernel
theorem dX0_work_175 : decode cX0_work 175 = .ok (.iconst 2, 1) := by decide +kernel
theorem dX0_work_176 : decode cX0_work 176 = .ok (.iload_n 2, 1) := by decide +kernel
theorem dX0_work_177 : decode cX0_work 177 = .ok (.iload_n 3, 1) := by decide +kernel
theorem dX0_work_178 : decode cX0_work 178 = .ok (.invokevirtual 28, 3) := by decide +kernel
theorem dX0_work_181 : decode cX0_work 181 = .ok (.aload_n 0, 1) := by decide +kernel
theorem dX0_work_182 : decode cX0_work 182 = .ok (.aload_n 0, 1) := by decide +kernel
theorem dX0_work_183 : decode cX0_work 183 = .ok (.getfield 22, 3) := by decide +kernel
theorem dX0_work_186 : decode cX0_work 186 = .ok (.iconst 1, 1) := by decide +kernel
theorem dX0_work_187 : decode cX0_work 187 = .ok (.iconst 1, 1) := by decide +kernel
theorem dX0_work_188 : decode cX0_work 188 = .ok (.iload_n 3, 1) := by decide +kernel
theorem dX0_work_189 : decode cX0_work 189 = .ok (.invokevirtual 28, 3) := by decide +kernel
theorem dX0_work_192 : decode cX0_work 192 = .ok (.iadd, 1) := by decide +kernel
theorem dX0_work_193 : decode cX0_work 193 = .ok (.ireturn, 1) := by decide +kernel
theorem dX0_work_194 : decode cX0_work 194 = .ok (.aload_n 0, 1) := by decide +kernel
theorem dX0_work_195 : decode cX0_work 195 = .ok (.getstatic 44, 3) := by decide +kernel
theorem dX0_work_198 : decode cX0_work 198 = .ok (.iconst 4, 1) := by decide +kernel
theorem dX0_work_199 : decode cX0_work 199 = .ok (.iaload, 1) := by decide +kernel
theorem dX0_work_200 : decode cX0_work 200 = .ok (.iconst 0, 1) := by decide +kernel
theorem dX0_work_201 : decode cX0_work 201 = .ok (.iload_n 2, 1) := by decide +kernel
theorem dX0_work_202 : decode cX0_work 202 = .ok (.iload_n 3, 1) := by decide +kernel
theorem dX0_work_203 : decode cX0_work 203 = .ok (.invokevirtual 28, 3) := by decide +kernel
theorem dX0_work_206 : decode cX0_work 206 = .ok (.ineg, 1) := by decide +kernel
theorem dX0_work_207 : decode cX0_work 207 = .ok (.ireturn, 1) := by decide +kernel
theorem dX0_work_208 : decode cX0_work 208 = .ok (.aload_n 0, 1) := by decide +kernel
theorem dX0_work_209 : decode cX0_work 209 = .ok (.getstatic 44, 3) := by decide +kernel
theorem dX0_work_212 : decode cX0_work 212 = .ok (.iconst 4, 1) := by decide +kernel
theorem dX0_work_213 : decode cX0_work 213 = .ok (.iaload, 1) := by decide +kernel
theorem dX0_work_214 : decode cX0_work 214 = .ok (.iconst 1, 1) := by decide +kernel
theorem dX0_work_215 : decode cX0_work 215 = .ok (.iload_n 2, 1) := by decide +kernel
theorem dX0_work_216 : decode cX0_work 216 = .ok (.iconst 1, 1) := by decide +kernel
theorem dX0_work_217 : decode cX0_work 217 = .ok (.iadd, 1) := by decide +kernel
theorem dX0_work_218 : decode cX0_work 218 = .ok (.iload_n 3, 1) := by decide +kernel
theorem dX0_work_219 : decode cX0_work 219 = .ok (.invokevirtual 28, 3) := by decide +kernel
theorem dX0_work_222 : decode cX0_work 222 = .ok (.ireturn, 1) := by decide +kernel
theorem dX0_work_223 : decode cX0_work 223 = .ok (.aload_n 0, 1) := by decide +kernel
theorem dX0_work_224 : decode cX0_work 224 = .ok (.getstatic 44, 3) := by decide +kernel
theorem dX0_work_227 : decode cX0_work 227 = .ok (.iconst 5, 1) := by decide +kernel
theorem dX0_work_228 : decode cX0_work 228 = .ok (.iaload, 1) := by decide +kernel
theorem dX0_work_229 : decode cX0_work 229 = .ok (.iconst 2, 1) := by decide +kernel
theorem dX0_work_230 : decode cX0_work 230 = .ok (.iload_n 2, 1) := by decide +kernel
theorem dX0_work_231 : decode cX0_work 231 = .ok (.aload_n 0, 1) := by decide +kernel
theorem dX0_work_232 : decode cX0_work 232 = .ok (.getfield 19, 3) := by decide +kernel
theorem dX0_work_235 : decode cX0_work 235 = .ok (.isub, 1) := by decide +kernel
theorem dX0_work_236 : decode cX0_work 236 = .ok (.iload_n 3, 1) := by decide +kernel
theorem dX0_work_237 : decode cX0_work 237 = .ok (.invokevirtual 28, 3) := by decide +kernel
theorem dX0_work_240 : decode cX0_work 240 = .ok (.ireturn, 1) := by decide +kernel
theorem dX0_work_241 : decode cX0_work 241 = .ok (.aload_n 0, 1) := by decide +kernel
theorem dX0_work_242 : decode cX0_work 242 = .ok (.getstatic 44, 3) := by decide +kernel
theorem dX0_work_245 : decode cX0_work 245 = .ok (.bipush 6, 2) := by decide +kernel
theorem dX0_work_247 : decode cX0_work 247 = .ok (.iaload, 1) := by decide +kernel
theorem dX0_work_248 : decode cX0_work 248 = .ok (.iconst 1, 1) := by decide +kernel
theorem dX0_work_249 : decode cX0_work 249 = .ok (.iload_n 2, 1) := by decide +kernel
theorem dX0_work_250 : decode cX0_work 250 = .ok (.iload_n 3, 1) := by decide +kernel
theorem dX0_work_251 : decode cX0_work 251 = .ok (.invokevirtual 28, 3) := by decide +kernel
theorem dX0_work_254 : decode cX0_work 254 = .ok (.aload_n 0, 1) := by decide +kernel
theorem dX0_work_255 : decode cX0_work 255 = .ok (.getstatic 44, 3) := by decide +kernel
theorem dX0_work_258 : decode cX0_work 258 = .ok (.bipush 6, 2) := by decide +kernel
theorem dX0_work_260 : decode cX0_work 260 = .ok (.iaload, 1) := by decide +kernel
theorem dX0_work_261 : decode cX0_work 261 = .ok (.iconst 0, 1) := by decide +kernel
theorem dX0_work_262 : decode cX0_work 262 = .ok (.iconst 2, 1) := by decide +kernel
theorem dX0_work_263 : decode cX0_work 263 = .ok (.iload_n 3, 1) := by decide +kernel
theorem dX0_work_264 : decode cX0_work 264 = .ok (.invokevirtual 28, 3) := by decide +kernel
theorem dX0_work_267 : decode cX0_work 267 = .ok (.iadd, 1) := by decide +kernel
theorem dX0_work_268 : decode cX0_work 268 = .ok (.ireturn, 1) := by decide +kernel
theorem dX0_work_269 : decode cX0_work 269 = .ok (.aload_n 0, 1) := by decide +kernel
theorem dX0_work_270 : decode cX0_work 270 = .ok (.getstatic 44, 3) := by decide +kernel
theorem dX0_work_273 : decode cX0_work 273 = .ok (.bipush 6, 2) := by decide +kernel
theorem dX0_work_275 : decode cX0_work 275 = .ok (.iaload, 1) := by decide +kernel
theorem dX0_work_276 : decode cX0_work 276 = .ok (.iconst 0, 1) := by decide +kernel
theorem dX0_work_277 : decode cX0_work 277 = .ok (.iload_n 2, 1) := by decide +kernel
theorem dX0_work_278 : decode cX0_work 278 = .ok (.iload_n 3, 1) := by decide +kernel
theorem dX0_work_279 : decode cX0_work 279 = .ok (.invokevirtual 28, 3) := by decide +kernel
theorem dX0_work_282 : decode cX0_work 282 = .ok (.aload_n 0, 1) := by decide +kernel
theorem dX0_work_283 : decode cX0_work 283 = .ok (.getfield 25, 3) := by decide +kernel
theorem dX0_work_286 : decode cX0_work 286 = .ok (.ixor, 1) := by decide +kernel
theorem dX0_work_287 : decode cX0_work 287 = .ok (.ireturn, 1) := by decide +kernel
theorem dX0_work_288 : decode cX0_work 288 = .ok (.iconst 0, 1) := by decide +kernel
theorem dX0_work_289 : decode cX0_work 289 = .ok (.ireturn, 1) := by decide +kernel
theorem dX1_clause_0 : decode cX1_clause 0 = .ok (.iload_n 0, 1) := by decide +kernel
theorem dX1_clause_1 : decode cX1_clause 1 = .ok (.iload_n 1, 1) := by decide +kernel
theorem dX1_clause_2 : decode cX1_clause 2 = .ok (.iconst 3, 1) := by decide +kernel
theorem dX1_clause_3 : decode cX1_clause 3 = .ok (.ishl, 1) := by decide +kernel
theorem dX1_clause_4 : decode cX1_clause 4 = .ok (.ior, 1) := by decide +kernel
theorem dX1_clause_5 : decode cX1_clause 5 = .ok (.ireturn, 1) := by decide +kernel
theorem dX1_plain_0 : decode cX1_plain 0 = .ok (.bipush 10, 2) := by decide +kernel
theorem dX1_plain_2 : decode cX1_plain 2 = .ok (.istore_n 2, 1) := by decide +kernel
theorem dX1_plain_3 : decode cX1_plain 3 = .ok (.iconst 0, 1) := by decide +kernel
theorem dX1_plain_4 : decode cX1_plain 4 = .ok (.istore_n 3, 1) := by decide +kernel
theorem dX1_plain_5 : decode cX1_plain 5 = .ok (.iconst 0, 1) := by decide +kernel
theorem dX1_plain_6 : decode cX1_plain 6 = .ok (.istore 4, 2) := by decide +kernel
theorem dX1_plain_8 : decode cX1_plain 8 = .ok (.iload 4, 2) := by decide +kernel
theorem dX1_plain_10 : decode cX1_plain 10 = .ok (.aload_n 0, 1) := by decide +kernel
theorem dX1_plain_11 : decode cX1_plain 11 = .ok (.getfield 18, 3) := by decide +kernel
theorem dX1_plain_14 : decode cX1_plain 14 = .ok (.arraylength, 1) := by decide +kernel
theorem dX1_plain_15 : decode cX1_plain 15 = .ok (.if_icmp .ge 201, 3) := by decide +kernel
theorem dX1_plain_18 : decode cX1_plain 18 = .ok (.aload_n 0, 1) := by decide +kernel
theorem dX1_plain_19 : decode cX1_plain 19 = .ok (.getfield 18, 3) := by decide +kernel
theorem dX1_plain_22 : decode cX1_plain 22 = .ok (.iload 4, 2) := by decide +kernel
theorem dX1_plain_24 : decode cX1_plain 24 = .ok (.iaload, 1) := by decide +kernel
theorem dX1_plain_25 : decode cX1_plain 25 = .ok (.istore 5, 2) := by decide +kernel
theorem dX1_plain_27 : decode cX1_plain 27 = .ok (.iload 5, 2) := by decide +kernel
theorem dX1_plain_29 : decode cX1_plain 29 = .ok (.bipush 7, 2) := by decide +kernel
theorem dX1_plain_31 : decode cX1_plain 31 = .ok (.iand, 1) := by decide +kernel
theorem dX1_plain_32 : decode cX1_plain 32 = .ok (.tableswitch 98 1 5 #[36, 43, 55, 66, 82], 36) := by decide +kernel
theorem dX1_plain_68 : decode cX1_plain 68 = .ok (.iload_n 3, 1) := by decide +kernel
theorem dX1_plain_69 : decode cX1_plain 69 = .ok (.iconst 1, 1) := by decide +kernel
theorem dX1_plain_70 : decode cX1_plain 70 = .ok (.ixor, 1) := by decide +kernel
theorem dX1_plain_71 : decode cX1_plain 71 = .ok (.istore_n 3, 1) := by decide +kernel
theorem dX1_plain_72 : decode cX1_plain 72 = .ok (.goto 138, 3) := by decide +kernel
theorem dX1_plain_75 : decode cX1_plain 75 = .ok (.iload_n 3, 1) := by decide +kernel
theorem dX1_plain_76 : decode cX1_plain 76 = .ok (.iconst 1, 1) := by decide +kernel
theorem dX1_plain_77 : decode cX1_plain 77 = .ok (.ishr, 1) := by decide +kernel
theorem dX1_plain_78 : decode cX1_plain 78 = .ok (.iload_n 3, 1) := by decide +kernel
theorem dX1_plain_79 : decode cX1_plain 79 = .ok (.bipush (-2), 2) := by decide +kernel
theorem dX1_plain_81 : decode cX1_plain 81 = .ok (.ior, 1) := by decide +kernel
theorem dX1_plain_82 : decode cX1_plain 82 = .ok (.iand, 1) := by decide +kernel
theorem dX1_plain_83 : decode cX1_plain 83 = .ok (.istore_n 3, 1) := by decide +kernel
theorem dX1_plain_84 : decode cX1_plain 84 = .ok (.goto 126, 3) := by decide +kernel
theorem dX1_plain_87 : decode cX1_plain 87 = .ok (.iload_n 3, 1) := by decide +kernel
theorem dX1_plain_88 : decode cX1_plain 88 = .ok (.iconst 1, 1) := by decide +kernel
theorem dX1_plain_89 : decode cX1_plain 89 = .ok (.ishr, 1) := by decide +kernel
theorem dX1_plain_90 : decode cX1_plain 90 = .ok (.iload_n 3, 1) := by decide +kernel
theorem dX1_plain_91 : decode cX1_plain 91 = .ok (.iconst 1, 1) := by decide +kernel
theorem dX1_plain_92 : decode cX1_plain 92 = .ok (.iand, 1) := by decide +kernel
theorem dX1_plain_93 : decode cX1_plain 93 = .ok (.ior, 1) := by decide +kernel
theorem dX1_plain_94 : decode cX1_plain 94 = .ok (.istore_n 3, 1) := by decide +kernel
theorem dX1_plain_95 : decode cX1_plain 95 = .ok (.goto 115, 3) := by decide +kernel
theorem dX1_plain_98 : decode cX1_plain 98 = .ok (.iload_n 2, 1) := by decide +kernel
theorem dX1_plain_99 : decode cX1_plain 99 = .ok (.iload_n 3, 1) := by decide +kernel
theorem dX1_plain_100 : decode cX1_plain 100 = .ok (.iconst 1, 1) := by decide +kernel
theorem dX1_plain_101 : decode cX1_plain 101 = .ok (.iand, 1) := by decide +kernel
theorem dX1_plain_102 : decode cX1_plain 102 = .ok (.iload 5, 2) := by decide +kernel
theorem dX1_plain_104 : decode cX1_plain 104 = .ok (.iconst 3, 1) := by decide +kernel
theorem dX1_plain_105 : decode cX1_plain 105 = .ok (.ishr, 1) := by decide +kernel
theorem dX1_plain_106 : decode cX1_plain 106 = .ok (.imul, 1) := by decide +kernel
theorem dX1_plain_107 : decode cX1_plain 107 = .ok (.iadd, 1) := by decide +kernel
theorem dX1_plain_108 : decode cX1_plain 108 = .ok (.istore_n 2, 1) := by decide +kernel
theorem dX1_plain_109 : decode cX1_plain 109 = .ok (.iconst 0, 1) := by decide +kernel
theorem dX1_plain_110 : decode cX1_plain 110 = .ok (.istore_n 3, 1) := by decide +kernel
theorem dX1_plain_111 : decode cX1_plain 111 = .ok (.goto 99, 3) := by decide +kernel
theorem dX1_plain_114 : decode cX1_plain 114 = .ok (.iload_n 2, 1) := by decide +kernel
theorem dX1_plain_115 : decode cX1_plain 115 = .ok (.iload_n 3, 1) := by decide +kernel
theorem dX1_plain_116 : decode cX1_plain 116 = .ok (.iconst 1, 1) := by decide +kernel
theorem dX1_plain_117 : decode cX1_plain 117 = .ok (.iand, 1) := by decide +kernel
theorem dX1_plain_118 : decode cX1_plain 118 = .ok (.iload 5, 2) := by decide +kernel
theorem dX1_plain_120 : decode cX1_plain 120 = .ok (.iconst 3, 1) := by decide +kernel
theorem dX1_plain_121 : decode cX1_plain 121 = .ok (.ishr, 1) := by decide +kernel
theorem dX1_plain_122 : decode cX1_plain 122 = .ok (.imul, 1) := by decide +kernel
theorem dX1_plain_123 : decode cX1_plain 123 = .ok (.isub, 1) := by decide +kernel
theorem dX1_plain_124 : decode cX1_plain 124 = .ok (.istore_n 2, 1) := by decide +kernel
theorem dX1_plain_125 : decode cX1_plain 125 = .ok (.iconst 0, 1) := by decide +kernel
theorem dX1_plain_126 : decode cX1_plain 126 = .ok (.istore_n 3, 1) := by decide +kernel
theorem dX1_plain_127 : decode cX1_plain 127 = .ok (.goto 83, 3) := by decide +kernel
theorem dX1_plain_130 : decode cX1_plain 130 = .ok (.iload 5, 2) := by decide +kernel
theorem dX1_plain_132 : decode cX1_plain 132 = .ok (.iconst 3, 1) := by decide +kernel
theorem dX1_plain_133 : decode cX1_plain 133 = .ok (.ishr, 1) := by decide +kernel
theorem dX1_plain_134 : decode cX1_plain 134 = .ok (.bipush 7, 2) := by decide +kernel
theorem dX1_plain_136 : decode cX1_plain 136 = .ok (.iand, 1) := by decide +kernel
theorem dX1_plain_137 : decode cX1_plain 137 = .ok (.istore 6, 2) := by decide +kernel
theorem dX1_plain_139 : decode cX1_plain 139 = .ok (.iload 6, 2) := by decide +kernel
theorem dX1_plain_141 : decode cX1_plain 141 = .ok (.bipush 6, 2) := by decide +kernel
theorem dX1_plain_143 : decode cX1_plain 143 = .ok (.if_icmp .ge 10, 3) := by decide +kernel
theorem dX1_plain_146 : decode cX1_plain 146 = .ok (.aload_n 1, 1) := by decide +kernel
theorem dX1_plain_147 : decode cX1_plain 147 = .ok (.iload 6, 2) := by decide +kernel
theorem dX1_plain_149 : decode cX1_plain 149 = .ok (.iaload, 1) := by decide +kernel
theorem dX1_plain_150 : decode cX1_plain 150 = .ok (.goto 4, 3) := by decide +kernel
theorem dX1_plain_153 : decode cX1_plain 153 = .ok (.iconst 0, 1) := by decide +kernel
theorem dX1_plain_154 : decode cX1_plain 154 = .ok (.istore 7, 2) := by decide +kernel
theorem dX1_plain_156 : decode cX1_plain 156 = .ok (.iload 5, 2) := by decide +kernel
theorem dX1_plain_158 : decode cX1_plain 158 = .ok (.bipush 8, 2) := by decide +kernel
theorem dX1_plain_160 : decode cX1_plain 160 = .ok (.ishr, 1) := by decide +kernel
theorem dX1_plain_161 : decode cX1_plain 161 = .ok (.istore 8, 2) := by decide +kernel
theorem dX1_plain_163 : decode cX1_plain 163 = .ok (.iload 7, 2) := by decide +kernel
theorem dX1_plain_165 : decode cX1_plain 165 = .ok (.iload 8, 2) := by decide +kernel
theorem dX1_plain_167 : decode cX1_plain 167 = .ok (.if_icmp .ge 7, 3) := by decide +kernel
theorem dX1_plain_170 : decode cX1_plain 170 = .ok (.iconst 0, 1) := by decide +kernel
theorem dX1_plain_171 : decode cX1_plain 171 = .ok (.goto 15, 3) := by decide +kernel
theorem dX1_plain_174 : decode cX1_plain 174 = .ok (.iload 7, 2) := by decide +kernel
theorem dX1_plain_176 : decode cX1_plain 176 = .ok (.iload 8, 2) := by decide +kernel
theorem dX1_plain_178 : decode cX1_plain 178 = .ok (.if_icmp .ne 7, 3) := by decide +kernel
theorem dX1_plain_181 : decode cX1_plain 181 = .ok (.iconst 1, 1) := by decide +kernel
theorem dX1_plain_182 : decode cX1_plain 182 = .ok (.goto 4, 3) := by decide +kernel
theorem dX1_plain_185 : decode cX1_plain 185 = .ok (.iconst 2, 1) := by decide +kernel
theorem dX1_plain_186 : decode cX1_plain 186 = .ok (.istore 9, 2) := by decide +kernel
theorem dX1_plain_188 : decode cX1_plain 188 = .ok (.iload_n 3, 1) := by decide +kernel
theorem dX1_plain_189 : decode cX1_plain 189 = .ok (.iconst 1, 1) := by decide +kernel
theorem dX1_plain_190 : decode cX1_plain 190 = .ok (.ishl, 1) := by decide +kernel
theorem dX1_plain_191 : decode cX1_plain 191 = .ok (.iload 9, 2) := by decide +kernel
theorem dX1_plain_193 : decode cX1_plain 193 = .ok (.iload 5, 2) := by decide +kernel
theorem dX1_plain_195 : decode cX1_plain 195 = .ok (.bipush 6, 2) := by decide +kernel
theorem dX1_plain_197 : decode cX1_plain 197 = .ok (.ishr, 1) := by decide +kernel
theorem dX1_plain_198 : decode cX1_plain 198 = .ok (.iconst 3, 1) := by decide +kernel
theorem dX1_plain_199 : decode cX1_plain 199 = .ok (.iand, 1) := by decide +kernel
theorem dX1_plain_200 : decode cX1_plain 200 = .ok (.if_icmp .ne 7, 3) := by decide +kernel
theorem dX1_plain_203 : decode cX1_plain 203 = .ok (.iconst 1, 1) := by decide +kernel
theorem dX1_plain_204 : decode cX1_plain 204 = .ok (.goto 4, 3) := by decide +kernel
theorem dX1_plain_207 : decode cX1_plain 207 = .ok (.iconst 0, 1) := by decide +kernel
theorem dX1_plain_208 : decode cX1_plain 208 = .ok (.ior, 1) := by decide +kernel
theorem dX1_plain_209 : decode cX1_plain 209 = .ok (.istore_n 3, 1) := by decide +kernel
theorem dX1_plain_210 : decode cX1_plain 210 = .ok (.iinc 4 1, 3) := by decide +kernel
theorem dX1_plain_213 : decode cX1_plain 213 = .ok (.goto (-205), 3) := by decide +kernel
theorem dX1_plain_216 : decode cX1_plain 216 = .ok (.iconst 0, 1) := by decide +kernel
theorem dX1_plain_217 : decode cX1_plain 217 = .ok (.iload_n 2, 1) := by decide +kernel
theorem dX1_plain_218 : decode cX1_plain 218 = .ok (.invokestatic 28, 3) := by decide +kernel
theorem dX1_plain_221 : decode cX1_plain 221 = .ok (.ireturn, 1) := by decide +kernel
theorem dX1_test_0 : decode cX1_test 0 = .ok (.iconst 0, 1) := by decide +kernel
theorem dX1_test_1 : decode cX1_test 1 = .ok (.iload_n 0, 1) := by decide +kernel
theorem dX1_test_2 : decode cX1_test 2 = .ok (.iconst 3, 1) := by decide +kernel
theorem dX1_test_3 : decode cX1_test 3 = .ok (.ishl, 1) := by decide +kernel
theorem dX1_test_4 : decode cX1_test 4 = .ok (.ior, 1) := by decide +kernel
theorem dX1_test_5 : decode cX1_test 5 = .ok (.iload_n 1, 1) := by decide +kernel
theorem dX1_test_6 : decode cX1_test 6 = .ok (.bipush 6, 2) := by decide +kernel
theorem dX1_test_8 : decode cX1_test 8 = .ok (.ishl, 1) := by decide +kernel
theorem dX1_test_9 : decode cX1_test 9 = .ok (.ior, 1) := by decide +kernel
theorem dX1_test_10 : decode cX1_test 10 = .ok (.iload_n 2, 1) := by decide +kernel
theorem dX1_test_11 : decode cX1_test 11 = .ok (.bipush 8, 2) := by decide +kernel
theorem dX1_test_13 : decode cX1_test 13 = .ok (.ishl, 1) := by decide +kernel
theorem dX1_test_14 : decode cX1_test 14 = .ok (.ior, 1) := by decide +kernel
theorem dX1_test_15 : decode cX1_test 15 = .ok (.ireturn, 1) := by decide +kernel
theorem dX2_add_0 : decode cX2_add 0 = .ok (.aload_n 0, 1) := by decide +kernel
theorem dX2_add_1 : decode cX2_add 1 = .ok (.getfield 18, 3) := by decide +kernel
theorem dX2_add_4 : decode cX2_add 4 = .ok (.aload_n 0, 1) := by decide +kernel
theorem dX2_add_5 : decode cX2_add 5 = .ok (.getfield 9, 3) := by decide +kernel
theorem dX2_add_8 : decode cX2_add 8 = .ok (.iload_n 1, 1) := by decide +kernel
theorem dX2_add_9 : decode cX2_add 9 = .ok (.iastore, 1) := by decide +kernel
theorem dX2_add_10 : decode cX2_add 10 = .ok (.aload_n 0, 1) := by decide +kernel
theorem dX2_add_11 : decode cX2_add 11 = .ok (.dup, 1) := by decide +kernel
theorem dX2_add_12 : decode cX2_add 12 = .ok (.getfield 9, 3) := by decide +kernel
theorem dX2_add_15 : decode cX2_add 15 = .ok (.iconst 1, 1) := by decide +kernel
theorem dX2_add_16 : decode cX2_add 16 = .ok (.iadd, 1) := by decide +kernel
theorem dX2_add_17 : decode cX2_add 17 = .ok (.putfield 9, 3) := by decide +kernel
theorem dX2_add_20 : decode cX2_add 20 = .ok (.aload_n 0, 1) := by decide +kernel
theorem dX2_add_21 : decode cX2_add 21 = .ok (.getfield 9, 3) := by decide +kernel
theorem dX2_add_24 : decode cX2_add 24 = .ok (.ireturn, 1) := by decide +kernel
theorem dX2_keep_0 : decode cX2_keep 0 = .ok (.aload_n 0, 1) := by decide +kernel
theorem dX2_keep_1 : decode cX2_keep 1 = .ok (.getfield 28, 3) := by decide +kernel
theorem dX2_keep_4 : decode cX2_keep 4 = .ok (.bipush 100, 2) := by decide +kernel
theorem dX2_keep_6 : decode cX2_keep 6 = .ok (.if_icmp .ge 23, 3) := by decide +kernel
theorem dX2_keep_9 : decode cX2_keep 9 = .ok (.aload_n 0, 1) := by decide +kernel
theorem dX2_keep_10 : decode cX2_keep 10 = .ok (.getfield 31, 3) := by decide +kernel
theorem dX2_keep_13 : decode cX2_keep 13 = .ok (.aload_n 0, 1) := by decide +kernel
theorem dX2_keep_14 : decode cX2_keep 14 = .ok (.getfield 28, 3) := by decide +kernel
theorem dX2_keep_17 : decode cX2_keep 17 = .ok (.iload_n 1, 1) := by decide +kernel
theorem dX2_keep_18 : decode cX2_keep 18 = .ok (.iastore, 1) := by decide +kernel
theorem dX2_keep_19 : decode cX2_keep 19 = .ok (.aload_n 0, 1) := by decide +kernel
theorem dX2_keep_20 : decode cX2_keep 20 = .ok (.dup, 1) := by decide +kernel
theorem dX2_keep_21 : decode cX2_keep 21 = .ok (.getfield 28, 3) := by decide +kernel
theorem dX2_keep_24 : decode cX2_keep 24 = .ok (.iconst 1, 1) := by decide +kernel
theorem dX2_keep_25 : decode cX2_keep 25 = .ok (.iadd, 1) := by decide +kernel
theorem dX2_keep_26 : decode cX2_keep 26 = .ok (.putfield 28, 3) := by decide +kernel
theorem dX2_keep_29 : decode cX2_keep 29 = .ok (.return_, 1) := by decide +kernel
theorem dX2_number_0 : decode cX2_number 0 = .ok (.iconst (-1), 1) := by decide +kernel
theorem dX2_number_1 : decode cX2_number 1 = .ok (.istore_n 1, 1) := by decide +kernel
theorem dX2_number_2 : decode cX2_number 2 = .ok (.iconst 0, 1) := by decide +kernel
theorem dX2_number_3 : decode cX2_number 3 = .ok (.istore_n 2, 1) := by decide +kernel
theorem dX2_number_4 : decode cX2_number 4 = .ok (.iload_n 2, 1) := by decide +kernel
theorem dX2_number_5 : decode cX2_number 5 = .ok (.iconst 2, 1) := by decide +kernel
theorem dX2_number_6 : decode cX2_number 6 = .ok (.if_icmp .ge 73, 3) := by decide +kernel
theorem dX2_number_9 : decode cX2_number 9 = .ok (.aload_n 0, 1) := by decide +kernel
theorem dX2_number_10 : decode cX2_number 10 = .ok (.getfield 18, 3) := by decide +kernel
theorem dX2_number_13 : decode cX2_number 13 = .ok (.aload_n 0, 1) := by decide +kernel
theorem dX2_number_14 : decode cX2_number 14 = .ok (.getfield 15, 3) := by decide +kernel
theorem dX2_number_17 : decode cX2_number 17 = .ok (.iaload, 1) := by decide +kernel
theorem dX2_number_18 : decode cX2_number 18 = .ok (.bipush 48, 2) := by decide +kernel
theorem dX2_number_20 : decode cX2_number 20 = .ok (.if_icmp .lt 59, 3) := by decide +kernel
theorem dX2_number_23 : decode cX2_number 23 = .ok (.aload_n 0, 1) := by decide +kernel
theorem dX2_number_24 : decode cX2_number 24 = .ok (.getfield 18, 3) := by decide +kernel
theorem dX2_number_27 : decode cX2_number 27 = .ok (.aload_n 0, 1) := by decide +kernel
theorem dX2_number_28 : decode cX2_number 28 = .ok (.getfield 15, 3) := by decide +kernel
theorem dX2_number_31 : decode cX2_number 31 = .ok (.iaload, 1) := by decide +kernel
theorem dX2_number_32 : decode cX2_number 32 = .ok (.bipush 57, 2) := by decide +kernel
theorem dX2_number_34 : decode cX2_number 34 = .ok (.if_icmp .gt 45, 3) := by decide +kernel
theorem dX2_number_37 : decode cX2_number 37 = .ok (.iload_n 1, 1) := by decide +kernel
theorem dX2_number_38 : decode cX2_number 38 = .ok (.ifCond .ge 7, 3) := by decide +kernel
theorem dX2_number_41 : decode cX2_number 41 = .ok (.iconst 0, 1) := by decide +kernel
theorem dX2_number_42 : decode cX2_number 42 = .ok (.goto 7, 3) := by decide +kernel
theorem dX2_number_45 : decode cX2_number 45 = .ok (.iload_n 1, 1) := by decide +kernel
theorem dX2_number_46 : decode cX2_number 46 = .ok (.bipush 10, 2) := by decide +kernel
theorem dX2_number_48 : decode cX2_number 48 = .ok (.imul, 1) := by decide +kernel
theorem dX2_number_49 : decode cX2_number 49 = .ok (.aload_n 0, 1) := by decide +kernel
theorem dX2_number_50 : decode cX2_number 50 = .ok (.getfield 18, 3) := by decide +kernel
theorem dX2_number_53 : decode cX2_number 53 = .ok (.aload_n 0, 1) := by decide +kernel
theorem dX2_number_54 : decode cX2_number 54 = .ok (.getfield 15, 3) := by decide +kernel
theorem dX2_number_57 : decode cX2_number 57 = .ok (.iaload, 1) := by decide +kernel
theorem dX2_number_58 : decode cX2_number 58 = .ok (.iadd, 1) := by decide +kernel
theorem dX2_number_59 : decode cX2_number 59 = .ok (.bipush 48, 2) := by decide +kernel
theorem dX2_number_61 : decode cX2_number 61 = .ok (.isub, 1) := by decide +kernel
theorem dX2_number_62 : decode cX2_number 62 = .ok (.istore_n 1, 1) := by decide +kernel
theorem dX2_number_63 : decode cX2_number 63 = .ok (.aload_n 0, 1) := by decide +kernel
theorem dX2_number_64 : decode cX2_number 64 = .ok (.dup, 1) := by decide +kernel
theorem dX2_number_65 : decode cX2_number 65 = .ok (.getfield 15, 3) := by decide +kernel
theorem dX2_number_68 : decode cX2_number 68 = .ok (.iconst 1, 1) := by decide +kernel
theorem dX2_number_69 : decode cX2_number 69 = .ok (.iadd, 1) := by decide +kernel
theorem dX2_number_70 : decode cX2_number 70 = .ok (.putfield 15, 3) := by decide +kernel
theorem dX2_number_73 : decode cX2_number 73 = .ok (.iinc 2 1, 3) := by decide +kernel
theorem dX2_number_76 : decode cX2_number 76 = .ok (.goto (-72), 3) := by decide +kernel
theorem dX2_number_79 : decode cX2_number 79 = .ok (.iload_n 1, 1) := by decide +kernel
theorem dX2_number_80 : decode cX2_number 80 = .ok (.ireturn, 1) := by decide +kernel
theorem dX2_oneOf_0 : decode cX2_oneOf 0 = .ok (.aload_n 0, 1) := by decide +kernel
theorem dX2_oneOf_1 : decode cX2_oneOf 1 = .ok (.getfield 18, 3) := by decide +kernel
theorem dX2_oneOf_4 : decode cX2_oneOf 4 = .ok (.aload_n 0, 1) := by decide +kernel
theorem dX2_oneOf_5 : decode cX2_oneOf 5 = .ok (.getfield 15, 3) := by decide +kernel
theorem dX2_oneOf_8 : decode cX2_oneOf 8 = .ok (.iaload, 1) := by decide +kernel
theorem dX2_oneOf_9 : decode cX2_oneOf 9 = .ok (.iconst (-1), 1) := by decide +kernel
theorem dX2_oneOf_10 : decode cX2_oneOf 10 = .ok (.if_icmp .ne 7, 3) := by decide +kernel
theorem dX2_oneOf_13 : decode cX2_oneOf 13 = .ok (.iconst (-1), 1) := by decide +kernel
theorem dX2_oneOf_14 : decode cX2_oneOf 14 = .ok (.goto 17, 3) := by decide +kernel
theorem dX2_oneOf_17 : decode cX2_oneOf 17 = .ok (.aload_n 1, 1) := by decide +kernel
theorem dX2_oneOf_18 : decode cX2_oneOf 18 = .ok (.aload_n 0, 1) := by decide +kernel
theorem dX2_oneOf_19 : decode cX2_oneOf 19 = .ok (.getfield 18, 3) := by decide +kernel
theorem dX2_oneOf_22 : decode cX2_oneOf 22 = .ok (.aload_n 0, 1) := by decide +kernel
theorem dX2_oneOf_23 : decode cX2_oneOf 23 = .ok (.getfield 15, 3) := by decide +kernel
theorem dX2_oneOf_26 : decode cX2_oneOf 26 = .ok (.iaload, 1) := by decide +kernel
theorem dX2_oneOf_27 : decode cX2_oneOf 27 = .ok (.i2c, 1) := by decide +kernel
theorem dX2_oneOf_28 : decode cX2_oneOf 28 = .ok (.invokevirtual 101, 3) := by decide +kernel
theorem dX2_oneOf_31 : decode cX2_oneOf 31 = .ok (.istore_n 2, 1) := by decide +kernel
theorem dX2_oneOf_32 : decode cX2_oneOf 32 = .ok (.iload_n 2, 1) := by decide +kernel
theorem dX2_oneOf_33 : decode cX2_oneOf 33 = .ok (.ifCond .lt 13, 3) := by decide +kernel
theorem dX2_oneOf_36 : decode cX2_oneOf 36 = .ok (.aload_n 0, 1) := by decide +kernel
theorem dX2_oneOf_37 : decode cX2_oneOf 37 = .ok (.dup, 1) := by decide +kernel
theorem dX2_oneOf_38 : decode cX2_oneOf 38 = .ok (.getfield 15, 3) := by decide +kernel
theorem dX2_oneOf_41 : decode cX2_oneOf 41 = .ok (.iconst 1, 1) := by decide +kernel
theorem dX2_oneOf_42 : decode cX2_oneOf 42 = .ok (.iadd, 1) := by decide +kernel
theorem dX2_oneOf_43 : decode cX2_oneOf 43 = .ok (.putfield 15, 3) := by decide +kernel
theorem dX2_oneOf_46 : decode cX2_oneOf 46 = .ok (.iload_n 2, 1) := by decide +kernel
theorem dX2_oneOf_47 : decode cX2_oneOf 47 = .ok (.ireturn, 1) := by decide +kernel
theorem dX2_reads_0 : decode cX2_reads 0 = .ok (.aload_n 0, 1) := by decide +kernel
theorem dX2_reads_1 : decode cX2_reads 1 = .ok (.getfield 18, 3) := by decide +kernel
theorem dX2_reads_4 : decode cX2_reads 4 = .ok (.aload_n 0, 1) := by decide +kernel
theorem dX2_reads_5 : decode cX2_reads 5 = .ok (.getfield 15, 3) := by decide +kernel
theorem dX2_reads_8 : decode cX2_reads 8 = .ok (.iaload, 1) := by decide +kernel
theorem dX2_reads_9 : decode cX2_reads 9 = .ok (.iload_n 1, 1) := by decide +kernel
theorem dX2_reads_10 : decode cX2_reads 10 = .ok (.if_icmp .eq 5, 3) := by decide +kernel
theorem dX2_reads_13 : decode cX2_reads 13 = .ok (.iconst 0, 1) := by decide +kernel
theorem dX2_reads_14 : decode cX2_reads 14 = .ok (.ireturn, 1) := by decide +kernel
theorem dX2_reads_15 : decode cX2_reads 15 = .ok (.aload_n 0, 1) := by decide +kernel
theorem dX2_reads_16 : decode cX2_reads 16 = .ok (.dup, 1) := by decide +kernel
theorem dX2_reads_17 : decode cX2_reads 17 = .ok (.getfield 15, 3) := by decide +kernel
theorem dX2_reads_20 : decode cX2_reads 20 = .ok (.iconst 1, 1) := by decide +kernel
theorem dX2_reads_21 : decode cX2_reads 21 = .ok (.iadd, 1) := by decide +kernel
theorem dX2_reads_22 : decode cX2_reads 22 = .ok (.putfield 15, 3) := by decide +kernel
theorem dX2_reads_25 : decode cX2_reads 25 = .ok (.iconst 1, 1) := by decide +kernel
theorem dX2_reads_26 : decode cX2_reads 26 = .ok (.ireturn, 1) := by decide +kernel
theorem dX2_readsAll_0 : decode cX2_readsAll 0 = .ok (.aload_n 0, 1) := by decide +kernel
theorem dX2_readsAll_1 : decode cX2_readsAll 1 = .ok (.getfield 18, 3) := by decide +kernel
theorem dX2_readsAll_4 : decode cX2_readsAll 4 = .ok (.aload_n 0, 1) := by decide +kernel
theorem dX2_readsAll_5 : decode cX2_readsAll 5 = .ok (.getfield 9, 3) := by decide +kernel
theorem dX2_readsAll_8 : decode cX2_readsAll 8 = .ok (.iconst (-1), 1) := by decide +kernel
theorem dX2_readsAll_9 : decode cX2_readsAll 9 = .ok (.iastore, 1) := by decide +kernel
theorem dX2_readsAll_10 : decode cX2_readsAll 10 = .ok (.aload_n 0, 1) := by decide +kernel
theorem dX2_readsAll_11 : decode cX2_readsAll 11 = .ok (.iconst 0, 1) := by decide +kernel
theorem dX2_readsAll_12 : decode cX2_readsAll 12 = .ok (.putfield 15, 3) := by decide +kernel
theorem dX2_readsAll_15 : decode cX2_readsAll 15 = .ok (.aload_n 0, 1) := by decide +kernel
theorem dX2_readsAll_16 : decode cX2_readsAll 16 = .ok (.iconst 1, 1) := by decide +kernel
theorem dX2_readsAll_17 : decode cX2_readsAll 17 = .ok (.putfield 22, 3) := by decide +kernel
theorem dX2_readsAll_20 : decode cX2_readsAll 20 = .ok (.aload_n 0, 1) := by decide +kernel
theorem dX2_readsAll_21 : decode cX2_readsAll 21 = .ok (.iconst 0, 1) := by decide +kernel
theorem dX2_readsAll_22 : decode cX2_readsAll 22 = .ok (.putfield 25, 3) := by decide +kernel
theorem dX2_readsAll_25 : decode cX2_readsAll 25 = .ok (.aload_n 0, 1) := by decide +kernel
theorem dX2_readsAll_26 : decode cX2_readsAll 26 = .ok (.iconst 0, 1) := by decide +kernel
theorem dX2_readsAll_27 : decode cX2_readsAll 27 = .ok (.putfield 28, 3) := by decide +kernel
theorem dX2_readsAll_30 : decode cX2_readsAll 30 = .ok (.iconst 1, 1) := by decide +kernel
theorem dX2_readsAll_31 : decode cX2_readsAll 31 = .ok (.istore_n 1, 1) := by decide +kernel
theorem dX2_readsAll_32 : decode cX2_readsAll 32 = .ok (.iload_n 1, 1) := by decide +kernel
theorem dX2_readsAll_33 : decode cX2_readsAll 33 = .ok (.bipush 10, 2) := by decide +kernel
theorem dX2_readsAll_35 : decode cX2_readsAll 35 = .ok (.if_icmp .gt 48, 3) := by decide +kernel
theorem dX2_readsAll_38 : decode cX2_readsAll 38 = .ok (.aload_n 0, 1) := by decide +kernel
theorem dX2_readsAll_39 : decode cX2_readsAll 39 = .ok (.invokevirtual 34, 3) := by decide +kernel
theorem dX2_readsAll_42 : decode cX2_readsAll 42 = .ok (.ifCond .ne 5, 3) := by decide +kernel
theorem dX2_readsAll_45 : decode cX2_readsAll 45 = .ok (.iconst 0, 1) := by decide +kernel
theorem dX2_readsAll_46 : decode cX2_readsAll 46 = .ok (.ireturn, 1) := by decide +kernel
theorem dX2_readsAll_47 : decode cX2_readsAll 47 = .ok (.aload_n 0, 1) := by decide +kernel
theorem dX2_readsAll_48 : decode cX2_readsAll 48 = .ok (.getfield 15, 3) := by decide +kernel
theorem dX2_readsAll_51 : decode cX2_readsAll 51 = .ok (.aload_n 0, 1) := by decide +kernel
theorem dX2_readsAll_52 : decode cX2_readsAll 52 = .ok (.getfield 9, 3) := by decide +kernel
theorem dX2_readsAll_55 : decode cX2_readsAll 55 = .ok (.if_icmp .ne 5, 3) := by decide +kernel
theorem dX2_readsAll_58 : decode cX2_readsAll 58 = .ok (.iconst 1, 1) := by decide +kernel
theorem dX2_readsAll_59 : decode cX2_readsAll 59 = .ok (.ireturn, 1) := by decide +kernel
theorem dX2_readsAll_60 : decode cX2_readsAll 60 = .ok (.iload_n 1, 1) := by decide +kernel
theorem dX2_readsAll_61 : decode cX2_readsAll 61 = .ok (.bipush 10, 2) := by decide +kernel
theorem dX2_readsAll_63 : decode cX2_readsAll 63 = .ok (.if_icmp .eq 12, 3) := by decide +kernel
theorem dX2_readsAll_66 : decode cX2_readsAll 66 = .ok (.aload_n 0, 1) := by decide +kernel
theorem dX2_readsAll_67 : decode cX2_readsAll 67 = .ok (.bipush 59, 2) := by decide +kernel
theorem dX2_readsAll_69 : decode cX2_readsAll 69 = .ok (.invokevirtual 38, 3) := by decide +kernel
theorem dX2_readsAll_72 : decode cX2_readsAll 72 = .ok (.ifCond .ne 5, 3) := by decide +kernel
theorem dX2_readsAll_75 : decode cX2_readsAll 75 = .ok (.iconst 0, 1) := by decide +kernel
theorem dX2_readsAll_76 : decode cX2_readsAll 76 = .ok (.ireturn, 1) := by decide +kernel
theorem dX2_readsAll_77 : decode cX2_readsAll 77 = .ok (.iinc 1 1, 3) := by decide +kernel
theorem dX2_readsAll_80 : decode cX2_readsAll 80 = .ok (.goto (-48), 3) := by decide +kernel
theorem dX2_readsAll_83 : decode cX2_readsAll 83 = .ok (.iconst 0, 1) := by decide +kernel
theorem dX2_readsAll_84 : decode cX2_readsAll 84 = .ok (.ireturn, 1) := by decide +kernel
theorem dX2_readsClause_0 : decode cX2_readsClause 0 = .ok (.aload_n 0, 1) := by decide +kernel
theorem dX2_readsClause_1 : decode cX2_readsClause 1 = .ok (.invokevirtual 53, 3) := by decide +kernel
theorem dX2_readsClause_4 : decode cX2_readsClause 4 = .ok (.istore_n 1, 1) := by decide +kernel
theorem dX2_readsClause_5 : decode cX2_readsClause 5 = .ok (.iload_n 1, 1) := by decide +kernel
theorem dX2_readsClause_6 : decode cX2_readsClause 6 = .ok (.ifCond .lt 12, 3) := by decide +kernel
theorem dX2_readsClause_9 : decode cX2_readsClause 9 = .ok (.aload_n 0, 1) := by decide +kernel
theorem dX2_readsClause_10 : decode cX2_readsClause 10 = .ok (.bipush 32, 2) := by decide +kernel
theorem dX2_readsClause_12 : decode cX2_readsClause 12 = .ok (.invokevirtual 38, 3) := by decide +kernel
theorem dX2_readsClause_15 : decode cX2_readsClause 15 = .ok (.ifCond .ne 5, 3) := by decide +kernel
theorem dX2_readsClause_18 : decode cX2_readsClause 18 = .ok (.iconst 0, 1) := by decide +kernel
theorem dX2_readsClause_19 : decode cX2_readsClause 19 = .ok (.ireturn, 1) := by decide +kernel
theorem dX2_readsClause_20 : decode cX2_readsClause 20 = .ok (.aload_n 0, 1) := by decide +kernel
theorem dX2_readsClause_21 : decode cX2_readsClause 21 = .ok (.invokevirtual 57, 3) := by decide +kernel
theorem dX2_readsClause_24 : decode cX2_readsClause 24 = .ok (.istore_n 2, 1) := by decide +kernel
theorem dX2_readsClause_25 : decode cX2_readsClause 25 = .ok (.iload_n 2, 1) := by decide +kernel
theorem dX2_readsClause_26 : decode cX2_readsClause 26 = .ok (.ifCond .ge 5, 3) := by decide +kernel
theorem dX2_readsClause_29 : decode cX2_readsClause 29 = .ok (.iconst 0, 1) := by decide +kernel
theorem dX2_readsClause_30 : decode cX2_readsClause 30 = .ok (.ireturn, 1) := by decide +kernel
theorem dX2_readsClause_31 : decode cX2_readsClause 31 = .ok (.iload_n 1, 1) := by decide +kernel
theorem dX2_readsClause_32 : decode cX2_readsClause 32 = .ok (.bipush 6, 2) := by decide +kernel
theorem dX2_readsClause_34 : decode cX2_readsClause 34 = .ok (.if_icmp .ne 10, 3) := by decide +kernel
theorem dX2_readsClause_37 : decode cX2_readsClause 37 = .ok (.aload_n 0, 1) := by decide +kernel
theorem dX2_readsClause_38 : decode cX2_readsClause 38 = .ok (.iload_n 2, 1) := by decide +kernel
theorem dX2_readsClause_39 : decode cX2_readsClause 39 = .ok (.putfield 22, 3) := by decide +kernel
theorem dX2_readsClause_42 : decode cX2_readsClause 42 = .ok (.iconst 1, 1) := by decide +kernel
theorem dX2_readsClause_43 : decode cX2_readsClause 43 = .ok (.ireturn, 1) := by decide +kernel
theorem dX2_readsClause_44 : decode cX2_readsClause 44 = .ok (.iload_n 1, 1) := by decide +kernel
theorem dX2_readsClause_45 : decode cX2_readsClause 45 = .ok (.bipush 7, 2) := by decide +kernel
theorem dX2_readsClause_47 : decode cX2_readsClause 47 = .ok (.if_icmp .ne 10, 3) := by decide +kernel
theorem dX2_readsClause_50 : decode cX2_readsClause 50 = .ok (.aload_n 0, 1) := by decide +kernel
theorem dX2_readsClause_51 : decode cX2_readsClause 51 = .ok (.iload_n 2, 1) := by decide +kernel
theorem dX2_readsClause_52 : decode cX2_readsClause 52 = .ok (.putfield 25, 3) := by decide +kernel
theorem dX2_readsClause_55 : decode cX2_readsClause 55 = .ok (.iconst 1, 1) := by decide +kernel
theorem dX2_readsClause_56 : decode cX2_readsClause 56 = .ok (.ireturn, 1) := by decide +kernel
theorem dX2_readsClause_57 : decode cX2_readsClause 57 = .ok (.aload_n 0, 1) := by decide +kernel
theorem dX2_readsClause_58 : decode cX2_readsClause 58 = .ok (.bipush 32, 2) := by decide +kernel
theorem dX2_readsClause_60 : decode cX2_readsClause 60 = .ok (.invokevirtual 38, 3) := by decide +kernel
theorem dX2_readsClause_63 : decode cX2_readsClause 63 = .ok (.ifCond .eq 11, 3) := by decide +kernel
theorem dX2_readsClause_66 : decode cX2_readsClause 66 = .ok (.aload_n 0, 1) := by decide +kernel
theorem dX2_readsClause_67 : decode cX2_readsClause 67 = .ok (.iconst 0, 1) := by decide +kernel
theorem dX2_readsClause_68 : decode cX2_readsClause 68 = .ok (.invokevirtual 60, 3) := by decide +kernel
theorem dX2_readsClause_71 : decode cX2_readsClause 71 = .ok (.ifCond .ne 5, 3) := by decide +kernel
theorem dX2_readsClause_74 : decode cX2_readsClause 74 = .ok (.iconst 0, 1) := by decide +kernel
theorem dX2_readsClause_75 : decode cX2_readsClause 75 = .ok (.ireturn, 1) := by decide +kernel
theorem dX2_readsClause_76 : decode cX2_readsClause 76 = .ok (.aload_n 0, 1) := by decide +kernel
theorem dX2_readsClause_77 : decode cX2_readsClause 77 = .ok (.iload_n 1, 1) := by decide +kernel
theorem dX2_readsClause_78 : decode cX2_readsClause 78 = .ok (.iload_n 2, 1) := by decide +kernel
theorem dX2_readsClause_79 : decode cX2_readsClause 79 = .ok (.invokestatic 63, 3) := by decide +kernel
theorem dX2_readsClause_82 : decode cX2_readsClause 82 = .ok (.invokevirtual 67, 3) := by decide +kernel
theorem dX2_readsClause_85 : decode cX2_readsClause 85 = .ok (.iconst 1, 1) := by decide +kernel
theorem dX2_readsClause_86 : decode cX2_readsClause 86 = .ok (.ireturn, 1) := by decide +kernel
theorem dX2_readsEither_0 : decode cX2_readsEither 0 = .ok (.iconst 0, 1) := by decide +kernel
theorem dX2_readsEither_1 : decode cX2_readsEither 1 = .ok (.istore_n 2, 1) := by decide +kernel
theorem dX2_readsEither_2 : decode cX2_readsEither 2 = .ok (.iconst 0, 1) := by decide +kernel
theorem dX2_readsEither_3 : decode cX2_readsEither 3 = .ok (.istore_n 3, 1) := by decide +kernel
theorem dX2_readsEither_4 : decode cX2_readsEither 4 = .ok (.iconst 0, 1) := by decide +kernel
theorem dX2_readsEither_5 : decode cX2_readsEither 5 = .ok (.istore 4, 2) := by decide +kernel
theorem dX2_readsEither_7 : decode cX2_readsEither 7 = .ok (.iload 4, 2) := by decide +kernel
theorem dX2_readsEither_9 : decode cX2_readsEither 9 = .ok (.bipush 100, 2) := by decide +kernel
theorem dX2_readsEither_11 : decode cX2_readsEither 11 = .ok (.if_icmp .ge 64, 3) := by decide +kernel
theorem dX2_readsEither_14 : decode cX2_readsEither 14 = .ok (.aload_n 0, 1) := by decide +kernel
theorem dX2_readsEither_15 : decode cX2_readsEither 15 = .ok (.iload_n 1, 1) := by decide +kernel
theorem dX2_readsEither_16 : decode cX2_readsEither 16 = .ok (.invokevirtual 83, 3) := by decide +kernel
theorem dX2_readsEither_19 : decode cX2_readsEither 19 = .ok (.ifCond .ne 5, 3) := by decide +kernel
theorem dX2_readsEither_22 : decode cX2_readsEither 22 = .ok (.iconst 0, 1) := by decide +kernel
theorem dX2_readsEither_23 : decode cX2_readsEither 23 = .ok (.ireturn, 1) := by decide +kernel
theorem dX2_readsEither_24 : decode cX2_readsEither 24 = .ok (.iload_n 2, 1) := by decide +kernel
theorem dX2_readsEither_25 : decode cX2_readsEither 25 = .ok (.ifCond .eq 8, 3) := by decide +kernel
theorem dX2_readsEither_28 : decode cX2_readsEither 28 = .ok (.aload_n 0, 1) := by decide +kernel
theorem dX2_readsEither_29 : decode cX2_readsEither 29 = .ok (.iconst 2, 1) := by decide +kernel
theorem dX2_readsEither_30 : decode cX2_readsEither 30 = .ok (.invokevirtual 67, 3) := by decide +kernel
theorem dX2_readsEither_33 : decode cX2_readsEither 33 = .ok (.aload_n 0, 1) := by decide +kernel
theorem dX2_readsEither_34 : decode cX2_readsEither 34 = .ok (.bipush 38, 2) := by decide +kernel
theorem dX2_readsEither_36 : decode cX2_readsEither 36 = .ok (.invokevirtual 38, 3) := by decide +kernel
theorem dX2_readsEither_39 : decode cX2_readsEither 39 = .ok (.istore_n 2, 1) := by decide +kernel
theorem dX2_readsEither_40 : decode cX2_readsEither 40 = .ok (.iload_n 2, 1) := by decide +kernel
theorem dX2_readsEither_41 : decode cX2_readsEither 41 = .ok (.ifCond .eq 6, 3) := by decide +kernel
theorem dX2_readsEither_44 : decode cX2_readsEither 44 = .ok (.goto 25, 3) := by decide +kernel
theorem dX2_readsEither_47 : decode cX2_readsEither 47 = .ok (.iload_n 3, 1) := by decide +kernel
theorem dX2_readsEither_48 : decode cX2_readsEither 48 = .ok (.ifCond .eq 8, 3) := by decide +kernel
theorem dX2_readsEither_51 : decode cX2_readsEither 51 = .ok (.aload_n 0, 1) := by decide +kernel
theorem dX2_readsEither_52 : decode cX2_readsEither 52 = .ok (.iconst 3, 1) := by decide +kernel
theorem dX2_readsEither_53 : decode cX2_readsEither 53 = .ok (.invokevirtual 67, 3) := by decide +kernel
theorem dX2_readsEither_56 : decode cX2_readsEither 56 = .ok (.aload_n 0, 1) := by decide +kernel
theorem dX2_readsEither_57 : decode cX2_readsEither 57 = .ok (.bipush 124, 2) := by decide +kernel
theorem dX2_readsEither_59 : decode cX2_readsEither 59 = .ok (.invokevirtual 38, 3) := by decide +kernel
theorem dX2_readsEither_62 : decode cX2_readsEither 62 = .ok (.istore_n 3, 1) := by decide +kernel
theorem dX2_readsEither_63 : decode cX2_readsEither 63 = .ok (.iload_n 3, 1) := by decide +kernel
theorem dX2_readsEither_64 : decode cX2_readsEither 64 = .ok (.ifCond .ne 5, 3) := by decide +kernel
theorem dX2_readsEither_67 : decode cX2_readsEither 67 = .ok (.iconst 1, 1) := by decide +kernel
theorem dX2_readsEither_68 : decode cX2_readsEither 68 = .ok (.ireturn, 1) := by decide +kernel
theorem dX2_readsEither_69 : decode cX2_readsEither 69 = .ok (.iinc 4 1, 3) := by decide +kernel
theorem dX2_readsEither_72 : decode cX2_readsEither 72 = .ok (.goto (-65), 3) := by decide +kernel
theorem dX2_readsEither_75 : decode cX2_readsEither 75 = .ok (.iconst 0, 1) := by decide +kernel
theorem dX2_readsEither_76 : decode cX2_readsEither 76 = .ok (.ireturn, 1) := by decide +kernel
theorem dX2_readsFactor_0 : decode cX2_readsFactor 0 = .ok (.iload_n 1, 1) := by decide +kernel
theorem dX2_readsFactor_1 : decode cX2_readsFactor 1 = .ok (.istore_n 2, 1) := by decide +kernel
theorem dX2_readsFactor_2 : decode cX2_readsFactor 2 = .ok (.iload_n 2, 1) := by decide +kernel
theorem dX2_readsFactor_3 : decode cX2_readsFactor 3 = .ok (.iconst 4, 1) := by decide +kernel
theorem dX2_readsFactor_4 : decode cX2_readsFactor 4 = .ok (.if_icmp .ge 18, 3) := by decide +kernel
theorem dX2_readsFactor_7 : decode cX2_readsFactor 7 = .ok (.aload_n 0, 1) := by decide +kernel
theorem dX2_readsFactor_8 : decode cX2_readsFactor 8 = .ok (.bipush 33, 2) := by decide +kernel
theorem dX2_readsFactor_10 : decode cX2_readsFactor 10 = .ok (.invokevirtual 38, 3) := by decide +kernel
theorem dX2_readsFactor_13 : decode cX2_readsFactor 13 = .ok (.ifCond .eq 9, 3) := by decide +kernel
theorem dX2_readsFactor_16 : decode cX2_readsFactor 16 = .ok (.iinc 2 1, 3) := by decide +kernel
theorem dX2_readsFactor_19 : decode cX2_readsFactor 19 = .ok (.goto (-17), 3) := by decide +kernel
theorem dX2_readsFactor_22 : decode cX2_readsFactor 22 = .ok (.iload_n 2, 1) := by decide +kernel
theorem dX2_readsFactor_23 : decode cX2_readsFactor 23 = .ok (.iconst 4, 1) := by decide +kernel
theorem dX2_readsFactor_24 : decode cX2_readsFactor 24 = .ok (.if_icmp .ge 40, 3) := by decide +kernel
theorem dX2_readsFactor_27 : decode cX2_readsFactor 27 = .ok (.aload_n 0, 1) := by decide +kernel
theorem dX2_readsFactor_28 : decode cX2_readsFactor 28 = .ok (.bipush 40, 2) := by decide +kernel
theorem dX2_readsFactor_30 : decode cX2_readsFactor 30 = .ok (.invokevirtual 38, 3) := by decide +kernel
theorem dX2_readsFactor_33 : decode cX2_readsFactor 33 = .ok (.ifCond .eq 31, 3) := by decide +kernel
theorem dX2_readsFactor_36 : decode cX2_readsFactor 36 = .ok (.aload_n 0, 1) := by decide +kernel
theorem dX2_readsFactor_37 : decode cX2_readsFactor 37 = .ok (.iload_n 2, 1) := by decide +kernel
theorem dX2_readsFactor_38 : decode cX2_readsFactor 38 = .ok (.iconst 1, 1) := by decide +kernel
theorem dX2_readsFactor_39 : decode cX2_readsFactor 39 = .ok (.iadd, 1) := by decide +kernel
theorem dX2_readsFactor_40 : decode cX2_readsFactor 40 = .ok (.invokevirtual 60, 3) := by decide +kernel
theorem dX2_readsFactor_43 : decode cX2_readsFactor 43 = .ok (.ifCond .eq 16, 3) := by decide +kernel
theorem dX2_readsFactor_46 : decode cX2_readsFactor 46 = .ok (.aload_n 0, 1) := by decide +kernel
theorem dX2_readsFactor_47 : decode cX2_readsFactor 47 = .ok (.bipush 41, 2) := by decide +kernel
theorem dX2_readsFactor_49 : decode cX2_readsFactor 49 = .ok (.invokevirtual 38, 3) := by decide +kernel
theorem dX2_readsFactor_52 : decode cX2_readsFactor 52 = .ok (.ifCond .eq 7, 3) := by decide +kernel
theorem dX2_readsFactor_55 : decode cX2_readsFactor 55 = .ok (.iconst 1, 1) := by decide +kernel
theorem dX2_readsFactor_56 : decode cX2_readsFactor 56 = .ok (.goto 4, 3) := by decide +kernel
theorem dX2_readsFactor_59 : decode cX2_readsFactor 59 = .ok (.iconst 0, 1) := by decide +kernel
theorem dX2_readsFactor_60 : decode cX2_readsFactor 60 = .ok (.istore_n 3, 1) := by decide +kernel
theorem dX2_readsFactor_61 : decode cX2_readsFactor 61 = .ok (.goto 8, 3) := by decide +kernel
theorem dX2_readsFactor_64 : decode cX2_readsFactor 64 = .ok (.aload_n 0, 1) := by decide +kernel
theorem dX2_readsFactor_65 : decode cX2_readsFactor 65 = .ok (.invokevirtual 86, 3) := by decide +kernel
theorem dX2_readsFactor_68 : decode cX2_readsFactor 68 = .ok (.istore_n 3, 1) := by decide +kernel
theorem dX2_readsFactor_69 : decode cX2_readsFactor 69 = .ok (.iload_n 2, 1) := by decide +kernel
theorem dX2_readsFactor_70 : decode cX2_readsFactor 70 = .ok (.iload_n 1, 1) := by decide +kernel
theorem dX2_readsFactor_71 : decode cX2_readsFactor 71 = .ok (.isub, 1) := by decide +kernel
theorem dX2_readsFactor_72 : decode cX2_readsFactor 72 = .ok (.istore 4, 2) := by decide +kernel
theorem dX2_readsFactor_74 : decode cX2_readsFactor 74 = .ok (.iload_n 3, 1) := by decide +kernel
theorem dX2_readsFactor_75 : decode cX2_readsFactor 75 = .ok (.ifCond .eq 19, 3) := by decide +kernel
theorem dX2_readsFactor_78 : decode cX2_readsFactor 78 = .ok (.iload 4, 2) := by decide +kernel
theorem dX2_readsFactor_80 : decode cX2_readsFactor 80 = .ok (.ifCond .le 14, 3) := by decide +kernel
theorem dX2_readsFactor_83 : decode cX2_readsFactor 83 = .ok (.aload_n 0, 1) := by decide +kernel
theorem dX2_readsFactor_84 : decode cX2_readsFactor 84 = .ok (.iconst 1, 1) := by decide +kernel
theorem dX2_readsFactor_85 : decode cX2_readsFactor 85 = .ok (.invokevirtual 67, 3) := by decide +kernel
theorem dX2_readsFactor_88 : decode cX2_readsFactor 88 = .ok (.iinc 4 (-1), 3) := by decide +kernel
theorem dX2_readsFactor_91 : decode cX2_readsFactor 91 = .ok (.goto (-17), 3) := by decide +kernel
theorem dX2_readsFactor_94 : decode cX2_readsFactor 94 = .ok (.iload_n 3, 1) := by decide +kernel
theorem dX2_readsFactor_95 : decode cX2_readsFactor 95 = .ok (.ireturn, 1) := by decide +kernel
theorem dX2_readsTest_0 : decode cX2_readsTest 0 = .ok (.aload_n 0, 1) := by decide +kernel
theorem dX2_readsTest_1 : decode cX2_readsTest 1 = .ok (.ldc 89, 2) := by decide +kernel
theorem dX2_readsTest_3 : decode cX2_readsTest 3 = .ok (.invokevirtual 91, 3) := by decide +kernel
theorem dX2_readsTest_6 : decode cX2_readsTest 6 = .ok (.istore_n 1, 1) := by decide +kernel
theorem dX2_readsTest_7 : decode cX2_readsTest 7 = .ok (.iload_n 1, 1) := by decide +kernel
theorem dX2_readsTest_8 : decode cX2_readsTest 8 = .ok (.ifCond .ge 7, 3) := by decide +kernel
theorem dX2_readsTest_11 : decode cX2_readsTest 11 = .ok (.iconst (-1), 1) := by decide +kernel
theorem dX2_readsTest_12 : decode cX2_readsTest 12 = .ok (.goto 9, 3) := by decide +kernel
theorem dX2_readsTest_15 : decode cX2_readsTest 15 = .ok (.aload_n 0, 1) := by decide +kernel
theorem dX2_readsTest_16 : decode cX2_readsTest 16 = .ok (.ldc 95, 2) := by decide +kernel
theorem dX2_readsTest_18 : decode cX2_readsTest 18 = .ok (.invokevirtual 91, 3) := by decide +kernel
theorem dX2_readsTest_21 : decode cX2_readsTest 21 = .ok (.istore_n 2, 1) := by decide +kernel
theorem dX2_readsTest_22 : decode cX2_readsTest 22 = .ok (.iload_n 2, 1) := by decide +kernel
theorem dX2_readsTest_23 : decode cX2_readsTest 23 = .ok (.ifCond .ge 7, 3) := by decide +kernel
theorem dX2_readsTest_26 : decode cX2_readsTest 26 = .ok (.iconst (-1), 1) := by decide +kernel
theorem dX2_readsTest_27 : decode cX2_readsTest 27 = .ok (.goto 7, 3) := by decide +kernel
theorem dX2_readsTest_30 : decode cX2_readsTest 30 = .ok (.aload_n 0, 1) := by decide +kernel
theorem dX2_readsTest_31 : decode cX2_readsTest 31 = .ok (.invokevirtual 57, 3) := by decide +kernel
theorem dX2_readsTest_34 : decode cX2_readsTest 34 = .ok (.istore_n 3, 1) := by decide +kernel
theorem dX2_readsTest_35 : decode cX2_readsTest 35 = .ok (.iload_n 3, 1) := by decide +kernel
theorem dX2_readsTest_36 : decode cX2_readsTest 36 = .ok (.ifCond .ge 5, 3) := by decide +kernel
theorem dX2_readsTest_39 : decode cX2_readsTest 39 = .ok (.iconst 0, 1) := by decide +kernel
theorem dX2_readsTest_40 : decode cX2_readsTest 40 = .ok (.ireturn, 1) := by decide +kernel
theorem dX2_readsTest_41 : decode cX2_readsTest 41 = .ok (.aload_n 0, 1) := by decide +kernel
theorem dX2_readsTest_42 : decode cX2_readsTest 42 = .ok (.iload_n 1, 1) := by decide +kernel
theorem dX2_readsTest_43 : decode cX2_readsTest 43 = .ok (.iload_n 2, 1) := by decide +kernel
theorem dX2_readsTest_44 : decode cX2_readsTest 44 = .ok (.iload_n 3, 1) := by decide +kernel
theorem dX2_readsTest_45 : decode cX2_readsTest 45 = .ok (.invokestatic 97, 3) := by decide +kernel
theorem dX2_readsTest_48 : decode cX2_readsTest 48 = .ok (.invokevirtual 67, 3) := by decide +kernel
theorem dX2_readsTest_51 : decode cX2_readsTest 51 = .ok (.iconst 1, 1) := by decide +kernel
theorem dX2_readsTest_52 : decode cX2_readsTest 52 = .ok (.ireturn, 1) := by decide +kernel
theorem dX2_readsWord_0 : decode cX2_readsWord 0 = .ok (.iconst 0, 1) := by decide +kernel
theorem dX2_readsWord_1 : decode cX2_readsWord 1 = .ok (.istore_n 2, 1) := by decide +kernel
theorem dX2_readsWord_2 : decode cX2_readsWord 2 = .ok (.iload_n 2, 1) := by decide +kernel
theorem dX2_readsWord_3 : decode cX2_readsWord 3 = .ok (.aload_n 1, 1) := by decide +kernel
theorem dX2_readsWord_4 : decode cX2_readsWord 4 = .ok (.invokevirtual 107, 3) := by decide +kernel
theorem dX2_readsWord_7 : decode cX2_readsWord 7 = .ok (.if_icmp .ge 23, 3) := by decide +kernel
theorem dX2_readsWord_10 : decode cX2_readsWord 10 = .ok (.aload_n 0, 1) := by decide +kernel
theorem dX2_readsWord_11 : decode cX2_readsWord 11 = .ok (.aload_n 1, 1) := by decide +kernel
theorem dX2_readsWord_12 : decode cX2_readsWord 12 = .ok (.iload_n 2, 1) := by decide +kernel
theorem dX2_readsWord_13 : decode cX2_readsWord 13 = .ok (.invokevirtual 109, 3) := by decide +kernel
theorem dX2_readsWord_16 : decode cX2_readsWord 16 = .ok (.invokevirtual 38, 3) := by decide +kernel
theorem dX2_readsWord_19 : decode cX2_readsWord 19 = .ok (.ifCond .ne 5, 3) := by decide +kernel
theorem dX2_readsWord_22 : decode cX2_readsWord 22 = .ok (.iconst 0, 1) := by decide +kernel
theorem dX2_readsWord_23 : decode cX2_readsWord 23 = .ok (.ireturn, 1) := by decide +kernel
theorem dX2_readsWord_24 : decode cX2_readsWord 24 = .ok (.iinc 2 1, 3) := by decide +kernel
theorem dX2_readsWord_27 : decode cX2_readsWord 27 = .ok (.goto (-25), 3) := by decide +kernel
theorem dX2_readsWord_30 : decode cX2_readsWord 30 = .ok (.iconst 1, 1) := by decide +kernel
theorem dX2_readsWord_31 : decode cX2_readsWord 31 = .ok (.ireturn, 1) := by decide +kernel
theorem dX2_word_0 : decode cX2_word 0 = .ok (.aload_n 0, 1) := by decide +kernel
theorem dX2_word_1 : decode cX2_word 1 = .ok (.getfield 18, 3) := by decide +kernel
theorem dX2_word_4 : decode cX2_word 4 = .ok (.aload_n 0, 1) := by decide +kernel
theorem dX2_word_5 : decode cX2_word 5 = .ok (.getfield 15, 3) := by decide +kernel
theorem dX2_word_8 : decode cX2_word 8 = .ok (.iaload, 1) := by decide +kernel
theorem dX2_word_9 : decode cX2_word 9 = .ok (.bipush 108, 2) := by decide +kernel
theorem dX2_word_11 : decode cX2_word 11 = .ok (.if_icmp .ne 18, 3) := by decide +kernel
theorem dX2_word_14 : decode cX2_word 14 = .ok (.aload_n 0, 1) := by decide +kernel
theorem dX2_word_15 : decode cX2_word 15 = .ok (.ldc 71, 2) := by decide +kernel
theorem dX2_word_17 : decode cX2_word 17 = .ok (.invokevirtual 73, 3) := by decide +kernel
theorem dX2_word_20 : decode cX2_word 20 = .ok (.ifCond .eq 7, 3) := by decide +kernel
theorem dX2_word_23 : decode cX2_word 23 = .ok (.iconst 4, 1) := by decide +kernel
theorem dX2_word_24 : decode cX2_word 24 = .ok (.goto 4, 3) := by decide +kernel
theorem dX2_word_27 : decode cX2_word 27 = .ok (.iconst (-1), 1) := by decide +kernel
theorem dX2_word_28 : decode cX2_word 28 = .ok (.ireturn, 1) := by decide +kernel
theorem dX2_word_29 : decode cX2_word 29 = .ok (.aload_n 0, 1) := by decide +kernel
theorem dX2_word_30 : decode cX2_word 30 = .ok (.getfield 18, 3) := by decide +kernel
theorem dX2_word_33 : decode cX2_word 33 = .ok (.aload_n 0, 1) := by decide +kernel
theorem dX2_word_34 : decode cX2_word 34 = .ok (.getfield 15, 3) := by decide +kernel
theorem dX2_word_37 : decode cX2_word 37 = .ok (.iaload, 1) := by decide +kernel
theorem dX2_word_38 : decode cX2_word 38 = .ok (.bipush 109, 2) := by decide +kernel
theorem dX2_word_40 : decode cX2_word 40 = .ok (.if_icmp .ne 19, 3) := by decide +kernel
theorem dX2_word_43 : decode cX2_word 43 = .ok (.aload_n 0, 1) := by decide +kernel
theorem dX2_word_44 : decode cX2_word 44 = .ok (.ldc 77, 2) := by decide +kernel
theorem dX2_word_46 : decode cX2_word 46 = .ok (.invokevirtual 73, 3) := by decide +kernel
theorem dX2_word_49 : decode cX2_word 49 = .ok (.ifCond .eq 8, 3) := by decide +kernel
theorem dX2_word_52 : decode cX2_word 52 = .ok (.bipush 7, 2) := by decide +kernel
theorem dX2_word_54 : decode cX2_word 54 = .ok (.goto 4, 3) := by decide +kernel
theorem dX2_word_57 : decode cX2_word 57 = .ok (.iconst (-1), 1) := by decide +kernel
theorem dX2_word_58 : decode cX2_word 58 = .ok (.ireturn, 1) := by decide +kernel
theorem dX2_word_59 : decode cX2_word 59 = .ok (.aload_n 0, 1) := by decide +kernel
theorem dX2_word_60 : decode cX2_word 60 = .ok (.ldc 79, 2) := by decide +kernel
theorem dX2_word_62 : decode cX2_word 62 = .ok (.invokevirtual 73, 3) := by decide +kernel
theorem dX2_word_65 : decode cX2_word 65 = .ok (.ifCond .ne 5, 3) := by decide +kernel
theorem dX2_word_68 : decode cX2_word 68 = .ok (.iconst (-1), 1) := by decide +kernel
theorem dX2_word_69 : decode cX2_word 69 = .ok (.ireturn, 1) := by decide +kernel
theorem dX2_word_70 : decode cX2_word 70 = .ok (.aload_n 0, 1) := by decide +kernel
theorem dX2_word_71 : decode cX2_word 71 = .ok (.bipush 121, 2) := by decide +kernel
theorem dX2_word_73 : decode cX2_word 73 = .ok (.invokevirtual 38, 3) := by decide +kernel
theorem dX2_word_76 : decode cX2_word 76 = .ok (.ifCond .eq 5, 3) := by decide +kernel
theorem dX2_word_79 : decode cX2_word 79 = .ok (.iconst 5, 1) := by decide +kernel
theorem dX2_word_80 : decode cX2_word 80 = .ok (.ireturn, 1) := by decide +kernel
theorem dX2_word_81 : decode cX2_word 81 = .ok (.aload_n 0, 1) := by decide +kernel
theorem dX2_word_82 : decode cX2_word 82 = .ok (.ldc 81, 2) := by decide +kernel
theorem dX2_word_84 : decode cX2_word 84 = .ok (.invokevirtual 73, 3) := by decide +kernel
theorem dX2_word_87 : decode cX2_word 87 = .ok (.ifCond .eq 8, 3) := by decide +kernel
theorem dX2_word_90 : decode cX2_word 90 = .ok (.bipush 6, 2) := by decide +kernel
theorem dX2_word_92 : decode cX2_word 92 = .ok (.goto 4, 3) := by decide +kernel
theorem dX2_word_95 : decode cX2_word 95 = .ok (.iconst (-1), 1) := by decide +kernel
theorem dX2_word_96 : decode cX2_word 96 = .ok (.ireturn, 1) := by decide +kernel
theorem dX3_begin_0 : decode cX3_begin 0 = .ok (.aload_n 0, 1) := by decide +kernel
theorem dX3_begin_1 : decode cX3_begin 1 = .ok (.aload_n 0, 1) := by decide +kernel
theorem dX3_begin_2 : decode cX3_begin 2 = .ok (.getfield 29, 3) := by decide +kernel
theorem dX3_begin_5 : decode cX3_begin 5 = .ok (.invokevirtual 33, 3) := by decide +kernel
theorem dX3_begin_8 : decode cX3_begin 8 = .ok (.putfield 22, 3) := by decide +kernel
theorem dX3_begin_11 : decode cX3_begin 11 = .ok (.aload_n 0, 1) := by decide +kernel
theorem dX3_begin_12 : decode cX3_begin 12 = .ok (.aload_n 0, 1) := by decide +kernel
theorem dX3_begin_13 : decode cX3_begin 13 = .ok (.getfield 29, 3) := by decide +kernel
theorem dX3_begin_16 : decode cX3_begin 16 = .ok (.invokevirtual 39, 3) := by decide +kernel
theorem dX3_begin_19 : decode cX3_begin 19 = .ok (.iload_n 1, 1) := by decide +kernel
theorem dX3_begin_20 : decode cX3_begin 20 = .ok (.iadd, 1) := by decide +kernel
theorem dX3_begin_21 : decode cX3_begin 21 = .ok (.putfield 26, 3) := by decide +kernel
theorem dX3_begin_24 : decode cX3_begin 24 = .ok (.aload_n 0, 1) := by decide +kernel
theorem dX3_begin_25 : decode cX3_begin 25 = .ok (.getfield 19, 3) := by decide +kernel
theorem dX3_begin_28 : decode cX3_begin 28 = .ok (.iconst (-1), 1) := by decide +kernel
theorem dX3_begin_29 : decode cX3_begin 29 = .ok (.invokestatic 42, 3) := by decide +kernel
theorem dX3_begin_32 : decode cX3_begin 32 = .ok (.return_, 1) := by decide +kernel
theorem dX3_chance_0 : decode cX3_chance 0 = .ok (.iload_n 1, 1) := by decide +kernel
theorem dX3_chance_1 : decode cX3_chance 1 = .ok (.bipush 6, 2) := by decide +kernel
theorem dX3_chance_3 : decode cX3_chance 3 = .ok (.imul, 1) := by decide +kernel
theorem dX3_chance_4 : decode cX3_chance 4 = .ok (.iload_n 2, 1) := by decide +kernel
theorem dX3_chance_5 : decode cX3_chance 5 = .ok (.iadd, 1) := by decide +kernel
theorem dX3_chance_6 : decode cX3_chance 6 = .ok (.iconst 4, 1) := by decide +kernel
theorem dX3_chance_7 : decode cX3_chance 7 = .ok (.imul, 1) := by decide +kernel
theorem dX3_chance_8 : decode cX3_chance 8 = .ok (.iload_n 3, 1) := by decide +kernel
theorem dX3_chance_9 : decode cX3_chance 9 = .ok (.iadd, 1) := by decide +kernel
theorem dX3_chance_10 : decode cX3_chance 10 = .ok (.istore 4, 2) := by decide +kernel
theorem dX3_chance_12 : decode cX3_chance 12 = .ok (.aload_n 0, 1) := by decide +kernel
theorem dX3_chance_13 : decode cX3_chance 13 = .ok (.getfield 19, 3) := by decide +kernel
theorem dX3_chance_16 : decode cX3_chance 16 = .ok (.iload 4, 2) := by decide +kernel
theorem dX3_chance_18 : decode cX3_chance 18 = .ok (.iaload, 1) := by decide +kernel
theorem dX3_chance_19 : decode cX3_chance 19 = .ok (.iconst (-1), 1) := by decide +kernel
theorem dX3_chance_20 : decode cX3_chance 20 = .ok (.if_icmp .ne 33, 3) := by decide +kernel
theorem dX3_chance_23 : decode cX3_chance 23 = .ok (.aload_n 0, 1) := by decide +kernel
theorem dX3_chance_24 : decode cX3_chance 24 = .ok (.getfield 19, 3) := by decide +kernel
theorem dX3_chance_27 : decode cX3_chance 27 = .ok (.iload 4, 2) := by decide +kernel
theorem dX3_chance_29 : decode cX3_chance 29 = .ok (.aload_n 0, 1) := by decide +kernel
theorem dX3_chance_30 : decode cX3_chance 30 = .ok (.getfield 29, 3) := by decide +kernel
theorem dX3_chance_33 : decode cX3_chance 33 = .ok (.iload_n 1, 1) := by decide +kernel
theorem dX3_chance_34 : decode cX3_chance 34 = .ok (.iload_n 2, 1) := by decide +kernel
theorem dX3_chance_35 : decode cX3_chance 35 = .ok (.iload_n 3, 1) := by decide +kernel
theorem dX3_chance_36 : decode cX3_chance 36 = .ok (.aload_n 0, 1) := by decide +kernel
theorem dX3_chance_37 : decode cX3_chance 37 = .ok (.getfield 22, 3) := by decide +kernel
theorem dX3_chance_40 : decode cX3_chance 40 = .ok (.aload_n 0, 1) := by decide +kernel
theorem dX3_chance_41 : decode cX3_chance 41 = .ok (.getfield 26, 3) := by decide +kernel
theorem dX3_chance_44 : decode cX3_chance 44 = .ok (.iadd, 1) := by decide +kernel
theorem dX3_chance_45 : decode cX3_chance 45 = .ok (.iload_n 2, 1) := by decide +kernel
theorem dX3_chance_46 : decode cX3_chance 46 = .ok (.isub, 1) := by decide +kernel
theorem dX3_chance_47 : decode cX3_chance 47 = .ok (.iload_n 3, 1) := by decide +kernel
theorem dX3_chance_48 : decode cX3_chance 48 = .ok (.isub, 1) := by decide +kernel
theorem dX3_chance_49 : decode cX3_chance 49 = .ok (.invokevirtual 73, 3) := by decide +kernel
theorem dX3_chance_52 : decode cX3_chance 52 = .ok (.iastore, 1) := by decide +kernel
theorem dX3_chance_53 : decode cX3_chance 53 = .ok (.aload_n 0, 1) := by decide +kernel
theorem dX3_chance_54 : decode cX3_chance 54 = .ok (.getfield 19, 3) := by decide +kernel
theorem dX3_chance_57 : decode cX3_chance 57 = .ok (.iload 4, 2) := by decide +kernel
theorem dX3_chance_59 : decode cX3_chance 59 = .ok (.iaload, 1) := by decide +kernel
theorem dX3_chance_60 : decode cX3_chance 60 = .ok (.ireturn, 1) := by decide +kernel
theorem dX3_evenBy_0 : decode cX3_evenBy 0 = .ok (.aload_n 0, 1) := by decide +kernel
theorem dX3_evenBy_1 : decode cX3_evenBy 1 = .ok (.aload_n 1, 1) := by decide +kernel
theorem dX3_evenBy_2 : decode cX3_evenBy 2 = .ok (.invokevirtual 48, 3) := by decide +kernel
theorem dX3_evenBy_5 : decode cX3_evenBy 5 = .ok (.aload_n 0, 1) := by decide +kernel
theorem dX3_evenBy_6 : decode cX3_evenBy 6 = .ok (.getfield 9, 3) := by decide +kernel
theorem dX3_evenBy_9 : decode cX3_evenBy 9 = .ok (.iconst 0, 1) := by decide +kernel
theorem dX3_evenBy_10 : decode cX3_evenBy 10 = .ok (.iaload, 1) := by decide +kernel
theorem dX3_evenBy_11 : decode cX3_evenBy 11 = .ok (.istore_n 2, 1) := by decide +kernel
theorem dX3_evenBy_12 : decode cX3_evenBy 12 = .ok (.aload_n 0, 1) := by decide +kernel
theorem dX3_evenBy_13 : decode cX3_evenBy 13 = .ok (.getfield 9, 3) := by decide +kernel
theorem dX3_evenBy_16 : decode cX3_evenBy 16 = .ok (.iconst 0, 1) := by decide +kernel
theorem dX3_evenBy_17 : decode cX3_evenBy 17 = .ok (.iaload, 1) := by decide +kernel
theorem dX3_evenBy_18 : decode cX3_evenBy 18 = .ok (.istore_n 3, 1) := by decide +kernel
theorem dX3_evenBy_19 : decode cX3_evenBy 19 = .ok (.iconst 1, 1) := by decide +kernel
theorem dX3_evenBy_20 : decode cX3_evenBy 20 = .ok (.istore 4, 2) := by decide +kernel
theorem dX3_evenBy_22 : decode cX3_evenBy 22 = .ok (.iload 4, 2) := by decide +kernel
theorem dX3_evenBy_24 : decode cX3_evenBy 24 = .ok (.aload_n 0, 1) := by decide +kernel
theorem dX3_evenBy_25 : decode cX3_evenBy 25 = .ok (.getfield 29, 3) := by decide +kernel
theorem dX3_evenBy_28 : decode cX3_evenBy 28 = .ok (.getfield 52, 3) := by decide +kernel
theorem dX3_evenBy_31 : decode cX3_evenBy 31 = .ok (.if_icmp .ge 33, 3) := by decide +kernel
theorem dX3_evenBy_34 : decode cX3_evenBy 34 = .ok (.iload_n 2, 1) := by decide +kernel
theorem dX3_evenBy_35 : decode cX3_evenBy 35 = .ok (.aload_n 0, 1) := by decide +kernel
theorem dX3_evenBy_36 : decode cX3_evenBy 36 = .ok (.getfield 9, 3) := by decide +kernel
theorem dX3_evenBy_39 : decode cX3_evenBy 39 = .ok (.iload 4, 2) := by decide +kernel
theorem dX3_evenBy_41 : decode cX3_evenBy 41 = .ok (.iaload, 1) := by decide +kernel
theorem dX3_evenBy_42 : decode cX3_evenBy 42 = .ok (.invokestatic 55, 3) := by decide +kernel
theorem dX3_evenBy_45 : decode cX3_evenBy 45 = .ok (.istore_n 2, 1) := by decide +kernel
theorem dX3_evenBy_46 : decode cX3_evenBy 46 = .ok (.iload_n 3, 1) := by decide +kernel
theorem dX3_evenBy_47 : decode cX3_evenBy 47 = .ok (.aload_n 0, 1) := by decide +kernel
theorem dX3_evenBy_48 : decode cX3_evenBy 48 = .ok (.getfield 9, 3) := by decide +kernel
theorem dX3_evenBy_51 : decode cX3_evenBy 51 = .ok (.iload 4, 2) := by decide +kernel
theorem dX3_evenBy_53 : decode cX3_evenBy 53 = .ok (.iaload, 1) := by decide +kernel
theorem dX3_evenBy_54 : decode cX3_evenBy 54 = .ok (.invokestatic 61, 3) := by decide +kernel
theorem dX3_evenBy_57 : decode cX3_evenBy 57 = .ok (.istore_n 3, 1) := by decide +kernel
theorem dX3_evenBy_58 : decode cX3_evenBy 58 = .ok (.iinc 4 1, 3) := by decide +kernel
theorem dX3_evenBy_61 : decode cX3_evenBy 61 = .ok (.goto (-39), 3) := by decide +kernel
theorem dX3_evenBy_64 : decode cX3_evenBy 64 = .ok (.iload_n 2, 1) := by decide +kernel
theorem dX3_evenBy_65 : decode cX3_evenBy 65 = .ok (.iload_n 3, 1) := by decide +kernel
theorem dX3_evenBy_66 : decode cX3_evenBy 66 = .ok (.isub, 1) := by decide +kernel
theorem dX3_evenBy_67 : decode cX3_evenBy 67 = .ok (.ireturn, 1) := by decide +kernel
theorem dX3_goThrough_0 : decode cX3_goThrough 0 = .ok (.aload_n 0, 1) := by decide +kernel
theorem dX3_goThrough_1 : decode cX3_goThrough 1 = .ok (.getfield 15, 3) := by decide +kernel
theorem dX3_goThrough_4 : decode cX3_goThrough 4 = .ok (.lconst 0, 1) := by decide +kernel
theorem dX3_goThrough_5 : decode cX3_goThrough 5 = .ok (.invokestatic 64, 3) := by decide +kernel
theorem dX3_goThrough_8 : decode cX3_goThrough 8 = .ok (.aload_n 0, 1) := by decide +kernel
theorem dX3_goThrough_9 : decode cX3_goThrough 9 = .ok (.getfield 15, 3) := by decide +kernel
theorem dX3_goThrough_12 : decode cX3_goThrough 12 = .ok (.aload_n 0, 1) := by decide +kernel
theorem dX3_goThrough_13 : decode cX3_goThrough 13 = .ok (.getfield 22, 3) := by decide +kernel
theorem dX3_goThrough_16 : decode cX3_goThrough 16 = .ok (.ldc2_w 67, 3) := by decide +kernel
theorem dX3_goThrough_19 : decode cX3_goThrough 19 = .ok (.lastore, 1) := by decide +kernel
theorem dX3_goThrough_20 : decode cX3_goThrough 20 = .ok (.iconst 0, 1) := by decide +kernel
theorem dX3_goThrough_21 : decode cX3_goThrough 21 = .ok (.istore_n 2, 1) := by decide +kernel
theorem dX3_goThrough_22 : decode cX3_goThrough 22 = .ok (.iload_n 2, 1) := by decide +kernel
theorem dX3_goThrough_23 : decode cX3_goThrough 23 = .ok (.aload_n 0, 1) := by decide +kernel
theorem dX3_goThrough_24 : decode cX3_goThrough 24 = .ok (.getfield 29, 3) := by decide +kernel
theorem dX3_goThrough_27 : decode cX3_goThrough 27 = .ok (.getfield 52, 3) := by decide +kernel
theorem dX3_goThrough_30 : decode cX3_goThrough 30 = .ok (.if_icmp .ge 115, 3) := by decide +kernel
theorem dX3_goThrough_33 : decode cX3_goThrough 33 = .ok (.aload_n 1, 1) := by decide +kernel
theorem dX3_goThrough_34 : decode cX3_goThrough 34 = .ok (.iload_n 2, 1) := by decide +kernel
theorem dX3_goThrough_35 : decode cX3_goThrough 35 = .ok (.iaload, 1) := by decide +kernel
theorem dX3_goThrough_36 : decode cX3_goThrough 36 = .ok (.istore_n 3, 1) := by decide +kernel
theorem dX3_goThrough_37 : decode cX3_goThrough 37 = .ok (.lconst 0, 1) := by decide +kernel
theorem dX3_goThrough_38 : decode cX3_goThrough 38 = .ok (.lstore 4, 2) := by decide +kernel
theorem dX3_goThrough_40 : decode cX3_goThrough 40 = .ok (.iconst 1, 1) := by decide +kernel
theorem dX3_goThrough_41 : decode cX3_goThrough 41 = .ok (.istore 6, 2) := by decide +kernel
theorem dX3_goThrough_43 : decode cX3_goThrough 43 = .ok (.iload 6, 2) := by decide +kernel
theorem dX3_goThrough_45 : decode cX3_goThrough 45 = .ok (.aload_n 0, 1) := by decide +kernel
theorem dX3_goThrough_46 : decode cX3_goThrough 46 = .ok (.getfield 22, 3) := by decide +kernel
theorem dX3_goThrough_49 : decode cX3_goThrough 49 = .ok (.if_icmp .gt 81, 3) := by decide +kernel
theorem dX3_goThrough_52 : decode cX3_goThrough 52 = .ok (.aload_n 0, 1) := by decide +kernel
theorem dX3_goThrough_53 : decode cX3_goThrough 53 = .ok (.getfield 15, 3) := by decide +kernel
theorem dX3_goThrough_56 : decode cX3_goThrough 56 = .ok (.iload 6, 2) := by decide +kernel
theorem dX3_goThrough_58 : decode cX3_goThrough 58 = .ok (.laload, 1) := by decide +kernel
theorem dX3_goThrough_59 : decode cX3_goThrough 59 = .ok (.lconst 0, 1) := by decide +kernel
theorem dX3_goThrough_60 : decode cX3_goThrough 60 = .ok (.lcmp, 1) := by decide +kernel
theorem dX3_goThrough_61 : decode cX3_goThrough 61 = .ok (.ifCond .ne 7, 3) := by decide +kernel
theorem dX3_goThrough_64 : decode cX3_goThrough 64 = .ok (.lconst 0, 1) := by decide +kernel
theorem dX3_goThrough_65 : decode cX3_goThrough 65 = .ok (.goto 24, 3) := by decide +kernel
theorem dX3_goThrough_68 : decode cX3_goThrough 68 = .ok (.aload_n 0, 1) := by decide +kernel
theorem dX3_goThrough_69 : decode cX3_goThrough 69 = .ok (.getfield 15, 3) := by decide +kernel
theorem dX3_goThrough_72 : decode cX3_goThrough 72 = .ok (.iload 6, 2) := by decide +kernel
theorem dX3_goThrough_74 : decode cX3_goThrough 74 = .ok (.laload, 1) := by decide +kernel
theorem dX3_goThrough_75 : decode cX3_goThrough 75 = .ok (.aload_n 0, 1) := by decide +kernel
theorem dX3_goThrough_76 : decode cX3_goThrough 76 = .ok (.iload_n 3, 1) := by decide +kernel
theorem dX3_goThrough_77 : decode cX3_goThrough 77 = .ok (.iload_n 2, 1) := by decide +kernel
theorem dX3_goThrough_78 : decode cX3_goThrough 78 = .ok (.iload 6, 2) := by decide +kernel
theorem dX3_goThrough_80 : decode cX3_goThrough 80 = .ok (.invokevirtual 69, 3) := by decide +kernel
theorem dX3_goThrough_83 : decode cX3_goThrough 83 = .ok (.i2l, 1) := by decide +kernel
theorem dX3_goThrough_84 : decode cX3_goThrough 84 = .ok (.lmul, 1) := by decide +kernel
theorem dX3_goThrough_85 : decode cX3_goThrough 85 = .ok (.ldc2_w 67, 3) := by decide +kernel
theorem dX3_goThrough_88 : decode cX3_goThrough 88 = .ok (.ldiv, 1) := by decide +kernel
theorem dX3_goThrough_89 : decode cX3_goThrough 89 = .ok (.lstore 7, 2) := by decide +kernel
theorem dX3_goThrough_91 : decode cX3_goThrough 91 = .ok (.aload_n 0, 1) := by decide +kernel
theorem dX3_goThrough_92 : decode cX3_goThrough 92 = .ok (.getfield 15, 3) := by decide +kernel
theorem dX3_goThrough_95 : decode cX3_goThrough 95 = .ok (.iload 6, 2) := by decide +kernel
theorem dX3_goThrough_97 : decode cX3_goThrough 97 = .ok (.dup2, 1) := by decide +kernel
theorem dX3_goThrough_98 : decode cX3_goThrough 98 = .ok (.laload, 1) := by decide +kernel
theorem dX3_goThrough_99 : decode cX3_goThrough 99 = .ok (.lload 7, 2) := by decide +kernel
theorem dX3_goThrough_101 : decode cX3_goThrough 101 = .ok (.lsub, 1) := by decide +kernel
theorem dX3_goThrough_102 : decode cX3_goThrough 102 = .ok (.lastore, 1) := by decide +kernel
theorem dX3_goThrough_103 : decode cX3_goThrough 103 = .ok (.aload_n 0, 1) := by decide +kernel
theorem dX3_goThrough_104 : decode cX3_goThrough 104 = .ok (.getfield 15, 3) := by decide +kernel
theorem dX3_goThrough_107 : decode cX3_goThrough 107 = .ok (.iload 6, 2) := by decide +kernel
theorem dX3_goThrough_109 : decode cX3_goThrough 109 = .ok (.iconst 1, 1) := by decide +kernel
theorem dX3_goThrough_110 : decode cX3_goThrough 110 = .ok (.isub, 1) := by decide +kernel
theorem dX3_goThrough_111 : decode cX3_goThrough 111 = .ok (.dup2, 1) := by decide +kernel
theorem dX3_goThrough_112 : decode cX3_goThrough 112 = .ok (.laload, 1) := by decide +kernel
theorem dX3_goThrough_113 : decode cX3_goThrough 113 = .ok (.lload 7, 2) := by decide +kernel
theorem dX3_goThrough_115 : decode cX3_goThrough 115 = .ok (.ladd, 1) := by decide +kernel
theorem dX3_goThrough_116 : decode cX3_goThrough 116 = .ok (.lastore, 1) := by decide +kernel
theorem dX3_goThrough_117 : decode cX3_goThrough 117 = .ok (.lload 4, 2) := by decide +kernel
theorem dX3_goThrough_119 : decode cX3_goThrough 119 = .ok (.lload 7, 2) := by decide +kernel
theorem dX3_goThrough_121 : decode cX3_goThrough 121 = .ok (.ladd, 1) := by decide +kernel
theorem dX3_goThrough_122 : decode cX3_goThrough 122 = .ok (.lstore 4, 2) := by decide +kernel
theorem dX3_goThrough_124 : decode cX3_goThrough 124 = .ok (.iinc 6 1, 3) := by decide +kernel
theorem dX3_goThrough_127 : decode cX3_goThrough 127 = .ok (.goto (-84), 3) := by decide +kernel
theorem dX3_goThrough_130 : decode cX3_goThrough 130 = .ok (.aload_n 0, 1) := by decide +kernel
theorem dX3_goThrough_131 : decode cX3_goThrough 131 = .ok (.getfield 9, 3) := by decide +kernel
theorem dX3_goThrough_134 : decode cX3_goThrough 134 = .ok (.iload_n 3, 1) := by decide +kernel
theorem dX3_goThrough_135 : decode cX3_goThrough 135 = .ok (.lload 4, 2) := by decide +kernel
theorem dX3_goThrough_137 : decode cX3_goThrough 137 = .ok (.l2i, 1) := by decide +kernel
theorem dX3_goThrough_138 : decode cX3_goThrough 138 = .ok (.iastore, 1) := by decide +kernel
theorem dX3_goThrough_139 : decode cX3_goThrough 139 = .ok (.iinc 2 1, 3) := by decide +kernel
theorem dX3_goThrough_142 : decode cX3_goThrough 142 = .ok (.goto (-120), 3) := by decide +kernel
theorem dX3_goThrough_145 : decode cX3_goThrough 145 = .ok (.return_, 1) := by decide +kernel
theorem dX3_ofOne_0 : decode cX3_ofOne 0 = .ok (.aload_n 0, 1) := by decide +kernel
theorem dX3_ofOne_1 : decode cX3_ofOne 1 = .ok (.aload_n 2, 1) := by decide +kernel
theorem dX3_ofOne_2 : decode cX3_ofOne 2 = .ok (.invokevirtual 48, 3) := by decide +kernel
theorem dX3_ofOne_5 : decode cX3_ofOne 5 = .ok (.aload_n 0, 1) := by decide +kernel
theorem dX3_ofOne_6 : decode cX3_ofOne 6 = .ok (.getfield 9, 3) := by decide +kernel
theorem dX3_ofOne_9 : decode cX3_ofOne 9 = .ok (.iload_n 1, 1) := by decide +kernel
theorem dX3_ofOne_10 : decode cX3_ofOne 10 = .ok (.iaload, 1) := by decide +kernel
theorem dX3_ofOne_11 : decode cX3_ofOne 11 = .ok (.ireturn, 1) := by decide +kernel
theorem dX4_become_0 : decode cX4_become 0 = .ok (.aload_n 0, 1) := by decide +kernel
theorem dX4_become_1 : decode cX4_become 1 = .ok (.iload_n 1, 1) := by decide +kernel
theorem dX4_become_2 : decode cX4_become 2 = .ok (.putfield 11, 3) := by decide +kernel
theorem dX4_become_5 : decode cX4_become 5 = .ok (.aload_n 0, 1) := by decide +kernel
theorem dX4_become_6 : decode cX4_become 6 = .ok (.iload_n 2, 1) := by decide +kernel
theorem dX4_become_7 : decode cX4_become 7 = .ok (.putfield 15, 3) := by decide +kernel
theorem dX4_become_10 : decode cX4_become 10 = .ok (.aload_n 0, 1) := by decide +kernel
theorem dX4_become_11 : decode cX4_become 11 = .ok (.getfield 18, 3) := by decide +kernel
theorem dX4_become_14 : decode cX4_become 14 = .ok (.lconst 0, 1) := by decide +kernel
theorem dX4_become_15 : decode cX4_become 15 = .ok (.invokestatic 22, 3) := by decide +kernel
theorem dX4_become_18 : decode cX4_become 18 = .ok (.return_, 1) := by decide +kernel
theorem dX4_cut_0 : decode cX4_cut 0 = .ok (.aload_n 0, 1) := by decide +kernel
theorem dX4_cut_1 : decode cX4_cut 1 = .ok (.getfield 11, 3) := by decide +kernel
theorem dX4_cut_4 : decode cX4_cut 4 = .ok (.tableswitch 62 0 4 #[36, 41, 46, 62, 50], 36) := by decide +kernel
theorem dX4_cut_40 : decode cX4_cut 40 = .ok (.lload_n 1, 1) := by decide +kernel
theorem dX4_cut_41 : decode cX4_cut 41 = .ok (.l2i, 1) := by decide +kernel
theorem dX4_cut_42 : decode cX4_cut 42 = .ok (.i2b, 1) := by decide +kernel
theorem dX4_cut_43 : decode cX4_cut 43 = .ok (.i2l, 1) := by decide +kernel
theorem dX4_cut_44 : decode cX4_cut 44 = .ok (.lreturn, 1) := by decide +kernel
theorem dX4_cut_45 : decode cX4_cut 45 = .ok (.lload_n 1, 1) := by decide +kernel
theorem dX4_cut_46 : decode cX4_cut 46 = .ok (.l2i, 1) := by decide +kernel
theorem dX4_cut_47 : decode cX4_cut 47 = .ok (.i2s, 1) := by decide +kernel
theorem dX4_cut_48 : decode cX4_cut 48 = .ok (.i2l, 1) := by decide +kernel
theorem dX4_cut_49 : decode cX4_cut 49 = .ok (.lreturn, 1) := by decide +kernel
theorem dX4_cut_50 : decode cX4_cut 50 = .ok (.lload_n 1, 1) := by decide +kernel
theorem dX4_cut_51 : decode cX4_cut 51 = .ok (.l2i, 1) := by decide +kernel
theorem dX4_cut_52 : decode cX4_cut 52 = .ok (.i2l, 1) := by decide +kernel
theorem dX4_cut_53 : decode cX4_cut 53 = .ok (.lreturn, 1) := by decide +kernel
theorem dX4_cut_54 : decode cX4_cut 54 = .ok (.lload_n 1, 1) := by decide +kernel
theorem dX4_cut_55 : decode cX4_cut 55 = .ok (.lconst 0, 1) := by decide +kernel
theorem dX4_cut_56 : decode cX4_cut 56 = .ok (.lcmp, 1) := by decide +kernel
theorem dX4_cut_57 : decode cX4_cut 57 = .ok (.ifCond .eq 7, 3) := by decide +kernel
theorem dX4_cut_60 : decode cX4_cut 60 = .ok (.lconst 1, 1) := by decide +kernel
theorem dX4_cut_61 : decode cX4_cut 61 = .ok (.goto 4, 3) := by decide +kernel
theorem dX4_cut_64 : decode cX4_cut 64 = .ok (.lconst 0, 1) := by decide +kernel
theorem dX4_cut_65 : decode cX4_cut 65 = .ok (.lreturn, 1) := by decide +kernel
theorem dX4_cut_66 : decode cX4_cut 66 = .ok (.lload_n 1, 1) := by decide +kernel
theorem dX4_cut_67 : decode cX4_cut 67 = .ok (.lreturn, 1) := by decide +kernel
theorem dX4_has_0 : decode cX4_has 0 = .ok (.iload_n 1, 1) := by decide +kernel
theorem dX4_has_1 : decode cX4_has 1 = .ok (.ifCond .lt 15, 3) := by decide +kernel
theorem dX4_has_4 : decode cX4_has 4 = .ok (.iload_n 1, 1) := by decide +kernel
theorem dX4_has_5 : decode cX4_has 5 = .ok (.aload_n 0, 1) := by decide +kernel
theorem dX4_has_6 : decode cX4_has 6 = .ok (.getfield 15, 3) := by decide +kernel
theorem dX4_has_9 : decode cX4_has 9 = .ok (.if_icmp .ge 7, 3) := by decide +kernel
theorem dX4_has_12 : decode cX4_has 12 = .ok (.iconst 1, 1) := by decide +kernel
theorem dX4_has_13 : decode cX4_has 13 = .ok (.goto 4, 3) := by decide +kernel
theorem dX4_has_16 : decode cX4_has 16 = .ok (.iconst 0, 1) := by decide +kernel
theorem dX4_has_17 : decode cX4_has 17 = .ok (.ireturn, 1) := by decide +kernel
theorem dX4_hasRun_0 : decode cX4_hasRun 0 = .ok (.iload_n 2, 1) := by decide +kernel
theorem dX4_hasRun_1 : decode cX4_hasRun 1 = .ok (.ifCond .lt 29, 3) := by decide +kernel
theorem dX4_hasRun_4 : decode cX4_hasRun 4 = .ok (.iload_n 1, 1) := by decide +kernel
theorem dX4_hasRun_5 : decode cX4_hasRun 5 = .ok (.ifCond .lt 25, 3) := by decide +kernel
theorem dX4_hasRun_8 : decode cX4_hasRun 8 = .ok (.iload_n 1, 1) := by decide +kernel
theorem dX4_hasRun_9 : decode cX4_hasRun 9 = .ok (.aload_n 0, 1) := by decide +kernel
theorem dX4_hasRun_10 : decode cX4_hasRun 10 = .ok (.getfield 15, 3) := by decide +kernel
theorem dX4_hasRun_13 : decode cX4_hasRun 13 = .ok (.if_icmp .gt 17, 3) := by decide +kernel
theorem dX4_hasRun_16 : decode cX4_hasRun 16 = .ok (.iload_n 2, 1) := by decide +kernel
theorem dX4_hasRun_17 : decode cX4_hasRun 17 = .ok (.aload_n 0, 1) := by decide +kernel
theorem dX4_hasRun_18 : decode cX4_hasRun 18 = .ok (.getfield 15, 3) := by decide +kernel
theorem dX4_hasRun_21 : decode cX4_hasRun 21 = .ok (.iload_n 1, 1) := by decide +kernel
theorem dX4_hasRun_22 : decode cX4_hasRun 22 = .ok (.isub, 1) := by decide +kernel
theorem dX4_hasRun_23 : decode cX4_hasRun 23 = .ok (.if_icmp .gt 7, 3) := by decide +kernel
theorem dX4_hasRun_26 : decode cX4_hasRun 26 = .ok (.iconst 1, 1) := by decide +kernel
theorem dX4_hasRun_27 : decode cX4_hasRun 27 = .ok (.goto 4, 3) := by decide +kernel
theorem dX4_hasRun_30 : decode cX4_hasRun 30 = .ok (.iconst 0, 1) := by decide +kernel
theorem dX4_hasRun_31 : decode cX4_hasRun 31 = .ok (.ireturn, 1) := by decide +kernel
theorem dX5_chance_0 : decode cX5_chance 0 = .ok (.iload_n 3, 1) := by decide +kernel
theorem dX5_chance_1 : decode cX5_chance 1 = .ok (.ifCond .gt 5, 3) := by decide +kernel
theorem dX5_chance_4 : decode cX5_chance 4 = .ok (.iconst 0, 1) := by decide +kernel
theorem dX5_chance_5 : decode cX5_chance 5 = .ok (.ireturn, 1) := by decide +kernel
theorem dX5_chance_6 : decode cX5_chance 6 = .ok (.iload 4, 2) := by decide +kernel
theorem dX5_chance_8 : decode cX5_chance 8 = .ok (.ifCond .gt 6, 3) := by decide +kernel
theorem dX5_chance_11 : decode cX5_chance 11 = .ok (.ldc 109, 2) := by decide +kernel
theorem dX5_chance_13 : decode cX5_chance 13 = .ok (.ireturn, 1) := by decide +kernel
theorem dX5_chance_14 : decode cX5_chance 14 = .ok (.iload_n 3, 1) := by decide +kernel
theorem dX5_chance_15 : decode cX5_chance 15 = .ok (.i2l, 1) := by decide +kernel
theorem dX5_chance_16 : decode cX5_chance 16 = .ok (.aload_n 0, 1) := by decide +kernel
theorem dX5_chance_17 : decode cX5_chance 17 = .ok (.iload_n 1, 1) := by decide +kernel
theorem dX5_chance_18 : decode cX5_chance 18 = .ok (.iload_n 2, 1) := by decide +kernel
theorem dX5_chance_19 : decode cX5_chance 19 = .ok (.iload_n 3, 1) := by decide +kernel
theorem dX5_chance_20 : decode cX5_chance 20 = .ok (.iload 4, 2) := by decide +kernel
theorem dX5_chance_22 : decode cX5_chance 22 = .ok (.invokevirtual 110, 3) := by decide +kernel
theorem dX5_chance_25 : decode cX5_chance 25 = .ok (.i2l, 1) := by decide +kernel
theorem dX5_chance_26 : decode cX5_chance 26 = .ok (.lmul, 1) := by decide +kernel
theorem dX5_chance_27 : decode cX5_chance 27 = .ok (.lstore 5, 2) := by decide +kernel
theorem dX5_chance_29 : decode cX5_chance 29 = .ok (.ldc2_w 113, 3) := by decide +kernel
theorem dX5_chance_32 : decode cX5_chance 32 = .ok (.lload 5, 2) := by decide +kernel
theorem dX5_chance_34 : decode cX5_chance 34 = .ok (.lmul, 1) := by decide +kernel
theorem dX5_chance_35 : decode cX5_chance 35 = .ok (.lload 5, 2) := by decide +kernel
theorem dX5_chance_37 : decode cX5_chance 37 = .ok (.iload 4, 2) := by decide +kernel
theorem dX5_chance_39 : decode cX5_chance 39 = .ok (.bipush 10, 2) := by decide +kernel
theorem dX5_chance_41 : decode cX5_chance 41 = .ok (.imul, 1) := by decide +kernel
theorem dX5_chance_42 : decode cX5_chance 42 = .ok (.i2l, 1) := by decide +kernel
theorem dX5_chance_43 : decode cX5_chance 43 = .ok (.ladd, 1) := by decide +kernel
theorem dX5_chance_44 : decode cX5_chance 44 = .ok (.ldiv, 1) := by decide +kernel
theorem dX5_chance_45 : decode cX5_chance 45 = .ok (.l2i, 1) := by decide +kernel
theorem dX5_chance_46 : decode cX5_chance 46 = .ok (.ireturn, 1) := by decide +kernel
theorem dX5_drawNext_0 : decode cX5_drawNext 0 = .ok (.aload_n 0, 1) := by decide +kernel
theorem dX5_drawNext_1 : decode cX5_drawNext 1 = .ok (.getfield 30, 3) := by decide +kernel
theorem dX5_drawNext_4 : decode cX5_drawNext 4 = .ok (.aload_n 0, 1) := by decide +kernel
theorem dX5_drawNext_5 : decode cX5_drawNext 5 = .ok (.getfield 39, 3) := by decide +kernel
theorem dX5_drawNext_8 : decode cX5_drawNext 8 = .ok (.iaload, 1) := by decide +kernel
theorem dX5_drawNext_9 : decode cX5_drawNext 9 = .ok (.istore_n 2, 1) := by decide +kernel
theorem dX5_drawNext_10 : decode cX5_drawNext 10 = .ok (.iload_n 1, 1) := by decide +kernel
theorem dX5_drawNext_11 : decode cX5_drawNext 11 = .ok (.aload_n 0, 1) := by decide +kernel
theorem dX5_drawNext_12 : decode cX5_drawNext 12 = .ok (.iload_n 2, 1) := by decide +kernel
theorem dX5_drawNext_13 : decode cX5_drawNext 13 = .ok (.aload_n 0, 1) := by decide +kernel
theorem dX5_drawNext_14 : decode cX5_drawNext 14 = .ok (.getfield 39, 3) := by decide +kernel
theorem dX5_drawNext_17 : decode cX5_drawNext 17 = .ok (.aload_n 0, 1) := by decide +kernel
theorem dX5_drawNext_18 : decode cX5_drawNext 18 = .ok (.getfield 33, 3) := by decide +kernel
theorem dX5_drawNext_21 : decode cX5_drawNext 21 = .ok (.aload_n 0, 1) := by decide +kernel
theorem dX5_drawNext_22 : decode cX5_drawNext 22 = .ok (.getfield 36, 3) := by decide +kernel
theorem dX5_drawNext_25 : decode cX5_drawNext 25 = .ok (.invokevirtual 102, 3) := by decide +kernel
theorem dX5_drawNext_28 : decode cX5_drawNext 28 = .ok (.if_icmp .ge 7, 3) := by decide +kernel
theorem dX5_drawNext_31 : decode cX5_drawNext 31 = .ok (.iconst 1, 1) := by decide +kernel
theorem dX5_drawNext_32 : decode cX5_drawNext 32 = .ok (.goto 4, 3) := by decide +kernel
theorem dX5_drawNext_35 : decode cX5_drawNext 35 = .ok (.iconst 0, 1) := by decide +kernel
theorem dX5_drawNext_36 : decode cX5_drawNext 36 = .ok (.istore_n 3, 1) := by decide +kernel
theorem dX5_drawNext_37 : decode cX5_drawNext 37 = .ok (.iload_n 3, 1) := by decide +kernel
theorem dX5_drawNext_38 : decode cX5_drawNext 38 = .ok (.ifCond .eq 36, 3) := by decide +kernel
theorem dX5_drawNext_41 : decode cX5_drawNext 41 = .ok (.aload_n 0, 1) := by decide +kernel
theorem dX5_drawNext_42 : decode cX5_drawNext 42 = .ok (.dup, 1) := by decide +kernel
theorem dX5_drawNext_43 : decode cX5_drawNext 43 = .ok (.getfield 33, 3) := by decide +kernel
theorem dX5_drawNext_46 : decode cX5_drawNext 46 = .ok (.iconst 1, 1) := by decide +kernel
theorem dX5_drawNext_47 : decode cX5_drawNext 47 = .ok (.isub, 1) := by decide +kernel
theorem dX5_drawNext_48 : decode cX5_drawNext 48 = .ok (.putfield 33, 3) := by decide +kernel
theorem dX5_drawNext_51 : decode cX5_drawNext 51 = .ok (.aload_n 0, 1) := by decide +kernel
theorem dX5_drawNext_52 : decode cX5_drawNext 52 = .ok (.getfield 22, 3) := by decide +kernel
theorem dX5_drawNext_55 : decode cX5_drawNext 55 = .ok (.iload_n 2, 1) := by decide +kernel
theorem dX5_drawNext_56 : decode cX5_drawNext 56 = .ok (.sipush 999, 3) := by decide +kernel
theorem dX5_drawNext_59 : decode cX5_drawNext 59 = .ok (.aload_n 0, 1) := by decide +kernel
theorem dX5_drawNext_60 : decode cX5_drawNext 60 = .ok (.getfield 22, 3) := by decide +kernel
theorem dX5_drawNext_63 : decode cX5_drawNext 63 = .ok (.iload_n 2, 1) := by decide +kernel
theorem dX5_drawNext_64 : decode cX5_drawNext 64 = .ok (.iaload, 1) := by decide +kernel
theorem dX5_drawNext_65 : decode cX5_drawNext 65 = .ok (.iconst 1, 1) := by decide +kernel
theorem dX5_drawNext_66 : decode cX5_drawNext 66 = .ok (.iadd, 1) := by decide +kernel
theorem dX5_drawNext_67 : decode cX5_drawNext 67 = .ok (.invokestatic 106, 3) := by decide +kernel
theorem dX5_drawNext_70 : decode cX5_drawNext 70 = .ok (.iastore, 1) := by decide +kernel
theorem dX5_drawNext_71 : decode cX5_drawNext 71 = .ok (.goto 13, 3) := by decide +kernel
theorem dX5_drawNext_74 : decode cX5_drawNext 74 = .ok (.aload_n 0, 1) := by decide +kernel
theorem dX5_drawNext_75 : decode cX5_drawNext 75 = .ok (.dup, 1) := by decide +kernel
theorem dX5_drawNext_76 : decode cX5_drawNext 76 = .ok (.getfield 36, 3) := by decide +kernel
theorem dX5_drawNext_79 : decode cX5_drawNext 79 = .ok (.iconst 1, 1) := by decide +kernel
theorem dX5_drawNext_80 : decode cX5_drawNext 80 = .ok (.isub, 1) := by decide +kernel
theorem dX5_drawNext_81 : decode cX5_drawNext 81 = .ok (.putfield 36, 3) := by decide +kernel
theorem dX5_drawNext_84 : decode cX5_drawNext 84 = .ok (.aload_n 0, 1) := by decide +kernel
theorem dX5_drawNext_85 : decode cX5_drawNext 85 = .ok (.dup, 1) := by decide +kernel
theorem dX5_drawNext_86 : decode cX5_drawNext 86 = .ok (.getfield 39, 3) := by decide +kernel
theorem dX5_drawNext_89 : decode cX5_drawNext 89 = .ok (.iconst 1, 1) := by decide +kernel
theorem dX5_drawNext_90 : decode cX5_drawNext 90 = .ok (.iadd, 1) := by decide +kernel
theorem dX5_drawNext_91 : decode cX5_drawNext 91 = .ok (.putfield 39, 3) := by decide +kernel
theorem dX5_drawNext_94 : decode cX5_drawNext 94 = .ok (.aload_n 0, 1) := by decide +kernel
theorem dX5_drawNext_95 : decode cX5_drawNext 95 = .ok (.getfield 33, 3) := by decide +kernel
theorem dX5_drawNext_98 : decode cX5_drawNext 98 = .ok (.ifCond .eq 14, 3) := by decide +kernel
theorem dX5_drawNext_101 : decode cX5_drawNext 101 = .ok (.aload_n 0, 1) := by decide +kernel
theorem dX5_drawNext_102 : decode cX5_drawNext 102 = .ok (.getfield 39, 3) := by decide +kernel
theorem dX5_drawNext_105 : decode cX5_drawNext 105 = .ok (.aload_n 0, 1) := by decide +kernel
theorem dX5_drawNext_106 : decode cX5_drawNext 106 = .ok (.getfield 9, 3) := by decide +kernel
theorem dX5_drawNext_109 : decode cX5_drawNext 109 = .ok (.if_icmp .ne 7, 3) := by decide +kernel
theorem dX5_drawNext_112 : decode cX5_drawNext 112 = .ok (.iconst 1, 1) := by decide +kernel
theorem dX5_drawNext_113 : decode cX5_drawNext 113 = .ok (.goto 4, 3) := by decide +kernel
theorem dX5_drawNext_116 : decode cX5_drawNext 116 = .ok (.iconst 0, 1) := by decide +kernel
theorem dX5_drawNext_117 : decode cX5_drawNext 117 = .ok (.istore 4, 2) := by decide +kernel
theorem dX5_drawNext_119 : decode cX5_drawNext 119 = .ok (.iload 4, 2) := by decide +kernel
theorem dX5_drawNext_121 : decode cX5_drawNext 121 = .ok (.ifCond .eq 17, 3) := by decide +kernel
theorem dX5_drawNext_124 : decode cX5_drawNext 124 = .ok (.aload_n 0, 1) := by decide +kernel
theorem dX5_drawNext_125 : decode cX5_drawNext 125 = .ok (.dup, 1) := by decide +kernel
theorem dX5_drawNext_126 : decode cX5_drawNext 126 = .ok (.getfield 42, 3) := by decide +kernel
theorem dX5_drawNext_129 : decode cX5_drawNext 129 = .ok (.iconst 1, 1) := by decide +kernel
theorem dX5_drawNext_130 : decode cX5_drawNext 130 = .ok (.iadd, 1) := by decide +kernel
theorem dX5_drawNext_131 : decode cX5_drawNext 131 = .ok (.putfield 42, 3) := by decide +kernel
theorem dX5_drawNext_134 : decode cX5_drawNext 134 = .ok (.aload_n 0, 1) := by decide +kernel
theorem dX5_drawNext_135 : decode cX5_drawNext 135 = .ok (.invokevirtual 76, 3) := by decide +kernel
theorem dX5_drawNext_138 : decode cX5_drawNext 138 = .ok (.iload_n 2, 1) := by decide +kernel
theorem dX5_drawNext_139 : decode cX5_drawNext 139 = .ok (.iload_n 3, 1) := by decide +kernel
theorem dX5_drawNext_140 : decode cX5_drawNext 140 = .ok (.ifCond .eq 8, 3) := by decide +kernel
theorem dX5_drawNext_143 : decode cX5_drawNext 143 = .ok (.bipush 10, 2) := by decide +kernel
theorem dX5_drawNext_145 : decode cX5_drawNext 145 = .ok (.goto 4, 3) := by decide +kernel
theorem dX5_drawNext_148 : decode cX5_drawNext 148 = .ok (.iconst 0, 1) := by decide +kernel
theorem dX5_drawNext_149 : decode cX5_drawNext 149 = .ok (.iadd, 1) := by decide +kernel
theorem dX5_drawNext_150 : decode cX5_drawNext 150 = .ok (.iload 4, 2) := by decide +kernel
theorem dX5_drawNext_152 : decode cX5_drawNext 152 = .ok (.ifCond .eq 8, 3) := by decide +kernel
theorem dX5_drawNext_155 : decode cX5_drawNext 155 = .ok (.bipush 100, 2) := by decide +kernel
theorem dX5_drawNext_157 : decode cX5_drawNext 157 = .ok (.goto 4, 3) := by decide +kernel
theorem dX5_drawNext_160 : decode cX5_drawNext 160 = .ok (.iconst 0, 1) := by decide +kernel
theorem dX5_drawNext_161 : decode cX5_drawNext 161 = .ok (.iadd, 1) := by decide +kernel
theorem dX5_drawNext_162 : decode cX5_drawNext 162 = .ok (.ireturn, 1) := by decide +kernel
theorem dX5_firstShortOfBook_0 : decode cX5_firstShortOfBook 0 = .ok (.aload_n 0, 1) := by decide +kernel
theorem dX5_firstShortOfBook_1 : decode cX5_firstShortOfBook 1 = .ok (.getfield 9, 3) := by decide +kernel
theorem dX5_firstShortOfBook_4 : decode cX5_firstShortOfBook 4 = .ok (.ifCond .ne 6, 3) := by decide +kernel
theorem dX5_firstShortOfBook_7 : decode cX5_firstShortOfBook 7 = .ok (.bipush (-5), 2) := by decide +kernel
theorem dX5_firstShortOfBook_9 : decode cX5_firstShortOfBook 9 = .ok (.ireturn, 1) := by decide +kernel
theorem dX5_firstShortOfBook_10 : decode cX5_firstShortOfBook 10 = .ok (.aload_n 0, 1) := by decide +kernel
theorem dX5_firstShortOfBook_11 : decode cX5_firstShortOfBook 11 = .ok (.invokevirtual 95, 3) := by decide +kernel
theorem dX5_firstShortOfBook_14 : decode cX5_firstShortOfBook 14 = .ok (.istore_n 1, 1) := by decide +kernel
theorem dX5_firstShortOfBook_15 : decode cX5_firstShortOfBook 15 = .ok (.aload_n 0, 1) := by decide +kernel
theorem dX5_firstShortOfBook_16 : decode cX5_firstShortOfBook 16 = .ok (.invokevirtual 99, 3) := by decide +kernel
theorem dX5_firstShortOfBook_19 : decode cX5_firstShortOfBook 19 = .ok (.istore_n 2, 1) := by decide +kernel
theorem dX5_firstShortOfBook_20 : decode cX5_firstShortOfBook 20 = .ok (.iconst 0, 1) := by decide +kernel
theorem dX5_firstShortOfBook_21 : decode cX5_firstShortOfBook 21 = .ok (.istore_n 3, 1) := by decide +kernel
theorem dX5_firstShortOfBook_22 : decode cX5_firstShortOfBook 22 = .ok (.iconst 0, 1) := by decide +kernel
theorem dX5_firstShortOfBook_23 : decode cX5_firstShortOfBook 23 = .ok (.istore 4, 2) := by decide +kernel
theorem dX5_firstShortOfBook_25 : decode cX5_firstShortOfBook 25 = .ok (.iload 4, 2) := by decide +kernel
theorem dX5_firstShortOfBook_27 : decode cX5_firstShortOfBook 27 = .ok (.aload_n 0, 1) := by decide +kernel
theorem dX5_firstShortOfBook_28 : decode cX5_firstShortOfBook 28 = .ok (.getfield 54, 3) := by decide +kernel
theorem dX5_firstShortOfBook_31 : decode cX5_firstShortOfBook 31 = .ok (.if_icmp .ge 55, 3) := by decide +kernel
theorem dX5_firstShortOfBook_34 : decode cX5_firstShortOfBook 34 = .ok (.aload_n 0, 1) := by decide +kernel
theorem dX5_firstShortOfBook_35 : decode cX5_firstShortOfBook 35 = .ok (.getfield 57, 3) := by decide +kernel
theorem dX5_firstShortOfBook_38 : decode cX5_firstShortOfBook 38 = .ok (.iload 4, 2) := by decide +kernel
theorem dX5_firstShortOfBook_40 : decode cX5_firstShortOfBook 40 = .ok (.iaload, 1) := by decide +kernel
theorem dX5_firstShortOfBook_41 : decode cX5_firstShortOfBook 41 = .ok (.aload_n 0, 1) := by decide +kernel
theorem dX5_firstShortOfBook_42 : decode cX5_firstShortOfBook 42 = .ok (.aload_n 0, 1) := by decide +kernel
theorem dX5_firstShortOfBook_43 : decode cX5_firstShortOfBook 43 = .ok (.getfield 30, 3) := by decide +kernel
theorem dX5_firstShortOfBook_46 : decode cX5_firstShortOfBook 46 = .ok (.iload_n 3, 1) := by decide +kernel
theorem dX5_firstShortOfBook_47 : decode cX5_firstShortOfBook 47 = .ok (.iaload, 1) := by decide +kernel
theorem dX5_firstShortOfBook_48 : decode cX5_firstShortOfBook 48 = .ok (.iload_n 3, 1) := by decide +kernel
theorem dX5_firstShortOfBook_49 : decode cX5_firstShortOfBook 49 = .ok (.iload_n 1, 1) := by decide +kernel
theorem dX5_firstShortOfBook_50 : decode cX5_firstShortOfBook 50 = .ok (.iload_n 2, 1) := by decide +kernel
theorem dX5_firstShortOfBook_51 : decode cX5_firstShortOfBook 51 = .ok (.iload_n 3, 1) := by decide +kernel
theorem dX5_firstShortOfBook_52 : decode cX5_firstShortOfBook 52 = .ok (.isub, 1) := by decide +kernel
theorem dX5_firstShortOfBook_53 : decode cX5_firstShortOfBook 53 = .ok (.invokevirtual 102, 3) := by decide +kernel
theorem dX5_firstShortOfBook_56 : decode cX5_firstShortOfBook 56 = .ok (.if_icmp .ge 6, 3) := by decide +kernel
theorem dX5_firstShortOfBook_59 : decode cX5_firstShortOfBook 59 = .ok (.iload 4, 2) := by decide +kernel
theorem dX5_firstShortOfBook_61 : decode cX5_firstShortOfBook 61 = .ok (.ireturn, 1) := by decide +kernel
theorem dX5_firstShortOfBook_62 : decode cX5_firstShortOfBook 62 = .ok (.iload_n 3, 1) := by decide +kernel
theorem dX5_firstShortOfBook_63 : decode cX5_firstShortOfBook 63 = .ok (.iconst 1, 1) := by decide +kernel
theorem dX5_firstShortOfBook_64 : decode cX5_firstShortOfBook 64 = .ok (.iadd, 1) := by decide +kernel
theorem dX5_firstShortOfBook_65 : decode cX5_firstShortOfBook 65 = .ok (.aload_n 0, 1) := by decide +kernel
theorem dX5_firstShortOfBook_66 : decode cX5_firstShortOfBook 66 = .ok (.getfield 9, 3) := by decide +kernel
theorem dX5_firstShortOfBook_69 : decode cX5_firstShortOfBook 69 = .ok (.if_icmp .ge 9, 3) := by decide +kernel
theorem dX5_firstShortOfBook_72 : decode cX5_firstShortOfBook 72 = .ok (.iload_n 3, 1) := by decide +kernel
theorem dX5_firstShortOfBook_73 : decode cX5_firstShortOfBook 73 = .ok (.iconst 1, 1) := by decide +kernel
theorem dX5_firstShortOfBook_74 : decode cX5_firstShortOfBook 74 = .ok (.iadd, 1) := by decide +kernel
theorem dX5_firstShortOfBook_75 : decode cX5_firstShortOfBook 75 = .ok (.goto 4, 3) := by decide +kernel
theorem dX5_firstShortOfBook_78 : decode cX5_firstShortOfBook 78 = .ok (.iconst 0, 1) := by decide +kernel
theorem dX5_firstShortOfBook_79 : decode cX5_firstShortOfBook 79 = .ok (.istore_n 3, 1) := by decide +kernel
theorem dX5_firstShortOfBook_80 : decode cX5_firstShortOfBook 80 = .ok (.iinc 4 1, 3) := by decide +kernel
theorem dX5_firstShortOfBook_83 : decode cX5_firstShortOfBook 83 = .ok (.goto (-58), 3) := by decide +kernel
theorem dX5_firstShortOfBook_86 : decode cX5_firstShortOfBook 86 = .ok (.bipush (-5), 2) := by decide +kernel
theorem dX5_firstShortOfBook_88 : decode cX5_firstShortOfBook 88 = .ok (.ireturn, 1) := by decide +kernel
theorem dX5_has_0 : decode cX5_has 0 = .ok (.iload_n 1, 1) := by decide +kernel
theorem dX5_has_1 : decode cX5_has 1 = .ok (.ifCond .lt 15, 3) := by decide +kernel
theorem dX5_has_4 : decode cX5_has 4 = .ok (.iload_n 1, 1) := by decide +kernel
theorem dX5_has_5 : decode cX5_has 5 = .ok (.aload_n 0, 1) := by decide +kernel
theorem dX5_has_6 : decode cX5_has 6 = .ok (.getfield 9, 3) := by decide +kernel
theorem dX5_has_9 : decode cX5_has 9 = .ok (.if_icmp .ge 7, 3) := by decide +kernel
theorem dX5_has_12 : decode cX5_has 12 = .ok (.iconst 1, 1) := by decide +kernel
theorem dX5_has_13 : decode cX5_has 13 = .ok (.goto 4, 3) := by decide +kernel
theorem dX5_has_16 : decode cX5_has 16 = .ok (.iconst 0, 1) := by decide +kernel
theorem dX5_has_17 : decode cX5_has 17 = .ok (.ireturn, 1) := by decide +kernel
theorem dX5_isSeenBy_0 : decode cX5_isSeenBy 0 = .ok (.iload_n 1, 1) := by decide +kernel
theorem dX5_isSeenBy_1 : decode cX5_isSeenBy 1 = .ok (.istore_n 3, 1) := by decide +kernel
theorem dX5_isSeenBy_2 : decode cX5_isSeenBy 2 = .ok (.iload_n 2, 1) := by decide +kernel
theorem dX5_isSeenBy_3 : decode cX5_isSeenBy 3 = .ok (.istore 4, 2) := by decide +kernel
theorem dX5_isSeenBy_5 : decode cX5_isSeenBy 5 = .ok (.iconst 0, 1) := by decide +kernel
theorem dX5_isSeenBy_6 : decode cX5_isSeenBy 6 = .ok (.istore 5, 2) := by decide +kernel
theorem dX5_isSeenBy_8 : decode cX5_isSeenBy 8 = .ok (.iload 5, 2) := by decide +kernel
theorem dX5_isSeenBy_10 : decode cX5_isSeenBy 10 = .ok (.aload_n 0, 1) := by decide +kernel
theorem dX5_isSeenBy_11 : decode cX5_isSeenBy 11 = .ok (.getfield 45, 3) := by decide +kernel
theorem dX5_isSeenBy_14 : decode cX5_isSeenBy 14 = .ok (.if_icmp .ge 94, 3) := by decide +kernel
theorem dX5_isSeenBy_17 : decode cX5_isSeenBy 17 = .ok (.iload 5, 2) := by decide +kernel
theorem dX5_isSeenBy_19 : decode cX5_isSeenBy 19 = .ok (.aload_n 0, 1) := by decide +kernel
theorem dX5_isSeenBy_20 : decode cX5_isSeenBy 20 = .ok (.getfield 9, 3) := by decide +kernel
theorem dX5_isSeenBy_23 : decode cX5_isSeenBy 23 = .ok (.if_icmp .ge 7, 3) := by decide +kernel
theorem dX5_isSeenBy_26 : decode cX5_isSeenBy 26 = .ok (.iload_n 3, 1) := by decide +kernel
theorem dX5_isSeenBy_27 : decode cX5_isSeenBy 27 = .ok (.ifCond .ne 5, 3) := by decide +kernel
theorem dX5_isSeenBy_30 : decode cX5_isSeenBy 30 = .ok (.iconst 0, 1) := by decide +kernel
theorem dX5_isSeenBy_31 : decode cX5_isSeenBy 31 = .ok (.ireturn, 1) := by decide +kernel
theorem dX5_isSeenBy_32 : decode cX5_isSeenBy 32 = .ok (.aload_n 0, 1) := by decide +kernel
theorem dX5_isSeenBy_33 : decode cX5_isSeenBy 33 = .ok (.getfield 48, 3) := by decide +kernel
theorem dX5_isSeenBy_36 : decode cX5_isSeenBy 36 = .ok (.iload 5, 2) := by decide +kernel
theorem dX5_isSeenBy_38 : decode cX5_isSeenBy 38 = .ok (.iaload, 1) := by decide +kernel
theorem dX5_isSeenBy_39 : decode cX5_isSeenBy 39 = .ok (.aload_n 0, 1) := by decide +kernel
theorem dX5_isSeenBy_40 : decode cX5_isSeenBy 40 = .ok (.aload_n 0, 1) := by decide +kernel
theorem dX5_isSeenBy_41 : decode cX5_isSeenBy 41 = .ok (.getfield 30, 3) := by decide +kernel
theorem dX5_isSeenBy_44 : decode cX5_isSeenBy 44 = .ok (.iload 5, 2) := by decide +kernel
theorem dX5_isSeenBy_46 : decode cX5_isSeenBy 46 = .ok (.iaload, 1) := by decide +kernel
theorem dX5_isSeenBy_47 : decode cX5_isSeenBy 47 = .ok (.iload 5, 2) := by decide +kernel
theorem dX5_isSeenBy_49 : decode cX5_isSeenBy 49 = .ok (.iload_n 3, 1) := by decide +kernel
theorem dX5_isSeenBy_50 : decode cX5_isSeenBy 50 = .ok (.iload 4, 2) := by decide +kernel
theorem dX5_isSeenBy_52 : decode cX5_isSeenBy 52 = .ok (.invokevirtual 102, 3) := by decide +kernel
theorem dX5_isSeenBy_55 : decode cX5_isSeenBy 55 = .ok (.if_icmp .ge 7, 3) := by decide +kernel
theorem dX5_isSeenBy_58 : decode cX5_isSeenBy 58 = .ok (.iconst 1, 1) := by decide +kernel
theorem dX5_isSeenBy_59 : decode cX5_isSeenBy 59 = .ok (.goto 4, 3) := by decide +kernel
theorem dX5_isSeenBy_62 : decode cX5_isSeenBy 62 = .ok (.iconst 0, 1) := by decide +kernel
theorem dX5_isSeenBy_63 : decode cX5_isSeenBy 63 = .ok (.istore 6, 2) := by decide +kernel
theorem dX5_isSeenBy_65 : decode cX5_isSeenBy 65 = .ok (.iload 6, 2) := by decide +kernel
theorem dX5_isSeenBy_67 : decode cX5_isSeenBy 67 = .ok (.aload_n 0, 1) := by decide +kernel
theorem dX5_isSeenBy_68 : decode cX5_isSeenBy 68 = .ok (.getfield 51, 3) := by decide +kernel
theorem dX5_isSeenBy_71 : decode cX5_isSeenBy 71 = .ok (.iload 5, 2) := by decide +kernel
theorem dX5_isSeenBy_73 : decode cX5_isSeenBy 73 = .ok (.iaload, 1) := by decide +kernel
theorem dX5_isSeenBy_74 : decode cX5_isSeenBy 74 = .ok (.iconst 1, 1) := by decide +kernel
theorem dX5_isSeenBy_75 : decode cX5_isSeenBy 75 = .ok (.if_icmp .ne 7, 3) := by decide +kernel
theorem dX5_isSeenBy_78 : decode cX5_isSeenBy 78 = .ok (.iconst 1, 1) := by decide +kernel
theorem dX5_isSeenBy_79 : decode cX5_isSeenBy 79 = .ok (.goto 4, 3) := by decide +kernel
theorem dX5_isSeenBy_82 : decode cX5_isSeenBy 82 = .ok (.iconst 0, 1) := by decide +kernel
theorem dX5_isSeenBy_83 : decode cX5_isSeenBy 83 = .ok (.if_icmp .eq 5, 3) := by decide +kernel
theorem dX5_isSeenBy_86 : decode cX5_isSeenBy 86 = .ok (.iconst 0, 1) := by decide +kernel
theorem dX5_isSeenBy_87 : decode cX5_isSeenBy 87 = .ok (.ireturn, 1) := by decide +kernel
theorem dX5_isSeenBy_88 : decode cX5_isSeenBy 88 = .ok (.iload 6, 2) := by decide +kernel
theorem dX5_isSeenBy_90 : decode cX5_isSeenBy 90 = .ok (.ifCond .eq 9, 3) := by decide +kernel
theorem dX5_isSeenBy_93 : decode cX5_isSeenBy 93 = .ok (.iinc 3 (-1), 3) := by decide +kernel
theorem dX5_isSeenBy_96 : decode cX5_isSeenBy 96 = .ok (.goto 6, 3) := by decide +kernel
theorem dX5_isSeenBy_99 : decode cX5_isSeenBy 99 = .ok (.iinc 4 (-1), 3) := by decide +kernel
theorem dX5_isSeenBy_102 : decode cX5_isSeenBy 102 = .ok (.iinc 5 1, 3) := by decide +kernel
theorem dX5_isSeenBy_105 : decode cX5_isSeenBy 105 = .ok (.goto (-97), 3) := by decide +kernel
theorem dX5_isSeenBy_108 : decode cX5_isSeenBy 108 = .ok (.iconst 1, 1) := by decide +kernel
theorem dX5_isSeenBy_109 : decode cX5_isSeenBy 109 = .ok (.ireturn, 1) := by decide +kernel
theorem dX5_makeWhole_0 : decode cX5_makeWhole 0 = .ok (.aload_n 0, 1) := by decide +kernel
theorem dX5_makeWhole_1 : decode cX5_makeWhole 1 = .ok (.aload_n 0, 1) := by decide +kernel
theorem dX5_makeWhole_2 : decode cX5_makeWhole 2 = .ok (.invokevirtual 95, 3) := by decide +kernel
theorem dX5_makeWhole_5 : decode cX5_makeWhole 5 = .ok (.putfield 33, 3) := by decide +kernel
theorem dX5_makeWhole_8 : decode cX5_makeWhole 8 = .ok (.aload_n 0, 1) := by decide +kernel
theorem dX5_makeWhole_9 : decode cX5_makeWhole 9 = .ok (.aload_n 0, 1) := by decide +kernel
theorem dX5_makeWhole_10 : decode cX5_makeWhole 10 = .ok (.invokevirtual 99, 3) := by decide +kernel
theorem dX5_makeWhole_13 : decode cX5_makeWhole 13 = .ok (.putfield 36, 3) := by decide +kernel
theorem dX5_makeWhole_16 : decode cX5_makeWhole 16 = .ok (.aload_n 0, 1) := by decide +kernel
theorem dX5_makeWhole_17 : decode cX5_makeWhole 17 = .ok (.iconst 0, 1) := by decide +kernel
theorem dX5_makeWhole_18 : decode cX5_makeWhole 18 = .ok (.putfield 39, 3) := by decide +kernel
theorem dX5_makeWhole_21 : decode cX5_makeWhole 21 = .ok (.return_, 1) := by decide +kernel
theorem dX5_next_0 : decode cX5_next 0 = .ok (.aload_n 0, 1) := by decide +kernel
theorem dX5_next_1 : decode cX5_next 1 = .ok (.getfield 39, 3) := by decide +kernel
theorem dX5_next_4 : decode cX5_next 4 = .ok (.aload_n 0, 1) := by decide +kernel
theorem dX5_next_5 : decode cX5_next 5 = .ok (.getfield 9, 3) := by decide +kernel
theorem dX5_next_8 : decode cX5_next 8 = .ok (.if_icmp .ge 15, 3) := by decide +kernel
theorem dX5_next_11 : decode cX5_next 11 = .ok (.aload_n 0, 1) := by decide +kernel
theorem dX5_next_12 : decode cX5_next 12 = .ok (.getfield 30, 3) := by decide +kernel
theorem dX5_next_15 : decode cX5_next 15 = .ok (.aload_n 0, 1) := by decide +kernel
theorem dX5_next_16 : decode cX5_next 16 = .ok (.getfield 39, 3) := by decide +kernel
theorem dX5_next_19 : decode cX5_next 19 = .ok (.iaload, 1) := by decide +kernel
theorem dX5_next_20 : decode cX5_next 20 = .ok (.goto 5, 3) := by decide +kernel
theorem dX5_next_23 : decode cX5_next 23 = .ok (.bipush (-5), 2) := by decide +kernel
theorem dX5_next_25 : decode cX5_next 25 = .ok (.ireturn, 1) := by decide +kernel
theorem dX5_orderWith_0 : decode cX5_orderWith 0 = .ok (.iconst 0, 1) := by decide +kernel
theorem dX5_orderWith_1 : decode cX5_orderWith 1 = .ok (.istore 4, 2) := by decide +kernel
theorem dX5_orderWith_3 : decode cX5_orderWith 3 = .ok (.iconst 0, 1) := by decide +kernel
theorem dX5_orderWith_4 : decode cX5_orderWith 4 = .ok (.istore 5, 2) := by decide +kernel
theorem dX5_orderWith_6 : decode cX5_orderWith 6 = .ok (.iload 5, 2) := by decide +kernel
theorem dX5_orderWith_8 : decode cX5_orderWith 8 = .ok (.aload_n 0, 1) := by decide +kernel
theorem dX5_orderWith_9 : decode cX5_orderWith 9 = .ok (.getfield 9, 3) := by decide +kernel
theorem dX5_orderWith_12 : decode cX5_orderWith 12 = .ok (.if_icmp .ge 69, 3) := by decide +kernel
theorem dX5_orderWith_15 : decode cX5_orderWith 15 = .ok (.iload 5, 2) := by decide +kernel
theorem dX5_orderWith_17 : decode cX5_orderWith 17 = .ok (.iload_n 2, 1) := by decide +kernel
theorem dX5_orderWith_18 : decode cX5_orderWith 18 = .ok (.if_icmp .ne 11, 3) := by decide +kernel
theorem dX5_orderWith_21 : decode cX5_orderWith 21 = .ok (.aload_n 3, 1) := by decide +kernel
theorem dX5_orderWith_22 : decode cX5_orderWith 22 = .ok (.iload 5, 2) := by decide +kernel
theorem dX5_orderWith_24 : decode cX5_orderWith 24 = .ok (.iload_n 1, 1) := by decide +kernel
theorem dX5_orderWith_25 : decode cX5_orderWith 25 = .ok (.iastore, 1) := by decide +kernel
theorem dX5_orderWith_26 : decode cX5_orderWith 26 = .ok (.goto 49, 3) := by decide +kernel
theorem dX5_orderWith_29 : decode cX5_orderWith 29 = .ok (.iload 4, 2) := by decide +kernel
theorem dX5_orderWith_31 : decode cX5_orderWith 31 = .ok (.aload_n 0, 1) := by decide +kernel
theorem dX5_orderWith_32 : decode cX5_orderWith 32 = .ok (.getfield 9, 3) := by decide +kernel
theorem dX5_orderWith_35 : decode cX5_orderWith 35 = .ok (.if_icmp .ge 17, 3) := by decide +kernel
theorem dX5_orderWith_38 : decode cX5_orderWith 38 = .ok (.aload_n 0, 1) := by decide +kernel
theorem dX5_orderWith_39 : decode cX5_orderWith 39 = .ok (.getfield 30, 3) := by decide +kernel
theorem dX5_orderWith_42 : decode cX5_orderWith 42 = .ok (.iload 4, 2) := by decide +kernel
theorem dX5_orderWith_44 : decode cX5_orderWith 44 = .ok (.iaload, 1) := by decide +kernel
theorem dX5_orderWith_45 : decode cX5_orderWith 45 = .ok (.iload_n 1, 1) := by decide +kernel
theorem dX5_orderWith_46 : decode cX5_orderWith 46 = .ok (.if_icmp .ne 6, 3) := by decide +kernel
theorem dX5_orderWith_49 : decode cX5_orderWith 49 = .ok (.iinc 4 1, 3) := by decide +kernel
theorem dX5_orderWith_52 : decode cX5_orderWith 52 = .ok (.iload 4, 2) := by decide +kernel
theorem dX5_orderWith_54 : decode cX5_orderWith 54 = .ok (.aload_n 0, 1) := by decide +kernel
theorem dX5_orderWith_55 : decode cX5_orderWith 55 = .ok (.getfield 9, 3) := by decide +kernel
theorem dX5_orderWith_58 : decode cX5_orderWith 58 = .ok (.if_icmp .ge 17, 3) := by decide +kernel
theorem dX5_orderWith_61 : decode cX5_orderWith 61 = .ok (.aload_n 3, 1) := by decide +kernel
theorem dX5_orderWith_62 : decode cX5_orderWith 62 = .ok (.iload 5, 2) := by decide +kernel
theorem dX5_orderWith_64 : decode cX5_orderWith 64 = .ok (.aload_n 0, 1) := by decide +kernel
theorem dX5_orderWith_65 : decode cX5_orderWith 65 = .ok (.getfield 30, 3) := by decide +kernel
theorem dX5_orderWith_68 : decode cX5_orderWith 68 = .ok (.iload 4, 2) := by decide +kernel
theorem dX5_orderWith_70 : decode cX5_orderWith 70 = .ok (.iaload, 1) := by decide +kernel
theorem dX5_orderWith_71 : decode cX5_orderWith 71 = .ok (.iastore, 1) := by decide +kernel
theorem dX5_orderWith_72 : decode cX5_orderWith 72 = .ok (.iinc 4 1, 3) := by decide +kernel
theorem dX5_orderWith_75 : decode cX5_orderWith 75 = .ok (.iinc 5 1, 3) := by decide +kernel
theorem dX5_orderWith_78 : decode cX5_orderWith 78 = .ok (.goto (-72), 3) := by decide +kernel
theorem dX5_orderWith_81 : decode cX5_orderWith 81 = .ok (.return_, 1) := by decide +kernel
theorem dX5_placeOf_0 : decode cX5_placeOf 0 = .ok (.iconst 0, 1) := by decide +kernel
theorem dX5_placeOf_1 : decode cX5_placeOf 1 = .ok (.istore_n 2, 1) := by decide +kernel
theorem dX5_placeOf_2 : decode cX5_placeOf 2 = .ok (.iload_n 2, 1) := by decide +kernel
theorem dX5_placeOf_3 : decode cX5_placeOf 3 = .ok (.aload_n 0, 1) := by decide +kernel
theorem dX5_placeOf_4 : decode cX5_placeOf 4 = .ok (.getfield 9, 3) := by decide +kernel
theorem dX5_placeOf_7 : decode cX5_placeOf 7 = .ok (.iconst 1, 1) := by decide +kernel
theorem dX5_placeOf_8 : decode cX5_placeOf 8 = .ok (.isub, 1) := by decide +kernel
theorem dX5_placeOf_9 : decode cX5_placeOf 9 = .ok (.if_icmp .ge 19, 3) := by decide +kernel
theorem dX5_placeOf_12 : decode cX5_placeOf 12 = .ok (.aload_n 0, 1) := by decide +kernel
theorem dX5_placeOf_13 : decode cX5_placeOf 13 = .ok (.getfield 30, 3) := by decide +kernel
theorem dX5_placeOf_16 : decode cX5_placeOf 16 = .ok (.iload_n 2, 1) := by decide +kernel
theorem dX5_placeOf_17 : decode cX5_placeOf 17 = .ok (.iaload, 1) := by decide +kernel
theorem dX5_placeOf_18 : decode cX5_placeOf 18 = .ok (.iload_n 1, 1) := by decide +kernel
theorem dX5_placeOf_19 : decode cX5_placeOf 19 = .ok (.if_icmp .eq 9, 3) := by decide +kernel
theorem dX5_placeOf_22 : decode cX5_placeOf 22 = .ok (.iinc 2 1, 3) := by decide +kernel
theorem dX5_placeOf_25 : decode cX5_placeOf 25 = .ok (.goto (-23), 3) := by decide +kernel
theorem dX5_placeOf_28 : decode cX5_placeOf 28 = .ok (.iload_n 2, 1) := by decide +kernel
theorem dX5_placeOf_29 : decode cX5_placeOf 29 = .ok (.ireturn, 1) := by decide +kernel
theorem dX5_pull_0 : decode cX5_pull 0 = .ok (.aload_n 0, 1) := by decide +kernel
theorem dX5_pull_1 : decode cX5_pull 1 = .ok (.getfield 15, 3) := by decide +kernel
theorem dX5_pull_4 : decode cX5_pull 4 = .ok (.iload_n 1, 1) := by decide +kernel
theorem dX5_pull_5 : decode cX5_pull 5 = .ok (.iaload, 1) := by decide +kernel
theorem dX5_pull_6 : decode cX5_pull 6 = .ok (.istore 5, 2) := by decide +kernel
theorem dX5_pull_8 : decode cX5_pull 8 = .ok (.iload 5, 2) := by decide +kernel
theorem dX5_pull_10 : decode cX5_pull 10 = .ok (.iconst 3, 1) := by decide +kernel
theorem dX5_pull_11 : decode cX5_pull 11 = .ok (.if_icmp .ne 6, 3) := by decide +kernel
theorem dX5_pull_14 : decode cX5_pull 14 = .ok (.bipush 10, 2) := by decide +kernel
theorem dX5_pull_16 : decode cX5_pull 16 = .ok (.ireturn, 1) := by decide +kernel
theorem dX5_pull_17 : decode cX5_pull 17 = .ok (.iload 5, 2) := by decide +kernel
theorem dX5_pull_19 : decode cX5_pull 19 = .ok (.bipush 6, 2) := by decide +kernel
theorem dX5_pull_21 : decode cX5_pull 21 = .ok (.if_icmp .ne 21, 3) := by decide +kernel
theorem dX5_pull_24 : decode cX5_pull 24 = .ok (.iconst 2, 1) := by decide +kernel
theorem dX5_pull_25 : decode cX5_pull 25 = .ok (.aload_n 0, 1) := by decide +kernel
theorem dX5_pull_26 : decode cX5_pull 26 = .ok (.getfield 27, 3) := by decide +kernel
theorem dX5_pull_29 : decode cX5_pull 29 = .ok (.iload_n 1, 1) := by decide +kernel
theorem dX5_pull_30 : decode cX5_pull 30 = .ok (.aaload, 1) := by decide +kernel
theorem dX5_pull_31 : decode cX5_pull 31 = .ok (.aload_n 0, 1) := by decide +kernel
theorem dX5_pull_32 : decode cX5_pull 32 = .ok (.getfield 22, 3) := by decide +kernel
theorem dX5_pull_35 : decode cX5_pull 35 = .ok (.iload_n 1, 1) := by decide +kernel
theorem dX5_pull_36 : decode cX5_pull 36 = .ok (.iaload, 1) := by decide +kernel
theorem dX5_pull_37 : decode cX5_pull 37 = .ok (.iconst 4, 1) := by decide +kernel
theorem dX5_pull_38 : decode cX5_pull 38 = .ok (.irem, 1) := by decide +kernel
theorem dX5_pull_39 : decode cX5_pull 39 = .ok (.iaload, 1) := by decide +kernel
theorem dX5_pull_40 : decode cX5_pull 40 = .ok (.imul, 1) := by decide +kernel
theorem dX5_pull_41 : decode cX5_pull 41 = .ok (.ireturn, 1) := by decide +kernel
theorem dX5_pull_42 : decode cX5_pull 42 = .ok (.iload 5, 2) := by decide +kernel
theorem dX5_pull_44 : decode cX5_pull 44 = .ok (.iconst 4, 1) := by decide +kernel
theorem dX5_pull_45 : decode cX5_pull 45 = .ok (.if_icmp .ne 11, 3) := by decide +kernel
theorem dX5_pull_48 : decode cX5_pull 48 = .ok (.iload 4, 2) := by decide +kernel
theorem dX5_pull_50 : decode cX5_pull 50 = .ok (.iload_n 3, 1) := by decide +kernel
theorem dX5_pull_51 : decode cX5_pull 51 = .ok (.if_icmp .lt 5, 3) := by decide +kernel
theorem dX5_pull_54 : decode cX5_pull 54 = .ok (.iconst 0, 1) := by decide +kernel
theorem dX5_pull_55 : decode cX5_pull 55 = .ok (.ireturn, 1) := by decide +kernel
theorem dX5_pull_56 : decode cX5_pull 56 = .ok (.aload_n 0, 1) := by decide +kernel
theorem dX5_pull_57 : decode cX5_pull 57 = .ok (.getfield 67, 3) := by decide +kernel
theorem dX5_pull_60 : decode cX5_pull 60 = .ok (.iconst 0, 1) := by decide +kernel
theorem dX5_pull_61 : decode cX5_pull 61 = .ok (.iload_n 1, 1) := by decide +kernel
theorem dX5_pull_62 : decode cX5_pull 62 = .ok (.iastore, 1) := by decide +kernel
theorem dX5_pull_63 : decode cX5_pull 63 = .ok (.aload_n 0, 1) := by decide +kernel
theorem dX5_pull_64 : decode cX5_pull 64 = .ok (.getfield 67, 3) := by decide +kernel
theorem dX5_pull_67 : decode cX5_pull 67 = .ok (.iconst 1, 1) := by decide +kernel
theorem dX5_pull_68 : decode cX5_pull 68 = .ok (.iload 5, 2) := by decide +kernel
theorem dX5_pull_70 : decode cX5_pull 70 = .ok (.iastore, 1) := by decide +kernel
theorem dX5_pull_71 : decode cX5_pull 71 = .ok (.aload_n 0, 1) := by decide +kernel
theorem dX5_pull_72 : decode cX5_pull 72 = .ok (.getfield 67, 3) := by decide +kernel
theorem dX5_pull_75 : decode cX5_pull 75 = .ok (.iconst 2, 1) := by decide +kernel
theorem dX5_pull_76 : decode cX5_pull 76 = .ok (.aload_n 0, 1) := by decide +kernel
theorem dX5_pull_77 : decode cX5_pull 77 = .ok (.getfield 22, 3) := by decide +kernel
theorem dX5_pull_80 : decode cX5_pull 80 = .ok (.iload_n 1, 1) := by decide +kernel
theorem dX5_pull_81 : decode cX5_pull 81 = .ok (.iaload, 1) := by decide +kernel
theorem dX5_pull_82 : decode cX5_pull 82 = .ok (.bipush 10, 2) := by decide +kernel
theorem dX5_pull_84 : decode cX5_pull 84 = .ok (.irem, 1) := by decide +kernel
theorem dX5_pull_85 : decode cX5_pull 85 = .ok (.iastore, 1) := by decide +kernel
theorem dX5_pull_86 : decode cX5_pull 86 = .ok (.aload_n 0, 1) := by decide +kernel
theorem dX5_pull_87 : decode cX5_pull 87 = .ok (.getfield 67, 3) := by decide +kernel
theorem dX5_pull_90 : decode cX5_pull 90 = .ok (.iconst 3, 1) := by decide +kernel
theorem dX5_pull_91 : decode cX5_pull 91 = .ok (.iload_n 3, 1) := by decide +kernel
theorem dX5_pull_92 : decode cX5_pull 92 = .ok (.iastore, 1) := by decide +kernel
theorem dX5_pull_93 : decode cX5_pull 93 = .ok (.aload_n 0, 1) := by decide +kernel
theorem dX5_pull_94 : decode cX5_pull 94 = .ok (.getfield 67, 3) := by decide +kernel
theorem dX5_pull_97 : decode cX5_pull 97 = .ok (.iconst 4, 1) := by decide +kernel
theorem dX5_pull_98 : decode cX5_pull 98 = .ok (.iload 4, 2) := by decide +kernel
theorem dX5_pull_100 : decode cX5_pull 100 = .ok (.iastore, 1) := by decide +kernel
theorem dX5_pull_101 : decode cX5_pull 101 = .ok (.aload_n 0, 1) := by decide +kernel
theorem dX5_pull_102 : decode cX5_pull 102 = .ok (.getfield 67, 3) := by decide +kernel
theorem dX5_pull_105 : decode cX5_pull 105 = .ok (.iconst 5, 1) := by decide +kernel
theorem dX5_pull_106 : decode cX5_pull 106 = .ok (.iload_n 2, 1) := by decide +kernel
theorem dX5_pull_107 : decode cX5_pull 107 = .ok (.iastore, 1) := by decide +kernel
theorem dX5_pull_108 : decode cX5_pull 108 = .ok (.aload_n 0, 1) := by decide +kernel
theorem dX5_pull_109 : decode cX5_pull 109 = .ok (.getfield 63, 3) := by decide +kernel
theorem dX5_pull_112 : decode cX5_pull 112 = .ok (.aload_n 0, 1) := by decide +kernel
theorem dX5_pull_113 : decode cX5_pull 113 = .ok (.getfield 67, 3) := by decide +kernel
theorem dX5_pull_116 : decode cX5_pull 116 = .ok (.invokevirtual 115, 3) := by decide +kernel
theorem dX5_pull_119 : decode cX5_pull 119 = .ok (.istore 6, 2) := by decide +kernel
theorem dX5_pull_121 : decode cX5_pull 121 = .ok (.iload 5, 2) := by decide +kernel
theorem dX5_pull_123 : decode cX5_pull 123 = .ok (.tableswitch 69 1 5 #[33, 47, 69, 33, 57], 33) := by decide +kernel
theorem dX5_pull_156 : decode cX5_pull 156 = .ok (.iconst 0, 1) := by decide +kernel
theorem dX5_pull_157 : decode cX5_pull 157 = .ok (.iload 6, 2) := by decide +kernel
theorem dX5_pull_159 : decode cX5_pull 159 = .ok (.aload_n 0, 1) := by decide +kernel
theorem dX5_pull_160 : decode cX5_pull 160 = .ok (.getfield 19, 3) := by decide +kernel
theorem dX5_pull_163 : decode cX5_pull 163 = .ok (.iload_n 1, 1) := by decide +kernel
theorem dX5_pull_164 : decode cX5_pull 164 = .ok (.iaload, 1) := by decide +kernel
theorem dX5_pull_165 : decode cX5_pull 165 = .ok (.isub, 1) := by decide +kernel
theorem dX5_pull_166 : decode cX5_pull 166 = .ok (.invokestatic 89, 3) := by decide +kernel
theorem dX5_pull_169 : decode cX5_pull 169 = .ok (.ireturn, 1) := by decide +kernel
theorem dX5_pull_170 : decode cX5_pull 170 = .ok (.iload 6, 2) := by decide +kernel
