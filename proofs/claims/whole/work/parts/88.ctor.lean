set_option maxRecDepth 100000 in
theorem ik_X1_init_16 : KS eX true 1 1 0 YX1_init zs_11 rr_19 mm_18 [.ref 16] (some (zs_12, rr_21, mm_21)) := by
  refine KS_of pn_X1 (fun _ => (Nat.le_of_ble_eq_true rfl)) ?_
  change S _ _ _ _ _ _ _ _ _ _ [(0, .ref 16)] [] _
  refine o_aload_n (pc := 0) 0 dX1_init_0 rfl rfl ?_
  refine o_objInit (pc := 1) dX1_init_1 k_109 k_94 k_95 (Nat.le_of_ble_eq_true rfl) (Nat.le_of_ble_eq_true rfl) ?_
  refine o_aload_n (pc := 4) 0 dX1_init_4 rfl rfl ?_
  refine o_iconst (pc := 5) dX1_init_5 lc_1 ?_
  refine o_putIF (pc := 6) (ci := 1) (j := 0) (nn := 0) dX1_init_6 rfl rfl (Nat.le_of_ble_eq_true rfl) k_110 rfl rfl rfl rfl rfl rfl rfl ?_
  change S _ _ _ _ _ _ zs_11 rr_19 mm_19 _ _ _ _
  refine o_aload_n (pc := 9) 0 dX1_init_9 rfl rfl ?_
  refine o_iconst (pc := 10) dX1_init_10 lc_0 ?_
  refine o_putIF (pc := 11) (ci := 1) (j := 1) (nn := 0) dX1_init_11 rfl rfl (Nat.le_of_ble_eq_true rfl) k_112 rfl rfl rfl rfl rfl rfl rfl ?_
  change S _ _ _ _ _ _ zs_11 rr_19 mm_20 _ _ _ _
  refine o_aload_n (pc := 14) 0 dX1_init_14 rfl rfl ?_
  refine o_iconst (pc := 15) dX1_init_15 lc_0 ?_
  refine x_newI 0 0 (pc := 16) (L := 17) (N := 0) (sh' := zs_12) rfl rfl dX1_init_16 k_122 (by decide) rfl (by decide) rk_19 (by decide) (okv_l (by decide)) (okv_s (by decide)) (Nat.le_of_ble_eq_true rfl) (Nat.le_of_ble_eq_true rfl) ?_
  change S _ _ _ _ _ _ zs_12 rr_20 mm_21 _ _ _ _
  refine o_putRF (pc := 18) (r := some 17) (ci := 1) (j := 2) (nn := 0) dX1_init_18 rfl rfl (Nat.le_of_ble_eq_true rfl) k_114 rfl rfl rfl rfl rfl (fun a => by cases a <;> rfl) ?_
  change S _ _ _ _ _ _ zs_12 rr_21 mm_21 _ _ _ _
  exact o_vret (pc := 21) dX1_init_21 rfl rfl
set_option maxRecDepth 100000 in
theorem ik_X5_init_1 : KS eX true 2 17 83 YX5_init zs_2 rr_2 mm_2 [.ref 1] (some (zs_13, rr_24, mm_22)) := by
  refine KS_of pn_X5 (fun _ => (Nat.le_of_ble_eq_true rfl)) ?_
  change S _ _ _ _ _ _ _ _ _ _ [(0, .ref 1)] [] _
  refine o_aload_n (pc := 0) 0 dX5_init_0 rfl rfl ?_
  refine o_objInit (pc := 1) dX5_init_1 k_101 k_94 k_95 (Nat.le_of_ble_eq_true rfl) (Nat.le_of_ble_eq_true rfl) ?_
  refine o_aload_n (pc := 4) 0 dX5_init_4 rfl rfl ?_
  refine o_iconst (pc := 5) dX5_init_5 lc_0 ?_
  refine o_putI (pc := 6) (ci := 5) (j := 0) (nn := 0) dX5_init_6 rfl rfl (Nat.le_of_ble_eq_true rfl) k_123 rfl rfl rfl rfl rfl ?_
  change S _ _ _ _ _ _ zs_2 rr_2 mm_3 _ _ _ _
  refine o_aload_n (pc := 9) 0 dX5_init_9 rfl rfl ?_
  refine o_bipush (pc := 10) dX5_init_10 lb_6 ?_
  refine x_newI 16 77 (pc := 12) (L := 2) (N := 6) (sh' := zs_3) rfl rfl dX5_init_12 k_122 (by decide) rfl (by decide) rk_2 (by decide) (okv_l (by decide)) (okv_s (by decide)) (Nat.le_of_ble_eq_true rfl) (Nat.le_of_ble_eq_true rfl) ?_
  change S _ _ _ _ _ _ zs_3 rr_3 mm_4 _ _ _ _
  refine o_putRF (pc := 14) (r := some 2) (ci := 5) (j := 1) (nn := 0) dX5_init_14 rfl rfl (Nat.le_of_ble_eq_true rfl) k_126 rfl rfl rfl rfl rfl (fun a => by cases a <;> rfl) ?_
  change S _ _ _ _ _ _ zs_3 rr_4 mm_4 _ _ _ _
  refine o_aload_n (pc := 17) 0 dX5_init_17 rfl rfl ?_
  refine o_bipush (pc := 18) dX5_init_18 lb_6 ?_
  refine x_newI 15 71 (pc := 20) (L := 3) (N := 6) (sh' := zs_4) rfl rfl dX5_init_20 k_122 (by decide) rfl (by decide) rk_4 (by decide) (okv_l (by decide)) (okv_s (by decide)) (Nat.le_of_ble_eq_true rfl) (Nat.le_of_ble_eq_true rfl) ?_
  change S _ _ _ _ _ _ zs_4 rr_5 mm_5 _ _ _ _
  refine o_putRF (pc := 22) (r := some 3) (ci := 5) (j := 2) (nn := 0) dX5_init_22 rfl rfl (Nat.le_of_ble_eq_true rfl) k_128 rfl rfl rfl rfl rfl (fun a => by cases a <;> rfl) ?_
  change S _ _ _ _ _ _ zs_4 rr_6 mm_5 _ _ _ _
  refine o_aload_n (pc := 25) 0 dX5_init_25 rfl rfl ?_
  refine o_bipush (pc := 26) dX5_init_26 lb_6 ?_
  refine x_newI 14 65 (pc := 28) (L := 4) (N := 6) (sh' := zs_5) rfl rfl dX5_init_28 k_122 (by decide) rfl (by decide) rk_6 (by decide) (okv_l (by decide)) (okv_s (by decide)) (Nat.le_of_ble_eq_true rfl) (Nat.le_of_ble_eq_true rfl) ?_
  change S _ _ _ _ _ _ zs_5 rr_7 mm_6 _ _ _ _
  refine o_putRF (pc := 30) (r := some 4) (ci := 5) (j := 3) (nn := 0) dX5_init_30 rfl rfl (Nat.le_of_ble_eq_true rfl) k_130 rfl rfl rfl rfl rfl (fun a => by cases a <;> rfl) ?_
  change S _ _ _ _ _ _ zs_5 rr_8 mm_6 _ _ _ _
  refine o_aload_n (pc := 33) 0 dX5_init_33 rfl rfl ?_
  refine o_bipush (pc := 34) dX5_init_34 lb_6 ?_
  refine o_iconst (pc := 36) dX5_init_36 lc_4 ?_
  refine x_mna 7 35 (pc := 37) (L := 5) (qq := 11) (sh' := zs_6) rfl rfl rfl dX5_init_37 k_102 k_122 rk_8 (by decide) (okv_l (by decide)) (okv_s (by decide)) (Nat.le_of_ble_eq_true rfl) (Nat.le_of_ble_eq_true rfl) ?_
  change S _ _ _ _ _ _ zs_6 rr_9 mm_7 _ _ _ _
  refine o_putRF (pc := 41) (r := some 11) (ci := 5) (j := 4) (nn := 0) dX5_init_41 rfl rfl (Nat.le_of_ble_eq_true rfl) k_132 rfl rfl rfl rfl rfl (fun a => by cases a <;> rfl) ?_
  change S _ _ _ _ _ _ zs_6 rr_10 mm_7 _ _ _ _
  refine o_aload_n (pc := 44) 0 dX5_init_44 rfl rfl ?_
  refine o_bipush (pc := 45) dX5_init_45 lb_6 ?_
  refine x_newI 6 29 (pc := 47) (L := 12) (N := 6) (sh' := zs_7) rfl rfl dX5_init_47 k_122 (by decide) rfl (by decide) rk_10 (by decide) (okv_l (by decide)) (okv_s (by decide)) (Nat.le_of_ble_eq_true rfl) (Nat.le_of_ble_eq_true rfl) ?_
  change S _ _ _ _ _ _ zs_7 rr_11 mm_8 _ _ _ _
  refine o_putRF (pc := 49) (r := some 12) (ci := 5) (j := 5) (nn := 0) dX5_init_49 rfl rfl (Nat.le_of_ble_eq_true rfl) k_134 rfl rfl rfl rfl rfl (fun a => by cases a <;> rfl) ?_
  change S _ _ _ _ _ _ zs_7 rr_12 mm_8 _ _ _ _
  refine o_aload_n (pc := 52) 0 dX5_init_52 rfl rfl ?_
  refine o_iconst (pc := 53) dX5_init_53 lc_1 ?_
  refine o_putI (pc := 54) (ci := 5) (j := 6) (nn := 0) dX5_init_54 rfl rfl (Nat.le_of_ble_eq_true rfl) k_136 rfl rfl rfl rfl rfl ?_
  change S _ _ _ _ _ _ zs_7 rr_12 mm_9 _ _ _ _
  refine o_aload_n (pc := 57) 0 dX5_init_57 rfl rfl ?_
  refine o_iconst (pc := 58) dX5_init_58 lc_0 ?_
  refine o_putI (pc := 59) (ci := 5) (j := 7) (nn := 0) dX5_init_59 rfl rfl (Nat.le_of_ble_eq_true rfl) k_138 rfl rfl rfl rfl rfl ?_
  change S _ _ _ _ _ _ zs_7 rr_12 mm_10 _ _ _ _
  refine o_aload_n (pc := 62) 0 dX5_init_62 rfl rfl ?_
  refine o_iconst (pc := 63) dX5_init_63 lc_0 ?_
  refine o_putI (pc := 64) (ci := 5) (j := 8) (nn := 0) dX5_init_64 rfl rfl (Nat.le_of_ble_eq_true rfl) k_140 rfl rfl rfl rfl rfl ?_
  change S _ _ _ _ _ _ zs_7 rr_12 mm_11 _ _ _ _
  refine o_aload_n (pc := 67) 0 dX5_init_67 rfl rfl ?_
  refine o_iconst (pc := 68) dX5_init_68 lc_0 ?_
  refine o_putI (pc := 69) (ci := 5) (j := 9) (nn := 0) dX5_init_69 rfl rfl (Nat.le_of_ble_eq_true rfl) k_142 rfl rfl rfl rfl rfl ?_
  change S _ _ _ _ _ _ zs_7 rr_12 mm_12 _ _ _ _
  refine o_aload_n (pc := 72) 0 dX5_init_72 rfl rfl ?_
  refine o_iconst (pc := 73) dX5_init_73 lc_0 ?_
  refine o_putI (pc := 74) (ci := 5) (j := 10) (nn := 0) dX5_init_74 rfl rfl (Nat.le_of_ble_eq_true rfl) k_144 rfl rfl rfl rfl rfl ?_
  change S _ _ _ _ _ _ zs_7 rr_12 mm_13 _ _ _ _
  refine o_aload_n (pc := 77) 0 dX5_init_77 rfl rfl ?_
  refine o_bipush (pc := 78) dX5_init_78 lb_6 ?_
  refine x_newI 5 23 (pc := 80) (L := 13) (N := 6) (sh' := zs_8) rfl rfl dX5_init_80 k_122 (by decide) rfl (by decide) rk_12 (by decide) (okv_l (by decide)) (okv_s (by decide)) (Nat.le_of_ble_eq_true rfl) (Nat.le_of_ble_eq_true rfl) ?_
  change S _ _ _ _ _ _ zs_8 rr_13 mm_14 _ _ _ _
  refine o_putRF (pc := 82) (r := some 13) (ci := 5) (j := 11) (nn := 0) dX5_init_82 rfl rfl (Nat.le_of_ble_eq_true rfl) k_146 rfl rfl rfl rfl rfl (fun a => by cases a <;> rfl) ?_
  change S _ _ _ _ _ _ zs_8 rr_14 mm_14 _ _ _ _
  refine o_aload_n (pc := 85) 0 dX5_init_85 rfl rfl ?_
  refine o_bipush (pc := 86) dX5_init_86 lb_6 ?_
  refine x_newI 4 17 (pc := 88) (L := 14) (N := 6) (sh' := zs_9) rfl rfl dX5_init_88 k_122 (by decide) rfl (by decide) rk_14 (by decide) (okv_l (by decide)) (okv_s (by decide)) (Nat.le_of_ble_eq_true rfl) (Nat.le_of_ble_eq_true rfl) ?_
  change S _ _ _ _ _ _ zs_9 rr_15 mm_15 _ _ _ _
  refine o_putRF (pc := 90) (r := some 14) (ci := 5) (j := 12) (nn := 0) dX5_init_90 rfl rfl (Nat.le_of_ble_eq_true rfl) k_148 rfl rfl rfl rfl rfl (fun a => by cases a <;> rfl) ?_
  change S _ _ _ _ _ _ zs_9 rr_16 mm_15 _ _ _ _
  refine o_aload_n (pc := 93) 0 dX5_init_93 rfl rfl ?_
  refine o_iconst (pc := 94) dX5_init_94 lc_0 ?_
  refine o_putI (pc := 95) (ci := 5) (j := 13) (nn := 0) dX5_init_95 rfl rfl (Nat.le_of_ble_eq_true rfl) k_150 rfl rfl rfl rfl rfl ?_
  change S _ _ _ _ _ _ zs_9 rr_16 mm_16 _ _ _ _
  refine o_aload_n (pc := 98) 0 dX5_init_98 rfl rfl ?_
  refine o_bipush (pc := 99) dX5_init_99 lb_8 ?_
  refine x_newI 3 9 (pc := 101) (L := 15) (N := 8) (sh' := zs_10) rfl rfl dX5_init_101 k_122 (by decide) rfl (by decide) rk_16 (by decide) (okv_l (by decide)) (okv_s (by decide)) (Nat.le_of_ble_eq_true rfl) (Nat.le_of_ble_eq_true rfl) ?_
  change S _ _ _ _ _ _ zs_10 rr_17 mm_17 _ _ _ _
  refine o_putRF (pc := 103) (r := some 15) (ci := 5) (j := 14) (nn := 0) dX5_init_103 rfl rfl (Nat.le_of_ble_eq_true rfl) k_152 rfl rfl rfl rfl rfl (fun a => by cases a <;> rfl) ?_
  change S _ _ _ _ _ _ zs_10 rr_18 mm_17 _ _ _ _
  refine o_aload_n (pc := 106) 0 dX5_init_106 rfl rfl ?_
  refine x_new 2 6 (pc := 107) (ci := 1) (L := 16) (sh' := zs_11) rfl rfl dX5_init_107 rfl k_104 k_105 k_74 rk_18 (by decide) (okv_l (by decide)) (okv_s (by decide)) (Nat.le_of_ble_eq_true rfl) (Nat.le_of_ble_eq_true rfl) ?_
  change S _ _ _ _ _ _ zs_11 rr_19 mm_18 _ _ _ _
  refine o_dup (pc := 110) dX5_init_110 rfl ?_
  refine o_init (Y2 := YX1_init) (np := 0) (av := []) (rest := [.ref 16, .ref 1]) 1 6 (pc := 111) dX5_init_111 ik_X1_init_16 rfl rfl k_106 k_107 k_74 k_108 ⟨by decide +kernel, by decide +kernel, by decide +kernel⟩ rfl rfl (Nat.le_of_ble_eq_true rfl) (Nat.le_of_ble_eq_true rfl) (Nat.le_of_ble_eq_true rfl) (okv_l (by decide)) (okv_s (by decide)) (Nat.le_of_ble_eq_true rfl) (Nat.le_of_ble_eq_true rfl) ?_
  refine o_putR (pc := 114) (r := some 16) (ci := 5) (j := 15) (nn := 0) dX5_init_114 rfl rfl (Nat.le_of_ble_eq_true rfl) k_154 rfl rfl rfl (fun a => by cases a <;> rfl) ?_
  change S _ _ _ _ _ _ zs_12 rr_22 mm_21 _ _ _ _
  refine o_aload_n (pc := 117) 0 dX5_init_117 rfl rfl ?_
  refine o_bipush (pc := 118) dX5_init_118 lb_6 ?_
  refine x_newI 0 0 (pc := 120) (L := 18) (N := 6) (sh' := zs_13) rfl rfl dX5_init_120 k_122 (by decide) rfl (by decide) rk_22 (by decide) (okv_l (by decide)) (okv_s (by decide)) (Nat.le_of_ble_eq_true rfl) (Nat.le_of_ble_eq_true rfl) ?_
  change S _ _ _ _ _ _ zs_13 rr_23 mm_22 _ _ _ _
  refine o_putRF (pc := 122) (r := some 18) (ci := 5) (j := 16) (nn := 0) dX5_init_122 rfl rfl (Nat.le_of_ble_eq_true rfl) k_156 rfl rfl rfl rfl rfl (fun a => by cases a <;> rfl) ?_
  change S _ _ _ _ _ _ zs_13 rr_24 mm_22 _ _ _ _
  exact o_vret (pc := 125) dX5_init_125 rfl rfl
set_option maxRecDepth 100000 in
theorem ik_X1_init_34 : KS eX true 1 1 0 YX1_init zs_23 rr_43 mm_39 [.ref 34] (some (zs_24, rr_45, mm_42)) := by
  refine KS_of pn_X1 (fun _ => (Nat.le_of_ble_eq_true rfl)) ?_
  change S _ _ _ _ _ _ _ _ _ _ [(0, .ref 34)] [] _
  refine o_aload_n (pc := 0) 0 dX1_init_0 rfl rfl ?_
  refine o_objInit (pc := 1) dX1_init_1 k_109 k_94 k_95 (Nat.le_of_ble_eq_true rfl) (Nat.le_of_ble_eq_true rfl) ?_
  refine o_aload_n (pc := 4) 0 dX1_init_4 rfl rfl ?_
  refine o_iconst (pc := 5) dX1_init_5 lc_1 ?_
  refine o_putIF (pc := 6) (ci := 1) (j := 0) (nn := 0) dX1_init_6 rfl rfl (Nat.le_of_ble_eq_true rfl) k_110 rfl rfl rfl rfl rfl rfl rfl ?_
  change S _ _ _ _ _ _ zs_23 rr_43 mm_40 _ _ _ _
  refine o_aload_n (pc := 9) 0 dX1_init_9 rfl rfl ?_
  refine o_iconst (pc := 10) dX1_init_10 lc_0 ?_
  refine o_putIF (pc := 11) (ci := 1) (j := 1) (nn := 0) dX1_init_11 rfl rfl (Nat.le_of_ble_eq_true rfl) k_112 rfl rfl rfl rfl rfl rfl rfl ?_
  change S _ _ _ _ _ _ zs_23 rr_43 mm_41 _ _ _ _
  refine o_aload_n (pc := 14) 0 dX1_init_14 rfl rfl ?_
  refine o_iconst (pc := 15) dX1_init_15 lc_0 ?_
  refine x_newI 0 0 (pc := 16) (L := 35) (N := 0) (sh' := zs_24) rfl rfl dX1_init_16 k_122 (by decide) rfl (by decide) rk_43 (by decide) (okv_l (by decide)) (okv_s (by decide)) (Nat.le_of_ble_eq_true rfl) (Nat.le_of_ble_eq_true rfl) ?_
  change S _ _ _ _ _ _ zs_24 rr_44 mm_42 _ _ _ _
  refine o_putRF (pc := 18) (r := some 35) (ci := 1) (j := 2) (nn := 0) dX1_init_18 rfl rfl (Nat.le_of_ble_eq_true rfl) k_114 rfl rfl rfl rfl rfl (fun a => by cases a <;> rfl) ?_
  change S _ _ _ _ _ _ zs_24 rr_45 mm_42 _ _ _ _
  exact o_vret (pc := 21) dX1_init_21 rfl rfl
set_option maxRecDepth 100000 in
theorem ik_X5_init_19 : KS eX true 2 17 83 YX5_init zs_14 rr_26 mm_23 [.ref 19] (some (zs_25, rr_48, mm_43)) := by
  refine KS_of pn_X5 (fun _ => (Nat.le_of_ble_eq_true rfl)) ?_
  change S _ _ _ _ _ _ _ _ _ _ [(0, .ref 19)] [] _
  refine o_aload_n (pc := 0) 0 dX5_init_0 rfl rfl ?_
  refine o_objInit (pc := 1) dX5_init_1 k_101 k_94 k_95 (Nat.le_of_ble_eq_true rfl) (Nat.le_of_ble_eq_true rfl) ?_
  refine o_aload_n (pc := 4) 0 dX5_init_4 rfl rfl ?_
  refine o_iconst (pc := 5) dX5_init_5 lc_0 ?_
  refine o_putI (pc := 6) (ci := 5) (j := 0) (nn := 0) dX5_init_6 rfl rfl (Nat.le_of_ble_eq_true rfl) k_123 rfl rfl rfl rfl rfl ?_
  change S _ _ _ _ _ _ zs_14 rr_26 mm_24 _ _ _ _
  refine o_aload_n (pc := 9) 0 dX5_init_9 rfl rfl ?_
  refine o_bipush (pc := 10) dX5_init_10 lb_6 ?_
  refine x_newI 16 77 (pc := 12) (L := 20) (N := 6) (sh' := zs_15) rfl rfl dX5_init_12 k_122 (by decide) rfl (by decide) rk_26 (by decide) (okv_l (by decide)) (okv_s (by decide)) (Nat.le_of_ble_eq_true rfl) (Nat.le_of_ble_eq_true rfl) ?_
  change S _ _ _ _ _ _ zs_15 rr_27 mm_25 _ _ _ _
  refine o_putRF (pc := 14) (r := some 20) (ci := 5) (j := 1) (nn := 0) dX5_init_14 rfl rfl (Nat.le_of_ble_eq_true rfl) k_126 rfl rfl rfl rfl rfl (fun a => by cases a <;> rfl) ?_
  change S _ _ _ _ _ _ zs_15 rr_28 mm_25 _ _ _ _
  refine o_aload_n (pc := 17) 0 dX5_init_17 rfl rfl ?_
  refine o_bipush (pc := 18) dX5_init_18 lb_6 ?_
  refine x_newI 15 71 (pc := 20) (L := 21) (N := 6) (sh' := zs_16) rfl rfl dX5_init_20 k_122 (by decide) rfl (by decide) rk_28 (by decide) (okv_l (by decide)) (okv_s (by decide)) (Nat.le_of_ble_eq_true rfl) (Nat.le_of_ble_eq_true rfl) ?_
  change S _ _ _ _ _ _ zs_16 rr_29 mm_26 _ _ _ _
  refine o_putRF (pc := 22) (r := some 21) (ci := 5) (j := 2) (nn := 0) dX5_init_22 rfl rfl (Nat.le_of_ble_eq_true rfl) k_128 rfl rfl rfl rfl rfl (fun a => by cases a <;> rfl) ?_
  change S _ _ _ _ _ _ zs_16 rr_30 mm_26 _ _ _ _
  refine o_aload_n (pc := 25) 0 dX5_init_25 rfl rfl ?_
  refine o_bipush (pc := 26) dX5_init_26 lb_6 ?_
  refine x_newI 14 65 (pc := 28) (L := 22) (N := 6) (sh' := zs_17) rfl rfl dX5_init_28 k_122 (by decide) rfl (by decide) rk_30 (by decide) (okv_l (by decide)) (okv_s (by decide)) (Nat.le_of_ble_eq_true rfl) (Nat.le_of_ble_eq_true rfl) ?_
  change S _ _ _ _ _ _ zs_17 rr_31 mm_27 _ _ _ _
  refine o_putRF (pc := 30) (r := some 22) (ci := 5) (j := 3) (nn := 0) dX5_init_30 rfl rfl (Nat.le_of_ble_eq_true rfl) k_130 rfl rfl rfl rfl rfl (fun a => by cases a <;> rfl) ?_
  change S _ _ _ _ _ _ zs_17 rr_32 mm_27 _ _ _ _
  refine o_aload_n (pc := 33) 0 dX5_init_33 rfl rfl ?_
  refine o_bipush (pc := 34) dX5_init_34 lb_6 ?_
  refine o_iconst (pc := 36) dX5_init_36 lc_4 ?_
  refine x_mna 7 35 (pc := 37) (L := 23) (qq := 29) (sh' := zs_18) rfl rfl rfl dX5_init_37 k_102 k_122 rk_32 (by decide) (okv_l (by decide)) (okv_s (by decide)) (Nat.le_of_ble_eq_true rfl) (Nat.le_of_ble_eq_true rfl) ?_
  change S _ _ _ _ _ _ zs_18 rr_33 mm_28 _ _ _ _
  refine o_putRF (pc := 41) (r := some 29) (ci := 5) (j := 4) (nn := 0) dX5_init_41 rfl rfl (Nat.le_of_ble_eq_true rfl) k_132 rfl rfl rfl rfl rfl (fun a => by cases a <;> rfl) ?_
  change S _ _ _ _ _ _ zs_18 rr_34 mm_28 _ _ _ _
  refine o_aload_n (pc := 44) 0 dX5_init_44 rfl rfl ?_
  refine o_bipush (pc := 45) dX5_init_45 lb_6 ?_
  refine x_newI 6 29 (pc := 47) (L := 30) (N := 6) (sh' := zs_19) rfl rfl dX5_init_47 k_122 (by decide) rfl (by decide) rk_34 (by decide) (okv_l (by decide)) (okv_s (by decide)) (Nat.le_of_ble_eq_true rfl) (Nat.le_of_ble_eq_true rfl) ?_
  change S _ _ _ _ _ _ zs_19 rr_35 mm_29 _ _ _ _
  refine o_putRF (pc := 49) (r := some 30) (ci := 5) (j := 5) (nn := 0) dX5_init_49 rfl rfl (Nat.le_of_ble_eq_true rfl) k_134 rfl rfl rfl rfl rfl (fun a => by cases a <;> rfl) ?_
  change S _ _ _ _ _ _ zs_19 rr_36 mm_29 _ _ _ _
  refine o_aload_n (pc := 52) 0 dX5_init_52 rfl rfl ?_
  refine o_iconst (pc := 53) dX5_init_53 lc_1 ?_
  refine o_putI (pc := 54) (ci := 5) (j := 6) (nn := 0) dX5_init_54 rfl rfl (Nat.le_of_ble_eq_true rfl) k_136 rfl rfl rfl rfl rfl ?_
  change S _ _ _ _ _ _ zs_19 rr_36 mm_30 _ _ _ _
  refine o_aload_n (pc := 57) 0 dX5_init_57 rfl rfl ?_
  refine o_iconst (pc := 58) dX5_init_58 lc_0 ?_
  refine o_putI (pc := 59) (ci := 5) (j := 7) (nn := 0) dX5_init_59 rfl rfl (Nat.le_of_ble_eq_true rfl) k_138 rfl rfl rfl rfl rfl ?_
  change S _ _ _ _ _ _ zs_19 rr_36 mm_31 _ _ _ _
  refine o_aload_n (pc := 62) 0 dX5_init_62 rfl rfl ?_
  refine o_iconst (pc := 63) dX5_init_63 lc_0 ?_
  refine o_putI (pc := 64) (ci := 5) (j := 8) (nn := 0) dX5_init_64 rfl rfl (Nat.le_of_ble_eq_true rfl) k_140 rfl rfl rfl rfl rfl ?_
  change S _ _ _ _ _ _ zs_19 rr_36 mm_32 _ _ _ _
  refine o_aload_n (pc := 67) 0 dX5_init_67 rfl rfl ?_
  refine o_iconst (pc := 68) dX5_init_68 lc_0 ?_
  refine o_putI (pc := 69) (ci := 5) (j := 9) (nn := 0) dX5_init_69 rfl rfl (Nat.le_of_ble_eq_true rfl) k_142 rfl rfl rfl rfl rfl ?_
  change S _ _ _ _ _ _ zs_19 rr_36 mm_33 _ _ _ _
  refine o_aload_n (pc := 72) 0 dX5_init_72 rfl rfl ?_
  refine o_iconst (pc := 73) dX5_init_73 lc_0 ?_
  refine o_putI (pc := 74) (ci := 5) (j := 10) (nn := 0) dX5_init_74 rfl rfl (Nat.le_of_ble_eq_true rfl) k_144 rfl rfl rfl rfl rfl ?_
  change S _ _ _ _ _ _ zs_19 rr_36 mm_34 _ _ _ _
  refine o_aload_n (pc := 77) 0 dX5_init_77 rfl rfl ?_
  refine o_bipush (pc := 78) dX5_init_78 lb_6 ?_
  refine x_newI 5 23 (pc := 80) (L := 31) (N := 6) (sh' := zs_20) rfl rfl dX5_init_80 k_122 (by decide) rfl (by decide) rk_36 (by decide) (okv_l (by decide)) (okv_s (by decide)) (Nat.le_of_ble_eq_true rfl) (Nat.le_of_ble_eq_true rfl) ?_
  change S _ _ _ _ _ _ zs_20 rr_37 mm_35 _ _ _ _
  refine o_putRF (pc := 82) (r := some 31) (ci := 5) (j := 11) (nn := 0) dX5_init_82 rfl rfl (Nat.le_of_ble_eq_true rfl) k_146 rfl rfl rfl rfl rfl (fun a => by cases a <;> rfl) ?_
  change S _ _ _ _ _ _ zs_20 rr_38 mm_35 _ _ _ _
  refine o_aload_n (pc := 85) 0 dX5_init_85 rfl rfl ?_
  refine o_bipush (pc := 86) dX5_init_86 lb_6 ?_
  refine x_newI 4 17 (pc := 88) (L := 32) (N := 6) (sh' := zs_21) rfl rfl dX5_init_88 k_122 (by decide) rfl (by decide) rk_38 (by decide) (okv_l (by decide)) (okv_s (by decide)) (Nat.le_of_ble_eq_true rfl) (Nat.le_of_ble_eq_true rfl) ?_
  change S _ _ _ _ _ _ zs_21 rr_39 mm_36 _ _ _ _
  refine o_putRF (pc := 90) (r := some 32) (ci := 5) (j := 12) (nn := 0) dX5_init_90 rfl rfl (Nat.le_of_ble_eq_true rfl) k_148 rfl rfl rfl rfl rfl (fun a => by cases a <;> rfl) ?_
  change S _ _ _ _ _ _ zs_21 rr_40 mm_36 _ _ _ _
  refine o_aload_n (pc := 93) 0 dX5_init_93 rfl rfl ?_
  refine o_iconst (pc := 94) dX5_init_94 lc_0 ?_
  refine o_putI (pc := 95) (ci := 5) (j := 13) (nn := 0) dX5_init_95 rfl rfl (Nat.le_of_ble_eq_true rfl) k_150 rfl rfl rfl rfl rfl ?_
  change S _ _ _ _ _ _ zs_21 rr_40 mm_37 _ _ _ _
  refine o_aload_n (pc := 98) 0 dX5_init_98 rfl rfl ?_
  refine o_bipush (pc := 99) dX5_init_99 lb_8 ?_
  refine x_newI 3 9 (pc := 101) (L := 33) (N := 8) (sh' := zs_22) rfl rfl dX5_init_101 k_122 (by decide) rfl (by decide) rk_40 (by decide) (okv_l (by decide)) (okv_s (by decide)) (Nat.le_of_ble_eq_true rfl) (Nat.le_of_ble_eq_true rfl) ?_
  change S _ _ _ _ _ _ zs_22 rr_41 mm_38 _ _ _ _
  refine o_putRF (pc := 103) (r := some 33) (ci := 5) (j := 14) (nn := 0) dX5_init_103 rfl rfl (Nat.le_of_ble_eq_true rfl) k_152 rfl rfl rfl rfl rfl (fun a => by cases a <;> rfl) ?_
  change S _ _ _ _ _ _ zs_22 rr_42 mm_38 _ _ _ _
  refine o_aload_n (pc := 106) 0 dX5_init_106 rfl rfl ?_
  refine x_new 2 6 (pc := 107) (ci := 1) (L := 34) (sh' := zs_23) rfl rfl dX5_init_107 rfl k_104 k_105 k_74 rk_42 (by decide) (okv_l (by decide)) (okv_s (by decide)) (Nat.le_of_ble_eq_true rfl) (Nat.le_of_ble_eq_true rfl) ?_
  change S _ _ _ _ _ _ zs_23 rr_43 mm_39 _ _ _ _
  refine o_dup (pc := 110) dX5_init_110 rfl ?_
  refine o_init (Y2 := YX1_init) (np := 0) (av := []) (rest := [.ref 34, .ref 19]) 1 6 (pc := 111) dX5_init_111 ik_X1_init_34 rfl rfl k_106 k_107 k_74 k_108 ⟨by decide +kernel, by decide +kernel, by decide +kernel⟩ rfl rfl (Nat.le_of_ble_eq_true rfl) (Nat.le_of_ble_eq_true rfl) (Nat.le_of_ble_eq_true rfl) (okv_l (by decide)) (okv_s (by decide)) (Nat.le_of_ble_eq_true rfl) (Nat.le_of_ble_eq_true rfl) ?_
  refine o_putR (pc := 114) (r := some 34) (ci := 5) (j := 15) (nn := 0) dX5_init_114 rfl rfl (Nat.le_of_ble_eq_true rfl) k_154 rfl rfl rfl (fun a => by cases a <;> rfl) ?_
  change S _ _ _ _ _ _ zs_24 rr_46 mm_42 _ _ _ _
  refine o_aload_n (pc := 117) 0 dX5_init_117 rfl rfl ?_
  refine o_bipush (pc := 118) dX5_init_118 lb_6 ?_
  refine x_newI 0 0 (pc := 120) (L := 36) (N := 6) (sh' := zs_25) rfl rfl dX5_init_120 k_122 (by decide) rfl (by decide) rk_46 (by decide) (okv_l (by decide)) (okv_s (by decide)) (Nat.le_of_ble_eq_true rfl) (Nat.le_of_ble_eq_true rfl) ?_
  change S _ _ _ _ _ _ zs_25 rr_47 mm_43 _ _ _ _
  refine o_putRF (pc := 122) (r := some 36) (ci := 5) (j := 16) (nn := 0) dX5_init_122 rfl rfl (Nat.le_of_ble_eq_true rfl) k_156 rfl rfl rfl rfl rfl (fun a => by cases a <;> rfl) ?_
  change S _ _ _ _ _ _ zs_25 rr_48 mm_43 _ _ _ _
  exact o_vret (pc := 125) dX5_init_125 rfl rfl
set_option maxRecDepth 100000 in
theorem ik_X3_init_37 : KS eX true 1 3 154 YX3_init zs_26 rr_50 mm_45 [.ref 37, .ref 1] (some (zs_29, rr_57, mm_50)) := by
  refine KS_of pn_X3 (fun _ => (Nat.le_of_ble_eq_true rfl)) ?_
  change S _ _ _ _ _ _ _ _ _ _ [(0, .ref 37), (1, .ref 1)] [] _
  refine o_aload_n (pc := 0) 0 dX3_init_0 rfl rfl ?_
  refine o_objInit (pc := 1) dX3_init_1 k_197 k_94 k_95 (Nat.le_of_ble_eq_true rfl) (Nat.le_of_ble_eq_true rfl) ?_
  refine o_aload_n (pc := 4) 0 dX3_init_4 rfl rfl ?_
  refine o_bipush (pc := 5) dX3_init_5 lb_6 ?_
  refine x_newI 2 148 (pc := 7) (L := 38) (N := 6) (sh' := zs_27) rfl rfl dX3_init_7 k_122 (by decide) rfl (by decide) rk_50 (by decide) (okv_l (by decide)) (okv_s (by decide)) (Nat.le_of_ble_eq_true rfl) (Nat.le_of_ble_eq_true rfl) ?_
  change S _ _ _ _ _ _ zs_27 rr_51 mm_46 _ _ _ _
  refine o_putRF (pc := 9) (r := some 38) (ci := 3) (j := 0) (nn := 0) dX3_init_9 rfl rfl (Nat.le_of_ble_eq_true rfl) k_198 rfl rfl rfl rfl rfl (fun a => by cases a <;> rfl) ?_
  change S _ _ _ _ _ _ zs_27 rr_52 mm_46 _ _ _ _
  refine o_aload_n (pc := 12) 0 dX3_init_12 rfl rfl ?_
  refine o_iconst (pc := 13) dX3_init_13 lc_4 ?_
  refine x_newJ 1 144 (pc := 14) (L := 39) (N := 4) (sh' := zs_28) rfl rfl dX3_init_14 k_218 (by decide) rfl (by decide) rk_52 (by decide) (okv_l (by decide)) (okv_s (by decide)) (Nat.le_of_ble_eq_true rfl) (Nat.le_of_ble_eq_true rfl) ?_
  change S _ _ _ _ _ _ zs_28 rr_53 mm_47 _ _ _ _
  refine o_putRF (pc := 16) (r := some 39) (ci := 3) (j := 2) (nn := 0) dX3_init_16 rfl rfl (Nat.le_of_ble_eq_true rfl) k_201 rfl rfl rfl rfl rfl (fun a => by cases a <;> rfl) ?_
  change S _ _ _ _ _ _ zs_28 rr_54 mm_47 _ _ _ _
  refine o_aload_n (pc := 19) 0 dX3_init_19 rfl rfl ?_
  refine o_sipush (pc := 20) dX3_init_20 ls_144 ?_
  refine x_newI 0 0 (pc := 23) (L := 40) (N := 144) (sh' := zs_29) rfl rfl dX3_init_23 k_122 (by decide) rfl (by decide) rk_54 (by decide) (okv_l (by decide)) (okv_s (by decide)) (Nat.le_of_ble_eq_true rfl) (Nat.le_of_ble_eq_true rfl) ?_
  change S _ _ _ _ _ _ zs_29 rr_55 mm_48 _ _ _ _
  refine o_putRF (pc := 25) (r := some 40) (ci := 3) (j := 3) (nn := 0) dX3_init_25 rfl rfl (Nat.le_of_ble_eq_true rfl) k_202 rfl rfl rfl rfl rfl (fun a => by cases a <;> rfl) ?_
  change S _ _ _ _ _ _ zs_29 rr_56 mm_48 _ _ _ _
  refine o_aload_n (pc := 28) 0 dX3_init_28 rfl rfl ?_
  refine o_iconst (pc := 29) dX3_init_29 lc_0 ?_
  refine o_putI (pc := 30) (ci := 3) (j := 4) (nn := 0) dX3_init_30 rfl rfl (Nat.le_of_ble_eq_true rfl) k_203 rfl rfl rfl rfl rfl ?_
  change S _ _ _ _ _ _ zs_29 rr_56 mm_49 _ _ _ _
  refine o_aload_n (pc := 33) 0 dX3_init_33 rfl rfl ?_
  refine o_iconst (pc := 34) dX3_init_34 lc_0 ?_
  refine o_putI (pc := 35) (ci := 3) (j := 5) (nn := 0) dX3_init_35 rfl rfl (Nat.le_of_ble_eq_true rfl) k_204 rfl rfl rfl rfl rfl ?_
  change S _ _ _ _ _ _ zs_29 rr_56 mm_50 _ _ _ _
  refine o_aload_n (pc := 38) 0 dX3_init_38 rfl rfl ?_
  refine o_aload_n (pc := 39) 1 dX3_init_39 rfl rfl ?_
  refine o_putRF (pc := 40) (r := some 1) (ci := 3) (j := 1) (nn := 0) dX3_init_40 rfl rfl (Nat.le_of_ble_eq_true rfl) k_200 rfl rfl rfl rfl rfl (fun a => by cases a <;> rfl) ?_
  change S _ _ _ _ _ _ zs_29 rr_57 mm_50 _ _ _ _
  exact o_vret (pc := 43) dX3_init_43 rfl rfl
set_option maxRecDepth 100000 in
theorem ik_X2_init_43 : KS eX true 1 2 201 YX2_init zs_32 rr_63 mm_53 [.ref 43] (some (zs_34, rr_67, mm_60)) := by
  refine KS_of pn_X2 (fun _ => (Nat.le_of_ble_eq_true rfl)) ?_
  change S _ _ _ _ _ _ _ _ _ _ [(0, .ref 43)] [] _
  refine o_aload_n (pc := 0) 0 dX2_init_0 rfl rfl ?_
  refine o_objInit (pc := 1) dX2_init_1 k_224 k_94 k_95 (Nat.le_of_ble_eq_true rfl) (Nat.le_of_ble_eq_true rfl) ?_
  refine o_aload_n (pc := 4) 0 dX2_init_4 rfl rfl ?_
  refine o_iconst (pc := 5) dX2_init_5 lc_0 ?_
  refine o_putI (pc := 6) (ci := 2) (j := 0) (nn := 0) dX2_init_6 rfl rfl (Nat.le_of_ble_eq_true rfl) k_225 rfl rfl rfl rfl rfl ?_
  change S _ _ _ _ _ _ zs_32 rr_63 mm_54 _ _ _ _
  refine o_aload_n (pc := 9) 0 dX2_init_9 rfl rfl ?_
  refine o_iconst (pc := 10) dX2_init_10 lc_0 ?_
  refine o_putI (pc := 11) (ci := 2) (j := 1) (nn := 0) dX2_init_11 rfl rfl (Nat.le_of_ble_eq_true rfl) k_227 rfl rfl rfl rfl rfl ?_
  change S _ _ _ _ _ _ zs_32 rr_63 mm_55 _ _ _ _
  refine o_aload_n (pc := 14) 0 dX2_init_14 rfl rfl ?_
  refine o_bipush (pc := 15) dX2_init_15 lb_101 ?_
  refine x_newI 1 100 (pc := 17) (L := 44) (N := 101) (sh' := zs_33) rfl rfl dX2_init_17 k_122 (by decide) rfl (by decide) rk_63 (by decide) (okv_l (by decide)) (okv_s (by decide)) (Nat.le_of_ble_eq_true rfl) (Nat.le_of_ble_eq_true rfl) ?_
  change S _ _ _ _ _ _ zs_33 rr_64 mm_56 _ _ _ _
  refine o_putRF (pc := 19) (r := some 44) (ci := 2) (j := 2) (nn := 0) dX2_init_19 rfl rfl (Nat.le_of_ble_eq_true rfl) k_229 rfl rfl rfl rfl rfl (fun a => by cases a <;> rfl) ?_
  change S _ _ _ _ _ _ zs_33 rr_65 mm_56 _ _ _ _
  refine o_aload_n (pc := 22) 0 dX2_init_22 rfl rfl ?_
  refine o_iconst (pc := 23) dX2_init_23 lc_1 ?_
  refine o_putI (pc := 24) (ci := 2) (j := 3) (nn := 0) dX2_init_24 rfl rfl (Nat.le_of_ble_eq_true rfl) k_230 rfl rfl rfl rfl rfl ?_
  change S _ _ _ _ _ _ zs_33 rr_65 mm_57 _ _ _ _
  refine o_aload_n (pc := 27) 0 dX2_init_27 rfl rfl ?_
  refine o_iconst (pc := 28) dX2_init_28 lc_0 ?_
  refine o_putI (pc := 29) (ci := 2) (j := 4) (nn := 0) dX2_init_29 rfl rfl (Nat.le_of_ble_eq_true rfl) k_231 rfl rfl rfl rfl rfl ?_
  change S _ _ _ _ _ _ zs_33 rr_65 mm_58 _ _ _ _
  refine o_aload_n (pc := 32) 0 dX2_init_32 rfl rfl ?_
  refine o_iconst (pc := 33) dX2_init_33 lc_0 ?_
  refine o_putI (pc := 34) (ci := 2) (j := 5) (nn := 0) dX2_init_34 rfl rfl (Nat.le_of_ble_eq_true rfl) k_232 rfl rfl rfl rfl rfl ?_
  change S _ _ _ _ _ _ zs_33 rr_65 mm_59 _ _ _ _
  refine o_aload_n (pc := 37) 0 dX2_init_37 rfl rfl ?_
  refine o_bipush (pc := 38) dX2_init_38 lb_100 ?_
  refine x_newI 0 0 (pc := 40) (L := 45) (N := 100) (sh' := zs_34) rfl rfl dX2_init_40 k_122 (by decide) rfl (by decide) rk_65 (by decide) (okv_l (by decide)) (okv_s (by decide)) (Nat.le_of_ble_eq_true rfl) (Nat.le_of_ble_eq_true rfl) ?_
  change S _ _ _ _ _ _ zs_34 rr_66 mm_60 _ _ _ _
  refine o_putRF (pc := 42) (r := some 45) (ci := 2) (j := 6) (nn := 0) dX2_init_42 rfl rfl (Nat.le_of_ble_eq_true rfl) k_233 rfl rfl rfl rfl rfl (fun a => by cases a <;> rfl) ?_
  change S _ _ _ _ _ _ zs_34 rr_67 mm_60 _ _ _ _
  exact o_vret (pc := 45) dX2_init_45 rfl rfl
set_option maxRecDepth 100000 in
theorem ik_X0_init_46 : KS eX true 1 1 20 YX0_init zs_35 rr_69 mm_62 [.ref 46] (some (zs_36, rr_71, mm_67)) := by
  refine KS_of pn_X0 (fun _ => (Nat.le_of_ble_eq_true rfl)) ?_
  change S _ _ _ _ _ _ _ _ _ _ [(0, .ref 46)] [] _
  refine o_aload_n (pc := 0) 0 dX0_init_0 rfl rfl ?_
  refine o_objInit (pc := 1) dX0_init_1 k_254 k_94 k_95 (Nat.le_of_ble_eq_true rfl) (Nat.le_of_ble_eq_true rfl) ?_
  refine o_aload_n (pc := 4) 0 dX0_init_4 rfl rfl ?_
  refine o_iconst (pc := 5) dX0_init_5 lc_0 ?_
  refine o_putI (pc := 6) (ci := 0) (j := 0) (nn := 0) dX0_init_6 rfl rfl (Nat.le_of_ble_eq_true rfl) k_255 rfl rfl rfl rfl rfl ?_
  change S _ _ _ _ _ _ zs_35 rr_69 mm_63 _ _ _ _
  refine o_aload_n (pc := 9) 0 dX0_init_9 rfl rfl ?_
  refine o_bipush (pc := 10) dX0_init_10 lb_20 ?_
  refine x_newI 0 0 (pc := 12) (L := 47) (N := 20) (sh' := zs_36) rfl rfl dX0_init_12 k_122 (by decide) rfl (by decide) rk_69 (by decide) (okv_l (by decide)) (okv_s (by decide)) (Nat.le_of_ble_eq_true rfl) (Nat.le_of_ble_eq_true rfl) ?_
  change S _ _ _ _ _ _ zs_36 rr_70 mm_64 _ _ _ _
  refine o_putRF (pc := 14) (r := some 47) (ci := 0) (j := 1) (nn := 0) dX0_init_14 rfl rfl (Nat.le_of_ble_eq_true rfl) k_257 rfl rfl rfl rfl rfl (fun a => by cases a <;> rfl) ?_
  change S _ _ _ _ _ _ zs_36 rr_71 mm_64 _ _ _ _
  refine o_aload_n (pc := 17) 0 dX0_init_17 rfl rfl ?_
  refine o_iconst (pc := 18) dX0_init_18 lc_0 ?_
  refine o_putI (pc := 19) (ci := 0) (j := 2) (nn := 0) dX0_init_19 rfl rfl (Nat.le_of_ble_eq_true rfl) k_259 rfl rfl rfl rfl rfl ?_
  change S _ _ _ _ _ _ zs_36 rr_71 mm_65 _ _ _ _
  refine o_aload_n (pc := 22) 0 dX0_init_22 rfl rfl ?_
  refine o_iconst (pc := 23) dX0_init_23 lc_0 ?_
  refine o_putI (pc := 24) (ci := 0) (j := 3) (nn := 0) dX0_init_24 rfl rfl (Nat.le_of_ble_eq_true rfl) k_260 rfl rfl rfl rfl rfl ?_
  change S _ _ _ _ _ _ zs_36 rr_71 mm_66 _ _ _ _
  refine o_aload_n (pc := 27) 0 dX0_init_27 rfl rfl ?_
  refine o_iconst (pc := 28) dX0_init_28 lc_0 ?_
  refine o_putI (pc := 29) (ci := 0) (j := 4) (nn := 0) dX0_init_29 rfl rfl (Nat.le_of_ble_eq_true rfl) k_261 rfl rfl rfl rfl rfl ?_
  change S _ _ _ _ _ _ zs_36 rr_71 mm_67 _ _ _ _
  exact o_vret (pc := 32) dX0_init_32 rfl rfl
set_option maxRecDepth 100000 in
theorem ik_X4_init_49 : KS eX true 1 1 60 YX4_init zs_38 rr_75 mm_69 [.ref 49] (some (zs_39, rr_77, mm_72)) := by
  refine KS_of pn_X4 (fun _ => (Nat.le_of_ble_eq_true rfl)) ?_
  change S _ _ _ _ _ _ _ _ _ _ [(0, .ref 49)] [] _
  refine o_aload_n (pc := 0) 0 dX4_init_0 rfl rfl ?_
  refine o_objInit (pc := 1) dX4_init_1 k_279 k_94 k_95 (Nat.le_of_ble_eq_true rfl) (Nat.le_of_ble_eq_true rfl) ?_
  refine o_aload_n (pc := 4) 0 dX4_init_4 rfl rfl ?_
  refine o_iconst (pc := 5) dX4_init_5 lc_m1 ?_
  refine o_putI (pc := 6) (ci := 4) (j := 0) (nn := 0) dX4_init_6 rfl rfl (Nat.le_of_ble_eq_true rfl) k_280 rfl rfl rfl rfl rfl ?_
  change S _ _ _ _ _ _ zs_38 rr_75 mm_70 _ _ _ _
  refine o_aload_n (pc := 9) 0 dX4_init_9 rfl rfl ?_
  refine o_iconst (pc := 10) dX4_init_10 lc_0 ?_
  refine o_putI (pc := 11) (ci := 4) (j := 1) (nn := 0) dX4_init_11 rfl rfl (Nat.le_of_ble_eq_true rfl) k_282 rfl rfl rfl rfl rfl ?_
  change S _ _ _ _ _ _ zs_38 rr_75 mm_71 _ _ _ _
  refine o_aload_n (pc := 14) 0 dX4_init_14 rfl rfl ?_
  refine o_bipush (pc := 15) dX4_init_15 lb_60 ?_
  refine x_newJ 0 0 (pc := 17) (L := 50) (N := 60) (sh' := zs_39) rfl rfl dX4_init_17 k_218 (by decide) rfl (by decide) rk_75 (by decide) (okv_l (by decide)) (okv_s (by decide)) (Nat.le_of_ble_eq_true rfl) (Nat.le_of_ble_eq_true rfl) ?_
  change S _ _ _ _ _ _ zs_39 rr_76 mm_72 _ _ _ _
  refine o_putRF (pc := 19) (r := some 50) (ci := 4) (j := 2) (nn := 0) dX4_init_19 rfl rfl (Nat.le_of_ble_eq_true rfl) k_283 rfl rfl rfl rfl rfl (fun a => by cases a <;> rfl) ?_
  change S _ _ _ _ _ _ zs_39 rr_77 mm_72 _ _ _ _
  exact o_vret (pc := 22) dX4_init_22 rfl rfl
set_option maxRecDepth 100000 in
theorem ik_X4_init_51 : KS eX true 1 1 60 YX4_init zs_40 rr_79 mm_73 [.ref 51] (some (zs_41, rr_81, mm_76)) := by
  refine KS_of pn_X4 (fun _ => (Nat.le_of_ble_eq_true rfl)) ?_
  change S _ _ _ _ _ _ _ _ _ _ [(0, .ref 51)] [] _
  refine o_aload_n (pc := 0) 0 dX4_init_0 rfl rfl ?_
  refine o_objInit (pc := 1) dX4_init_1 k_279 k_94 k_95 (Nat.le_of_ble_eq_true rfl) (Nat.le_of_ble_eq_true rfl) ?_
  refine o_aload_n (pc := 4) 0 dX4_init_4 rfl rfl ?_
  refine o_iconst (pc := 5) dX4_init_5 lc_m1 ?_
  refine o_putI (pc := 6) (ci := 4) (j := 0) (nn := 0) dX4_init_6 rfl rfl (Nat.le_of_ble_eq_true rfl) k_280 rfl rfl rfl rfl rfl ?_
  change S _ _ _ _ _ _ zs_40 rr_79 mm_74 _ _ _ _
  refine o_aload_n (pc := 9) 0 dX4_init_9 rfl rfl ?_
  refine o_iconst (pc := 10) dX4_init_10 lc_0 ?_
  refine o_putI (pc := 11) (ci := 4) (j := 1) (nn := 0) dX4_init_11 rfl rfl (Nat.le_of_ble_eq_true rfl) k_282 rfl rfl rfl rfl rfl ?_
  change S _ _ _ _ _ _ zs_40 rr_79 mm_75 _ _ _ _
  refine o_aload_n (pc := 14) 0 dX4_init_14 rfl rfl ?_
  refine o_bipush (pc := 15) dX4_init_15 lb_60 ?_
  refine x_newJ 0 0 (pc := 17) (L := 52) (N := 60) (sh' := zs_41) rfl rfl dX4_init_17 k_218 (by decide) rfl (by decide) rk_79 (by decide) (okv_l (by decide)) (okv_s (by decide)) (Nat.le_of_ble_eq_true rfl) (Nat.le_of_ble_eq_true rfl) ?_
  change S _ _ _ _ _ _ zs_41 rr_80 mm_76 _ _ _ _
  refine o_putRF (pc := 19) (r := some 52) (ci := 4) (j := 2) (nn := 0) dX4_init_19 rfl rfl (Nat.le_of_ble_eq_true rfl) k_283 rfl rfl rfl rfl rfl (fun a => by cases a <;> rfl) ?_
  change S _ _ _ _ _ _ zs_41 rr_81 mm_76 _ _ _ _
  exact o_vret (pc := 22) dX4_init_22 rfl rfl
set_option maxRecDepth 100000 in
theorem ik_X4_init_53 : KS eX true 1 1 60 YX4_init zs_42 rr_83 mm_77 [.ref 53] (some (zs_43, rr_85, mm_80)) := by
  refine KS_of pn_X4 (fun _ => (Nat.le_of_ble_eq_true rfl)) ?_
  change S _ _ _ _ _ _ _ _ _ _ [(0, .ref 53)] [] _
  refine o_aload_n (pc := 0) 0 dX4_init_0 rfl rfl ?_
  refine o_objInit (pc := 1) dX4_init_1 k_279 k_94 k_95 (Nat.le_of_ble_eq_true rfl) (Nat.le_of_ble_eq_true rfl) ?_
  refine o_aload_n (pc := 4) 0 dX4_init_4 rfl rfl ?_
  refine o_iconst (pc := 5) dX4_init_5 lc_m1 ?_
  refine o_putI (pc := 6) (ci := 4) (j := 0) (nn := 0) dX4_init_6 rfl rfl (Nat.le_of_ble_eq_true rfl) k_280 rfl rfl rfl rfl rfl ?_
  change S _ _ _ _ _ _ zs_42 rr_83 mm_78 _ _ _ _
  refine o_aload_n (pc := 9) 0 dX4_init_9 rfl rfl ?_
  refine o_iconst (pc := 10) dX4_init_10 lc_0 ?_
  refine o_putI (pc := 11) (ci := 4) (j := 1) (nn := 0) dX4_init_11 rfl rfl (Nat.le_of_ble_eq_true rfl) k_282 rfl rfl rfl rfl rfl ?_
  change S _ _ _ _ _ _ zs_42 rr_83 mm_79 _ _ _ _
  refine o_aload_n (pc := 14) 0 dX4_init_14 rfl rfl ?_
  refine o_bipush (pc := 15) dX4_init_15 lb_60 ?_
  refine x_newJ 0 0 (pc := 17) (L := 54) (N := 60) (sh' := zs_43) rfl rfl dX4_init_17 k_218 (by decide) rfl (by decide) rk_83 (by decide) (okv_l (by decide)) (okv_s (by decide)) (Nat.le_of_ble_eq_true rfl) (Nat.le_of_ble_eq_true rfl) ?_
  change S _ _ _ _ _ _ zs_43 rr_84 mm_80 _ _ _ _
  refine o_putRF (pc := 19) (r := some 54) (ci := 4) (j := 2) (nn := 0) dX4_init_19 rfl rfl (Nat.le_of_ble_eq_true rfl) k_283 rfl rfl rfl rfl rfl (fun a => by cases a <;> rfl) ?_
  change S _ _ _ _ _ _ zs_43 rr_85 mm_80 _ _ _ _
  exact o_vret (pc := 22) dX4_init_22 rfl rfl
set_option maxRecDepth 100000 in
theorem ik_X4_init_55 : KS eX true 1 1 60 YX4_init zs_44 rr_87 mm_81 [.ref 55] (some (zs_45, rr_89, mm_84)) := by
  refine KS_of pn_X4 (fun _ => (Nat.le_of_ble_eq_true rfl)) ?_
  change S _ _ _ _ _ _ _ _ _ _ [(0, .ref 55)] [] _
  refine o_aload_n (pc := 0) 0 dX4_init_0 rfl rfl ?_
  refine o_objInit (pc := 1) dX4_init_1 k_279 k_94 k_95 (Nat.le_of_ble_eq_true rfl) (Nat.le_of_ble_eq_true rfl) ?_
  refine o_aload_n (pc := 4) 0 dX4_init_4 rfl rfl ?_
  refine o_iconst (pc := 5) dX4_init_5 lc_m1 ?_
  refine o_putI (pc := 6) (ci := 4) (j := 0) (nn := 0) dX4_init_6 rfl rfl (Nat.le_of_ble_eq_true rfl) k_280 rfl rfl rfl rfl rfl ?_
  change S _ _ _ _ _ _ zs_44 rr_87 mm_82 _ _ _ _
  refine o_aload_n (pc := 9) 0 dX4_init_9 rfl rfl ?_
  refine o_iconst (pc := 10) dX4_init_10 lc_0 ?_
  refine o_putI (pc := 11) (ci := 4) (j := 1) (nn := 0) dX4_init_11 rfl rfl (Nat.le_of_ble_eq_true rfl) k_282 rfl rfl rfl rfl rfl ?_
  change S _ _ _ _ _ _ zs_44 rr_87 mm_83 _ _ _ _
  refine o_aload_n (pc := 14) 0 dX4_init_14 rfl rfl ?_
  refine o_bipush (pc := 15) dX4_init_15 lb_60 ?_
  refine x_newJ 0 0 (pc := 17) (L := 56) (N := 60) (sh' := zs_45) rfl rfl dX4_init_17 k_218 (by decide) rfl (by decide) rk_87 (by decide) (okv_l (by decide)) (okv_s (by decide)) (Nat.le_of_ble_eq_true rfl) (Nat.le_of_ble_eq_true rfl) ?_
  change S _ _ _ _ _ _ zs_45 rr_88 mm_84 _ _ _ _
  refine o_putRF (pc := 19) (r := some 56) (ci := 4) (j := 2) (nn := 0) dX4_init_19 rfl rfl (Nat.le_of_ble_eq_true rfl) k_283 rfl rfl rfl rfl rfl (fun a => by cases a <;> rfl) ?_
  change S _ _ _ _ _ _ zs_45 rr_89 mm_84 _ _ _ _
  exact o_vret (pc := 22) dX4_init_22 rfl rfl
set_option maxRecDepth 100000 in
theorem ik_X4_init_57 : KS eX true 1 1 60 YX4_init zs_46 rr_91 mm_85 [.ref 57] (some (zs_47, rr_93, mm_88)) := by
  refine KS_of pn_X4 (fun _ => (Nat.le_of_ble_eq_true rfl)) ?_
  change S _ _ _ _ _ _ _ _ _ _ [(0, .ref 57)] [] _
  refine o_aload_n (pc := 0) 0 dX4_init_0 rfl rfl ?_
  refine o_objInit (pc := 1) dX4_init_1 k_279 k_94 k_95 (Nat.le_of_ble_eq_true rfl) (Nat.le_of_ble_eq_true rfl) ?_
  refine o_aload_n (pc := 4) 0 dX4_init_4 rfl rfl ?_
  refine o_iconst (pc := 5) dX4_init_5 lc_m1 ?_
  refine o_putI (pc := 6) (ci := 4) (j := 0) (nn := 0) dX4_init_6 rfl rfl (Nat.le_of_ble_eq_true rfl) k_280 rfl rfl rfl rfl rfl ?_
  change S _ _ _ _ _ _ zs_46 rr_91 mm_86 _ _ _ _
  refine o_aload_n (pc := 9) 0 dX4_init_9 rfl rfl ?_
  refine o_iconst (pc := 10) dX4_init_10 lc_0 ?_
  refine o_putI (pc := 11) (ci := 4) (j := 1) (nn := 0) dX4_init_11 rfl rfl (Nat.le_of_ble_eq_true rfl) k_282 rfl rfl rfl rfl rfl ?_
  change S _ _ _ _ _ _ zs_46 rr_91 mm_87 _ _ _ _
  refine o_aload_n (pc := 14) 0 dX4_init_14 rfl rfl ?_
  refine o_bipush (pc := 15) dX4_init_15 lb_60 ?_
  refine x_newJ 0 0 (pc := 17) (L := 58) (N := 60) (sh' := zs_47) rfl rfl dX4_init_17 k_218 (by decide) rfl (by decide) rk_91 (by decide) (okv_l (by decide)) (okv_s (by decide)) (Nat.le_of_ble_eq_true rfl) (Nat.le_of_ble_eq_true rfl) ?_
  change S _ _ _ _ _ _ zs_47 rr_92 mm_88 _ _ _ _
  refine o_putRF (pc := 19) (r := some 58) (ci := 4) (j := 2) (nn := 0) dX4_init_19 rfl rfl (Nat.le_of_ble_eq_true rfl) k_283 rfl rfl rfl rfl rfl (fun a => by cases a <;> rfl) ?_
  change S _ _ _ _ _ _ zs_47 rr_93 mm_88 _ _ _ _
  exact o_vret (pc := 22) dX4_init_22 rfl rfl
set_option maxRecDepth 100000 in
theorem ik_X4_init_59 : KS eX true 1 1 60 YX4_init zs_48 rr_95 mm_89 [.ref 59] (some (zs_49, rr_97, mm_92)) := by
  refine KS_of pn_X4 (fun _ => (Nat.le_of_ble_eq_true rfl)) ?_
  change S _ _ _ _ _ _ _ _ _ _ [(0, .ref 59)] [] _
  refine o_aload_n (pc := 0) 0 dX4_init_0 rfl rfl ?_
  refine o_objInit (pc := 1) dX4_init_1 k_279 k_94 k_95 (Nat.le_of_ble_eq_true rfl) (Nat.le_of_ble_eq_true rfl) ?_
  refine o_aload_n (pc := 4) 0 dX4_init_4 rfl rfl ?_
  refine o_iconst (pc := 5) dX4_init_5 lc_m1 ?_
  refine o_putI (pc := 6) (ci := 4) (j := 0) (nn := 0) dX4_init_6 rfl rfl (Nat.le_of_ble_eq_true rfl) k_280 rfl rfl rfl rfl rfl ?_
  change S _ _ _ _ _ _ zs_48 rr_95 mm_90 _ _ _ _
  refine o_aload_n (pc := 9) 0 dX4_init_9 rfl rfl ?_
  refine o_iconst (pc := 10) dX4_init_10 lc_0 ?_
  refine o_putI (pc := 11) (ci := 4) (j := 1) (nn := 0) dX4_init_11 rfl rfl (Nat.le_of_ble_eq_true rfl) k_282 rfl rfl rfl rfl rfl ?_
  change S _ _ _ _ _ _ zs_48 rr_95 mm_91 _ _ _ _
  refine o_aload_n (pc := 14) 0 dX4_init_14 rfl rfl ?_
  refine o_bipush (pc := 15) dX4_init_15 lb_60 ?_
  refine x_newJ 0 0 (pc := 17) (L := 60) (N := 60) (sh' := zs_49) rfl rfl dX4_init_17 k_218 (by decide) rfl (by decide) rk_95 (by decide) (okv_l (by decide)) (okv_s (by decide)) (Nat.le_of_ble_eq_true rfl) (Nat.le_of_ble_eq_true rfl) ?_
  change S _ _ _ _ _ _ zs_49 rr_96 mm_92 _ _ _ _
  refine o_putRF (pc := 19) (r := some 60) (ci := 4) (j := 2) (nn := 0) dX4_init_19 rfl rfl (Nat.le_of_ble_eq_true rfl) k_283 rfl rfl rfl rfl rfl (fun a => by cases a <;> rfl) ?_
  change S _ _ _ _ _ _ zs_49 rr_97 mm_92 _ _ _ _
  exact o_vret (pc := 22) dX4_init_22 rfl rfl
set_option maxRecDepth 100000 in
theorem ik_X6_init_0 : KS eX true 3 60 989 YX6_init zs_1 rr_1 mm_1 [.ref 0] (some (zs_49, rr_98, mm_92)) := by
  refine KS_of pn_X6 (fun _ => (Nat.le_of_ble_eq_true rfl)) ?_
  change S _ _ _ _ _ _ _ _ _ _ [(0, .ref 0)] [] _
  refine o_aload_n (pc := 0) 0 dX6_init_0 rfl rfl ?_
  refine o_objInit (pc := 1) dX6_init_1 k_93 k_94 k_95 (Nat.le_of_ble_eq_true rfl) (Nat.le_of_ble_eq_true rfl) ?_
  refine o_aload_n (pc := 4) 0 dX6_init_4 rfl rfl ?_
  refine x_new 59 972 (pc := 5) (ci := 5) (L := 1) (sh' := zs_2) rfl rfl dX6_init_5 rfl k_96 k_97 k_73 rk_1 (by decide) (okv_l (by decide)) (okv_s (by decide)) (Nat.le_of_ble_eq_true rfl) (Nat.le_of_ble_eq_true rfl) ?_
  change S _ _ _ _ _ _ zs_2 rr_2 mm_2 _ _ _ _
  refine o_dup (pc := 8) dX6_init_8 rfl ?_
  refine o_initN (Y2 := YX5_init) (np := 0) (av := []) (rest := [.ref 1, .ref 0]) 42 889 (pc := 9) dX6_init_9 ik_X5_init_1 rfl rfl (fun h => h.2.1) k_99 k_73 k_100 ⟨by decide +kernel, by decide +kernel, by decide +kernel⟩ rfl rfl (Nat.le_of_ble_eq_true rfl) (Nat.le_of_ble_eq_true rfl) (Nat.le_of_ble_eq_true rfl) (okv_l (by decide)) (okv_s (by decide)) (Nat.le_of_ble_eq_true rfl) (Nat.le_of_ble_eq_true rfl) ?_
  refine o_putRF (pc := 12) (r := some 1) (ci := 6) (j := 0) (nn := 0) dX6_init_12 rfl rfl (Nat.le_of_ble_eq_true rfl) k_292 rfl rfl rfl rfl rfl (fun a => by cases a <;> rfl) ?_
  change S _ _ _ _ _ _ zs_13 rr_25 mm_22 _ _ _ _
  refine o_aload_n (pc := 15) 0 dX6_init_15 rfl rfl ?_
  refine x_new 41 872 (pc := 16) (ci := 5) (L := 19) (sh' := zs_14) rfl rfl dX6_init_16 rfl k_96 k_97 k_73 rk_25 (by decide) (okv_l (by decide)) (okv_s (by decide)) (Nat.le_of_ble_eq_true rfl) (Nat.le_of_ble_eq_true rfl) ?_
  change S _ _ _ _ _ _ zs_14 rr_26 mm_23 _ _ _ _
  refine o_dup (pc := 19) dX6_init_19 rfl ?_
  refine o_initN (Y2 := YX5_init) (np := 0) (av := []) (rest := [.ref 19, .ref 0]) 24 789 (pc := 20) dX6_init_20 ik_X5_init_19 rfl rfl (fun h => h.2.1) k_99 k_73 k_100 ⟨by decide +kernel, by decide +kernel, by decide +kernel⟩ rfl rfl (Nat.le_of_ble_eq_true rfl) (Nat.le_of_ble_eq_true rfl) (Nat.le_of_ble_eq_true rfl) (okv_l (by decide)) (okv_s (by decide)) (Nat.le_of_ble_eq_true rfl) (Nat.le_of_ble_eq_true rfl) ?_
  refine o_putRF (pc := 23) (r := some 19) (ci := 6) (j := 1) (nn := 0) dX6_init_23 rfl rfl (Nat.le_of_ble_eq_true rfl) k_293 rfl rfl rfl rfl rfl (fun a => by cases a <;> rfl) ?_
  change S _ _ _ _ _ _ zs_25 rr_49 mm_43 _ _ _ _
  refine o_aload_n (pc := 26) 0 dX6_init_26 rfl rfl ?_
  refine o_iconst (pc := 27) dX6_init_27 lc_0 ?_
  refine o_putI (pc := 28) (ci := 6) (j := 2) (nn := 0) dX6_init_28 rfl rfl (Nat.le_of_ble_eq_true rfl) k_294 rfl rfl rfl rfl rfl ?_
  change S _ _ _ _ _ _ zs_25 rr_49 mm_44 _ _ _ _
  refine o_aload_n (pc := 31) 0 dX6_init_31 rfl rfl ?_
  refine x_new 23 783 (pc := 32) (ci := 3) (L := 37) (sh' := zs_26) rfl rfl dX6_init_32 rfl k_192 k_193 k_75 rk_49 (by decide) (okv_l (by decide)) (okv_s (by decide)) (Nat.le_of_ble_eq_true rfl) (Nat.le_of_ble_eq_true rfl) ?_
  change S _ _ _ _ _ _ zs_26 rr_50 mm_45 _ _ _ _
  refine o_dup (pc := 35) dX6_init_35 rfl ?_
  refine o_aload_n (pc := 36) 0 dX6_init_36 rfl rfl ?_
  refine o_getRc (pc := 37) (a := 1) (ci := 6) (j := 0) (nn := 0) dX6_init_37 rfl rfl (Nat.le_of_ble_eq_true rfl) k_292 rfl (by decide +kernel) ?_
  refine o_init (Y2 := YX3_init) (np := 1) (av := [.ref 1]) (rest := [.ref 37, .ref 0]) 20 629 (pc := 40) dX6_init_40 ik_X3_init_37 rfl rfl k_194 k_195 k_75 k_196 ⟨by decide +kernel, by decide +kernel, by decide +kernel⟩ rfl rfl (Nat.le_of_ble_eq_true rfl) (Nat.le_of_ble_eq_true rfl) (Nat.le_of_ble_eq_true rfl) (okv_l (by decide)) (okv_s (by decide)) (Nat.le_of_ble_eq_true rfl) (Nat.le_of_ble_eq_true rfl) ?_
  refine o_putRF (pc := 43) (r := some 37) (ci := 6) (j := 3) (nn := 0) dX6_init_43 rfl rfl (Nat.le_of_ble_eq_true rfl) k_295 rfl rfl rfl rfl rfl (fun a => by cases a <;> rfl) ?_
  change S _ _ _ _ _ _ zs_29 rr_58 mm_50 _ _ _ _
  refine o_aload_n (pc := 46) 0 dX6_init_46 rfl rfl ?_
  refine o_bipush (pc := 47) dX6_init_47 lb_6 ?_
  refine x_newI 19 623 (pc := 49) (L := 41) (N := 6) (sh' := zs_30) rfl rfl dX6_init_49 k_122 (by decide) rfl (by decide) rk_58 (by decide) (okv_l (by decide)) (okv_s (by decide)) (Nat.le_of_ble_eq_true rfl) (Nat.le_of_ble_eq_true rfl) ?_
  change S _ _ _ _ _ _ zs_30 rr_59 mm_51 _ _ _ _
  refine o_putRF (pc := 51) (r := some 41) (ci := 6) (j := 4) (nn := 0) dX6_init_51 rfl rfl (Nat.le_of_ble_eq_true rfl) k_296 rfl rfl rfl rfl rfl (fun a => by cases a <;> rfl) ?_
  change S _ _ _ _ _ _ zs_30 rr_60 mm_51 _ _ _ _
  refine o_aload_n (pc := 54) 0 dX6_init_54 rfl rfl ?_
  refine o_bipush (pc := 55) dX6_init_55 lb_6 ?_
  refine x_newI 18 617 (pc := 57) (L := 42) (N := 6) (sh' := zs_31) rfl rfl dX6_init_57 k_122 (by decide) rfl (by decide) rk_60 (by decide) (okv_l (by decide)) (okv_s (by decide)) (Nat.le_of_ble_eq_true rfl) (Nat.le_of_ble_eq_true rfl) ?_
  change S _ _ _ _ _ _ zs_31 rr_61 mm_52 _ _ _ _
  refine o_putRF (pc := 59) (r := some 42) (ci := 6) (j := 5) (nn := 0) dX6_init_59 rfl rfl (Nat.le_of_ble_eq_true rfl) k_297 rfl rfl rfl rfl rfl (fun a => by cases a <;> rfl) ?_
  change S _ _ _ _ _ _ zs_31 rr_62 mm_52 _ _ _ _
  refine o_aload_n (pc := 62) 0 dX6_init_62 rfl rfl ?_
  refine x_new 17 610 (pc := 63) (ci := 2) (L := 43) (sh' := zs_32) rfl rfl dX6_init_63 rfl k_219 k_220 k_76 rk_62 (by decide) (okv_l (by decide)) (okv_s (by decide)) (Nat.le_of_ble_eq_true rfl) (Nat.le_of_ble_eq_true rfl) ?_
  change S _ _ _ _ _ _ zs_32 rr_63 mm_53 _ _ _ _
  refine o_dup (pc := 66) dX6_init_66 rfl ?_
  refine o_initN (Y2 := YX2_init) (np := 0) (av := []) (rest := [.ref 43, .ref 0]) 15 409 (pc := 67) dX6_init_67 ik_X2_init_43 rfl rfl (fun h => h.2.2.1) k_222 k_76 k_223 ⟨by decide +kernel, by decide +kernel, by decide +kernel⟩ rfl rfl (Nat.le_of_ble_eq_true rfl) (Nat.le_of_ble_eq_true rfl) (Nat.le_of_ble_eq_true rfl) (okv_l (by decide)) (okv_s (by decide)) (Nat.le_of_ble_eq_true rfl) (Nat.le_of_ble_eq_true rfl) ?_
  refine o_putRF (pc := 70) (r := some 43) (ci := 6) (j := 6) (nn := 0) dX6_init_70 rfl rfl (Nat.le_of_ble_eq_true rfl) k_298 rfl rfl rfl rfl rfl (fun a => by cases a <;> rfl) ?_
  change S _ _ _ _ _ _ zs_34 rr_68 mm_60 _ _ _ _
  refine o_aload_n (pc := 73) 0 dX6_init_73 rfl rfl ?_
  refine o_iconst (pc := 74) dX6_init_74 lc_0 ?_
  refine o_putI (pc := 75) (ci := 6) (j := 7) (nn := 0) dX6_init_75 rfl rfl (Nat.le_of_ble_eq_true rfl) k_299 rfl rfl rfl rfl rfl ?_
  change S _ _ _ _ _ _ zs_34 rr_68 mm_61 _ _ _ _
  refine o_aload_n (pc := 78) 0 dX6_init_78 rfl rfl ?_
  refine x_new 14 404 (pc := 79) (ci := 0) (L := 46) (sh' := zs_35) rfl rfl dX6_init_79 rfl k_249 k_250 k_77 rk_68 (by decide) (okv_l (by decide)) (okv_s (by decide)) (Nat.le_of_ble_eq_true rfl) (Nat.le_of_ble_eq_true rfl) ?_
  change S _ _ _ _ _ _ zs_35 rr_69 mm_62 _ _ _ _
  refine o_dup (pc := 82) dX6_init_82 rfl ?_
  refine o_initN (Y2 := YX0_init) (np := 0) (av := []) (rest := [.ref 46, .ref 0]) 13 384 (pc := 83) dX6_init_83 ik_X0_init_46 rfl rfl (fun h => h.2.2.2.1) k_252 k_77 k_253 ⟨by decide +kernel, by decide +kernel, by decide +kernel⟩ rfl rfl (Nat.le_of_ble_eq_true rfl) (Nat.le_of_ble_eq_true rfl) (Nat.le_of_ble_eq_true rfl) (okv_l (by decide)) (okv_s (by decide)) (Nat.le_of_ble_eq_true rfl) (Nat.le_of_ble_eq_true rfl) ?_
  refine o_putRF (pc := 86) (r := some 46) (ci := 6) (j := 8) (nn := 0) dX6_init_86 rfl rfl (Nat.le_of_ble_eq_true rfl) k_300 rfl rfl rfl rfl rfl (fun a => by cases a <;> rfl) ?_
  change S _ _ _ _ _ _ zs_36 rr_72 mm_67 _ _ _ _
  refine o_aload_n (pc := 89) 0 dX6_init_89 rfl rfl ?_
  refine o_bipush (pc := 90) dX6_init_90 lb_6 ?_
  refine x_newQ 12 378 (pc := 92) (L := 48) (N := 6) (sh' := zs_37) rfl rfl dX6_init_92 k_273 (by decide) rfl (by decide) rk_72 (by decide) (okv_l (by decide)) (okv_s (by decide)) (Nat.le_of_ble_eq_true rfl) (Nat.le_of_ble_eq_true rfl) ?_
  change S _ _ _ _ _ _ zs_37 rr_73 mm_68 _ _ _ _
  refine o_putRF (pc := 95) (r := some 48) (ci := 6) (j := 9) (nn := 0) dX6_init_95 rfl rfl (Nat.le_of_ble_eq_true rfl) k_301 rfl rfl rfl rfl rfl (fun a => by cases a <;> rfl) ?_
  change S _ _ _ _ _ _ zs_37 rr_74 mm_68 _ _ _ _
  refine o_iconst (pc := 98) dX6_init_98 lc_0 ?_
  refine o_istore_n (pc := 99) (ls' := [(1, .int 0), (0, .ref 0)]) dX6_init_99 rfl (Nat.le_of_ble_eq_true rfl) rfl ?_
  refine o_iload_n (pc := 100) 0 dX6_init_100 rfl rfl ?_
  refine o_bipush (pc := 101) dX6_init_101 lb_6 ?_
  refine o_icmp_ge_f (pc := 103) (tgt := 125) dX6_init_103 rfl (by decide) ?_
  refine o_aload_n (pc := 106) 1 dX6_init_106 rfl rfl ?_
  refine o_getRc (pc := 107) (a := 48) (ci := 6) (j := 9) (nn := 0) dX6_init_107 rfl rfl (Nat.le_of_ble_eq_true rfl) k_301 rfl (by decide +kernel) ?_
  refine o_iload_n (pc := 110) 0 dX6_init_110 rfl rfl ?_
  refine x_new 11 375 (pc := 111) (ci := 4) (L := 49) (sh' := zs_38) rfl rfl dX6_init_111 rfl k_273 k_275 k_78 rk_74 (by decide) (okv_l (by decide)) (okv_s (by decide)) (Nat.le_of_ble_eq_true rfl) (Nat.le_of_ble_eq_true rfl) ?_
  change S _ _ _ _ _ _ zs_38 rr_75 mm_69 _ _ _ _
  refine o_dup (pc := 114) dX6_init_114 rfl ?_
  refine o_initN (Y2 := YX4_init) (np := 0) (av := []) (rest := [.ref 49, .int 0, .ref 48]) 10 315 (pc := 115) dX6_init_115 ik_X4_init_49 rfl rfl (fun h => h.2.2.2.2.1) k_277 k_78 k_278 ⟨by decide +kernel, by decide +kernel, by decide +kernel⟩ rfl rfl (Nat.le_of_ble_eq_true rfl) (Nat.le_of_ble_eq_true rfl) (Nat.le_of_ble_eq_true rfl) (okv_l (by decide)) (okv_s (by decide)) (Nat.le_of_ble_eq_true rfl) (Nat.le_of_ble_eq_true rfl) ?_
  refine o_aast (pc := 118) (nn := 6) (i0 := 0) dX6_init_118 rfl rfl (ck_in rfl) rfl ?_
  change S _ _ _ _ _ _ zs_39 rr_78 mm_72 _ _ _ _
  refine o_iinc (pc := 119) 0 (v := 1) (ls' := [(1, .int 1), (0, .ref 0)]) dX6_init_119 rfl rfl (Nat.le_of_ble_eq_true rfl) rfl ?_
  refine o_goto (pc := 122) (tgt := 100) dX6_init_122 rfl ?_
  refine o_iload_n (pc := 100) 0 dX6_init_100 rfl rfl ?_
  refine o_bipush (pc := 101) dX6_init_101 lb_6 ?_
  refine o_icmp_ge_f (pc := 103) (tgt := 125) dX6_init_103 rfl (by decide) ?_
  refine o_aload_n (pc := 106) 1 dX6_init_106 rfl rfl ?_
  refine o_getRc (pc := 107) (a := 48) (ci := 6) (j := 9) (nn := 0) dX6_init_107 rfl rfl (Nat.le_of_ble_eq_true rfl) k_301 rfl (by decide +kernel) ?_
  refine o_iload_n (pc := 110) 0 dX6_init_110 rfl rfl ?_
  refine x_new 9 312 (pc := 111) (ci := 4) (L := 51) (sh' := zs_40) rfl rfl dX6_init_111 rfl k_273 k_275 k_78 rk_78 (by decide) (okv_l (by decide)) (okv_s (by decide)) (Nat.le_of_ble_eq_true rfl) (Nat.le_of_ble_eq_true rfl) ?_
  change S _ _ _ _ _ _ zs_40 rr_79 mm_73 _ _ _ _
  refine o_dup (pc := 114) dX6_init_114 rfl ?_
  refine o_initN (Y2 := YX4_init) (np := 0) (av := []) (rest := [.ref 51, .int 1, .ref 48]) 8 252 (pc := 115) dX6_init_115 ik_X4_init_51 rfl rfl (fun h => h.2.2.2.2.1) k_277 k_78 k_278 ⟨by decide +kernel, by decide +kernel, by decide +kernel⟩ rfl rfl (Nat.le_of_ble_eq_true rfl) (Nat.le_of_ble_eq_true rfl) (Nat.le_of_ble_eq_true rfl) (okv_l (by decide)) (okv_s (by decide)) (Nat.le_of_ble_eq_true rfl) (Nat.le_of_ble_eq_true rfl) ?_
  refine o_aast (pc := 118) (nn := 6) (i0 := 1) dX6_init_118 rfl rfl (ck_in rfl) rfl ?_
  change S _ _ _ _ _ _ zs_41 rr_82 mm_76 _ _ _ _
  refine o_iinc (pc := 119) 0 (v := 2) (ls' := [(1, .int 2), (0, .ref 0)]) dX6_init_119 rfl rfl (Nat.le_of_ble_eq_true rfl) rfl ?_
  refine o_goto (pc := 122) (tgt := 100) dX6_init_122 rfl ?_
  refine o_iload_n (pc := 100) 0 dX6_init_100 rfl rfl ?_
  refine o_bipush (pc := 101) dX6_init_101 lb_6 ?_
  refine o_icmp_ge_f (pc := 103) (tgt := 125) dX6_init_103 rfl (by decide) ?_
  refine o_aload_n (pc := 106) 1 dX6_init_106 rfl rfl ?_
  refine o_getRc (pc := 107) (a := 48) (ci := 6) (j := 9) (nn := 0) dX6_init_107 rfl rfl (Nat.le_of_ble_eq_true rfl) k_301 rfl (by decide +kernel) ?_
  refine o_iload_n (pc := 110) 0 dX6_init_110 rfl rfl ?_
  refine x_new 7 249 (pc := 111) (ci := 4) (L := 53) (sh' := zs_42) rfl rfl dX6_init_111 rfl k_273 k_275 k_78 rk_82 (by decide) (okv_l (by decide)) (okv_s (by decide)) (Nat.le_of_ble_eq_true rfl) (Nat.le_of_ble_eq_true rfl) ?_
  change S _ _ _ _ _ _ zs_42 rr_83 mm_77 _ _ _ _
  refine o_dup (pc := 114) dX6_init_114 rfl ?_
  refine o_initN (Y2 := YX4_init) (np := 0) (av := []) (rest := [.ref 53, .int 2, .ref 48]) 6 189 (pc := 115) dX6_init_115 ik_X4_init_53 rfl rfl (fun h => h.2.2.2.2.1) k_277 k_78 k_278 ⟨by decide +kernel, by decide +kernel, by decide +kernel⟩ rfl rfl (Nat.le_of_ble_eq_true rfl) (Nat.le_of_ble_eq_true rfl) (Nat.le_of_ble_eq_true rfl) (okv_l (by decide)) (okv_s (by decide)) (Nat.le_of_ble_eq_true rfl) (Nat.le_of_ble_eq_true rfl) ?_
  refine o_aast (pc := 118) (nn := 6) (i0 := 2) dX6_init_118 rfl rfl (ck_in rfl) rfl ?_
  change S _ _ _ _ _ _ zs_43 rr_86 mm_80 _ _ _ _
  refine o_iinc (pc := 119) 0 (v := 3) (ls' := [(1, .int 3), (0, .ref 0)]) dX6_init_119 rfl rfl (Nat.le_of_ble_eq_true rfl) rfl ?_
  refine o_goto (pc := 122) (tgt := 100) dX6_init_122 rfl ?_
  refine o_iload_n (pc := 100) 0 dX6_init_100 rfl rfl ?_
  refine o_bipush (pc := 101) dX6_init_101 lb_6 ?_
  refine o_icmp_ge_f (pc := 103) (tgt := 125) dX6_init_103 rfl (by decide) ?_
  refine o_aload_n (pc := 106) 1 dX6_init_106 rfl rfl ?_
  refine o_getRc (pc := 107) (a := 48) (ci := 6) (j := 9) (nn := 0) dX6_init_107 rfl rfl (Nat.le_of_ble_eq_true rfl) k_301 rfl (by decide +kernel) ?_
  refine o_iload_n (pc := 110) 0 dX6_init_110 rfl rfl ?_
  refine x_new 5 186 (pc := 111) (ci := 4) (L := 55) (sh' := zs_44) rfl rfl dX6_init_111 rfl k_273 k_275 k_78 rk_86 (by decide) (okv_l (by decide)) (okv_s (by decide)) (Nat.le_of_ble_eq_true rfl) (Nat.le_of_ble_eq_true rfl) ?_
  change S _ _ _ _ _ _ zs_44 rr_87 mm_81 _ _ _ _
  refine o_dup (pc := 114) dX6_init_114 rfl ?_
  refine o_initN (Y2 := YX4_init) (np := 0) (av := []) (rest := [.ref 55, .int 3, .ref 48]) 4 126 (pc := 115) dX6_init_115 ik_X4_init_55 rfl rfl (fun h => h.2.2.2.2.1) k_277 k_78 k_278 ⟨by decide +kernel, by decide +kernel, by decide +kernel⟩ rfl rfl (Nat.le_of_ble_eq_true rfl) (Nat.le_of_ble_eq_true rfl) (Nat.le_of_ble_eq_true rfl) (okv_l (by decide)) (okv_s (by decide)) (Nat.le_of_ble_eq_true rfl) (Nat.le_of_ble_eq_true rfl) ?_
  refine o_aast (pc := 118) (nn := 6) (i0 := 3) dX6_init_118 rfl rfl (ck_in rfl) rfl ?_
  change S _ _ _ _ _ _ zs_45 rr_90 mm_84 _ _ _ _
  refine o_iinc (pc := 119) 0 (v := 4) (ls' := [(1, .int 4), (0, .ref 0)]) dX6_init_119 rfl rfl (Nat.le_of_ble_eq_true rfl) rfl ?_
  refine o_goto (pc := 122) (tgt := 100) dX6_init_122 rfl ?_
  refine o_iload_n (pc := 100) 0 dX6_init_100 rfl rfl ?_
  refine o_bipush (pc := 101) dX6_init_101 lb_6 ?_
  refine o_icmp_ge_f (pc := 103) (tgt := 125) dX6_init_103 rfl (by decide) ?_
  refine o_aload_n (pc := 106) 1 dX6_init_106 rfl rfl ?_
  refine o_getRc (pc := 107) (a := 48) (ci := 6) (j := 9) (nn := 0) dX6_init_107 rfl rfl (Nat.le_of_ble_eq_true rfl) k_301 rfl (by decide +kernel) ?_
  refine o_iload_n (pc := 110) 0 dX6_init_110 rfl rfl ?_
  refine x_new 3 123 (pc := 111) (ci := 4) (L := 57) (sh' := zs_46) rfl rfl dX6_init_111 rfl k_273 k_275 k_78 rk_90 (by decide) (okv_l (by decide)) (okv_s (by decide)) (Nat.le_of_ble_eq_true rfl) (Nat.le_of_ble_eq_true rfl) ?_
  change S _ _ _ _ _ _ zs_46 rr_91 mm_85 _ _ _ _
  refine o_dup (pc := 114) dX6_init_114 rfl ?_
  refine o_initN (Y2 := YX4_init) (np := 0) (av := []) (rest := [.ref 57, .int 4, .ref 48]) 2 63 (pc := 115) dX6_init_115 ik_X4_init_57 rfl rfl (fun h => h.2.2.2.2.1) k_277 k_78 k_278 ⟨by decide +kernel, by decide +kernel, by decide +kernel⟩ rfl rfl (Nat.le_of_ble_eq_true rfl) (Nat.le_of_ble_eq_true rfl) (Nat.le_of_ble_eq_true rfl) (okv_l (by decide)) (okv_s (by decide)) (Nat.le_of_ble_eq_true rfl) (Nat.le_of_ble_eq_true rfl) ?_
  refine o_aast (pc := 118) (nn := 6) (i0 := 4) dX6_init_118 rfl rfl (ck_in rfl) rfl ?_
  change S _ _ _ _ _ _ zs_47 rr_94 mm_88 _ _ _ _
  refine o_iinc (pc := 119) 0 (v := 5) (ls' := [(1, .int 5), (0, .ref 0)]) dX6_init_119 rfl rfl (Nat.le_of_ble_eq_true rfl) rfl ?_
  refine o_goto (pc := 122) (tgt := 100) dX6_init_122 rfl ?_
  refine o_iload_n (pc := 100) 0 dX6_init_100 rfl rfl ?_
  refine o_bipush (pc := 101) dX6_init_101 lb_6 ?_
  refine o_icmp_ge_f (pc := 103) (tgt := 125) dX6_init_103 rfl (by decide) ?_
  refine o_aload_n (pc := 106) 1 dX6_init_106 rfl rfl ?_
  refine o_getRc (pc := 107) (a := 48) (ci := 6) (j := 9) (nn := 0) dX6_init_107 rfl rfl (Nat.le_of_ble_eq_true rfl) k_301 rfl (by decide +kernel) ?_
  refine o_iload_n (pc := 110) 0 dX6_init_110 rfl rfl ?_
  refine x_new 1 60 (pc := 111) (ci := 4) (L := 59) (sh' := zs_48) rfl rfl dX6_init_111 rfl k_273 k_275 k_78 rk_94 (by decide) (okv_l (by decide)) (okv_s (by decide)) (Nat.le_of_ble_eq_true rfl) (Nat.le_of_ble_eq_true rfl) ?_
  change S _ _ _ _ _ _ zs_48 rr_95 mm_89 _ _ _ _
  refine o_dup (pc := 114) dX6_init_114 rfl ?_
  refine o_initN (Y2 := YX4_init) (np := 0) (av := []) (rest := [.ref 59, .int 5, .ref 48]) 0 0 (pc := 115) dX6_init_115 ik_X4_init_59 rfl rfl (fun h => h.2.2.2.2.1) k_277 k_78 k_278 ⟨by decide +kernel, by decide +kernel, by decide +kernel⟩ rfl rfl (Nat.le_of_ble_eq_true rfl) (Nat.le_of_ble_eq_true rfl) (Nat.le_of_ble_eq_true rfl) (okv_l (by decide)) (okv_s (by decide)) (Nat.le_of_ble_eq_true rfl) (Nat.le_of_ble_eq_true rfl) ?_
  refine o_aast (pc := 118) (nn := 6) (i0 := 5) dX6_init_118 rfl rfl (ck_in rfl) rfl ?_
  change S _ _ _ _ _ _ zs_49 rr_98 mm_92 _ _ _ _
  refine o_iinc (pc := 119) 0 (v := 6) (ls' := [(1, .int 6), (0, .ref 0)]) dX6_init_119 rfl rfl (Nat.le_of_ble_eq_true rfl) rfl ?_
  refine o_goto (pc := 122) (tgt := 100) dX6_init_122 rfl ?_
  refine o_iload_n (pc := 100) 0 dX6_init_100 rfl rfl ?_
  refine o_bipush (pc := 101) dX6_init_101 lb_6 ?_
  refine o_icmp_ge_t (pc := 103) (tgt := 125) dX6_init_103 rfl (by decide) ?_
  exact o_vret (pc := 125) dX6_init_125 rfl rfl
set_option maxRecDepth 100000 in
theorem ik_X7_init_61 : KS eX true 5 37 1785 YX7_init zs_50 rr_99 mm_93 [.ref 61] (some (zs_87, rr_173, mm_185)) := by
  refine KS_of pn_X7 (fun _ => (Nat.le_of_ble_eq_true rfl)) ?_
  change S _ _ _ _ _ _ _ _ _ _ [(0, .ref 61)] [] _
  refine o_aload_n (pc := 0) 0 dX7_init_0 rfl rfl ?_
  refine o_objInit (pc := 1) dX7_init_1 k_858 k_94 k_95 (Nat.le_of_ble_eq_true rfl) (Nat.le_of_ble_eq_true rfl) ?_
  refine o_aload_n (pc := 4) 0 dX7_init_4 rfl rfl ?_
  refine o_iconst (pc := 5) dX7_init_5 lc_0 ?_
  refine o_putI (pc := 6) (ci := 7) (j := 0) (nn := 0) dX7_init_6 rfl rfl (Nat.le_of_ble_eq_true rfl) k_883 rfl rfl rfl rfl rfl ?_
  change S _ _ _ _ _ _ zs_50 rr_99 mm_94 _ _ _ _
  refine o_aload_n (pc := 9) 0 dX7_init_9 rfl rfl ?_
  refine o_iconst (pc := 10) dX7_init_10 lc_0 ?_
  refine o_putI (pc := 11) (ci := 7) (j := 1) (nn := 0) dX7_init_11 rfl rfl (Nat.le_of_ble_eq_true rfl) k_884 rfl rfl rfl rfl rfl ?_
  change S _ _ _ _ _ _ zs_50 rr_99 mm_95 _ _ _ _
  refine o_aload_n (pc := 14) 0 dX7_init_14 rfl rfl ?_
  refine o_iconst (pc := 15) dX7_init_15 lc_0 ?_
  refine o_putI (pc := 16) (ci := 7) (j := 2) (nn := 0) dX7_init_16 rfl rfl (Nat.le_of_ble_eq_true rfl) k_885 rfl rfl rfl rfl rfl ?_
  change S _ _ _ _ _ _ zs_50 rr_99 mm_96 _ _ _ _
  refine o_aload_n (pc := 19) 0 dX7_init_19 rfl rfl ?_
  refine o_iconst (pc := 20) dX7_init_20 lc_0 ?_
  refine o_putI (pc := 21) (ci := 7) (j := 3) (nn := 0) dX7_init_21 rfl rfl (Nat.le_of_ble_eq_true rfl) k_886 rfl rfl rfl rfl rfl ?_
  change S _ _ _ _ _ _ zs_50 rr_99 mm_97 _ _ _ _
  refine o_aload_n (pc := 24) 0 dX7_init_24 rfl rfl ?_
  refine o_iconst (pc := 25) dX7_init_25 lc_0 ?_
  refine o_putI (pc := 26) (ci := 7) (j := 4) (nn := 0) dX7_init_26 rfl rfl (Nat.le_of_ble_eq_true rfl) k_887 rfl rfl rfl rfl rfl ?_
  change S _ _ _ _ _ _ zs_50 rr_99 mm_98 _ _ _ _
  refine o_aload_n (pc := 29) 0 dX7_init_29 rfl rfl ?_
  refine o_bipush (pc := 30) dX7_init_30 lb_6 ?_
  refine x_newI 36 1779 (pc := 32) (L := 62) (N := 6) (sh' := zs_51) rfl rfl dX7_init_32 k_122 (by decide) rfl (by decide) rk_99 (by decide) (okv_l (by decide)) (okv_s (by decide)) (Nat.le_of_ble_eq_true rfl) (Nat.le_of_ble_eq_true rfl) ?_
  change S _ _ _ _ _ _ zs_51 rr_100 mm_99 _ _ _ _
  refine o_putRF (pc := 34) (r := some 62) (ci := 7) (j := 5) (nn := 0) dX7_init_34 rfl rfl (Nat.le_of_ble_eq_true rfl) k_888 rfl rfl rfl rfl rfl (fun a => by cases a <;> rfl) ?_
  change S _ _ _ _ _ _ zs_51 rr_101 mm_99 _ _ _ _
  refine o_aload_n (pc := 37) 0 dX7_init_37 rfl rfl ?_
  refine o_bipush (pc := 38) dX7_init_38 lb_6 ?_
  refine x_newI 35 1773 (pc := 40) (L := 63) (N := 6) (sh' := zs_52) rfl rfl dX7_init_40 k_122 (by decide) rfl (by decide) rk_101 (by decide) (okv_l (by decide)) (okv_s (by decide)) (Nat.le_of_ble_eq_true rfl) (Nat.le_of_ble_eq_true rfl) ?_
  change S _ _ _ _ _ _ zs_52 rr_102 mm_100 _ _ _ _
  refine o_putRF (pc := 42) (r := some 63) (ci := 7) (j := 6) (nn := 0) dX7_init_42 rfl rfl (Nat.le_of_ble_eq_true rfl) k_889 rfl rfl rfl rfl rfl (fun a => by cases a <;> rfl) ?_
  change S _ _ _ _ _ _ zs_52 rr_103 mm_100 _ _ _ _
  refine o_aload_n (pc := 45) 0 dX7_init_45 rfl rfl ?_
  refine o_bipush (pc := 46) dX7_init_46 lb_6 ?_
  refine x_newI 34 1767 (pc := 48) (L := 64) (N := 6) (sh' := zs_53) rfl rfl dX7_init_48 k_122 (by decide) rfl (by decide) rk_103 (by decide) (okv_l (by decide)) (okv_s (by decide)) (Nat.le_of_ble_eq_true rfl) (Nat.le_of_ble_eq_true rfl) ?_
  change S _ _ _ _ _ _ zs_53 rr_104 mm_101 _ _ _ _
  refine o_putRF (pc := 50) (r := some 64) (ci := 7) (j := 7) (nn := 0) dX7_init_50 rfl rfl (Nat.le_of_ble_eq_true rfl) k_890 rfl rfl rfl rfl rfl (fun a => by cases a <;> rfl) ?_
  change S _ _ _ _ _ _ zs_53 rr_105 mm_101 _ _ _ _
  refine o_aload_n (pc := 53) 0 dX7_init_53 rfl rfl ?_
  refine o_bipush (pc := 54) dX7_init_54 lb_24 ?_
  refine x_newI 33 1743 (pc := 56) (L := 65) (N := 24) (sh' := zs_54) rfl rfl dX7_init_56 k_122 (by decide) rfl (by decide) rk_105 (by decide) (okv_l (by decide)) (okv_s (by decide)) (Nat.le_of_ble_eq_true rfl) (Nat.le_of_ble_eq_true rfl) ?_
  change S _ _ _ _ _ _ zs_54 rr_106 mm_102 _ _ _ _
  refine o_putRF (pc := 58) (r := some 65) (ci := 7) (j := 8) (nn := 0) dX7_init_58 rfl rfl (Nat.le_of_ble_eq_true rfl) k_891 rfl rfl rfl rfl rfl (fun a => by cases a <;> rfl) ?_
  change S _ _ _ _ _ _ zs_54 rr_107 mm_102 _ _ _ _
  refine o_aload_n (pc := 61) 0 dX7_init_61 rfl rfl ?_
  refine o_bipush (pc := 62) dX7_init_62 lb_6 ?_
  refine x_newI 32 1737 (pc := 64) (L := 66) (N := 6) (sh' := zs_55) rfl rfl dX7_init_64 k_122 (by decide) rfl (by decide) rk_107 (by decide) (okv_l (by decide)) (okv_s (by decide)) (Nat.le_of_ble_eq_true rfl) (Nat.le_of_ble_eq_true rfl) ?_
  change S _ _ _ _ _ _ zs_55 rr_108 mm_103 _ _ _ _
  refine o_putRF (pc := 66) (r := some 66) (ci := 7) (j := 9) (nn := 0) dX7_init_66 rfl rfl (Nat.le_of_ble_eq_true rfl) k_892 rfl rfl rfl rfl rfl (fun a => by cases a <;> rfl) ?_
  change S _ _ _ _ _ _ zs_55 rr_109 mm_103 _ _ _ _
  refine o_aload_n (pc := 69) 0 dX7_init_69 rfl rfl ?_
  refine o_iconst (pc := 70) dX7_init_70 lc_0 ?_
  refine o_putI (pc := 71) (ci := 7) (j := 10) (nn := 0) dX7_init_71 rfl rfl (Nat.le_of_ble_eq_true rfl) k_893 rfl rfl rfl rfl rfl ?_
  change S _ _ _ _ _ _ zs_55 rr_109 mm_104 _ _ _ _
  refine o_aload_n (pc := 74) 0 dX7_init_74 rfl rfl ?_
  refine o_iconst (pc := 75) dX7_init_75 lc_m1 ?_
  refine o_putI (pc := 76) (ci := 7) (j := 11) (nn := 0) dX7_init_76 rfl rfl (Nat.le_of_ble_eq_true rfl) k_894 rfl rfl rfl rfl rfl ?_
  change S _ _ _ _ _ _ zs_55 rr_109 mm_105 _ _ _ _
  refine o_aload_n (pc := 79) 0 dX7_init_79 rfl rfl ?_
  refine o_iconst (pc := 80) dX7_init_80 lc_0 ?_
  refine o_putI (pc := 81) (ci := 7) (j := 12) (nn := 0) dX7_init_81 rfl rfl (Nat.le_of_ble_eq_true rfl) k_895 rfl rfl rfl rfl rfl ?_
  change S _ _ _ _ _ _ zs_55 rr_109 mm_106 _ _ _ _
  refine o_aload_n (pc := 84) 0 dX7_init_84 rfl rfl ?_
  refine o_iconst (pc := 85) dX7_init_85 lc_0 ?_
  refine o_putI (pc := 86) (ci := 7) (j := 13) (nn := 0) dX7_init_86 rfl rfl (Nat.le_of_ble_eq_true rfl) k_896 rfl rfl rfl rfl rfl ?_
  change S _ _ _ _ _ _ zs_55 rr_109 mm_107 _ _ _ _
  refine o_aload_n (pc := 89) 0 dX7_init_89 rfl rfl ?_
  refine o_iconst (pc := 90) dX7_init_90 lc_0 ?_
  refine o_putI (pc := 91) (ci := 7) (j := 14) (nn := 0) dX7_init_91 rfl rfl (Nat.le_of_ble_eq_true rfl) k_897 rfl rfl rfl rfl rfl ?_
  change S _ _ _ _ _ _ zs_55 rr_109 mm_108 _ _ _ _
  refine o_aload_n (pc := 94) 0 dX7_init_94 rfl rfl ?_
  refine o_bipush (pc := 95) dX7_init_95 lb_100 ?_
  refine x_newI 31 1637 (pc := 97) (L := 67) (N := 100) (sh' := zs_56) rfl rfl dX7_init_97 k_122 (by decide) rfl (by decide) rk_109 (by decide) (okv_l (by decide)) (okv_s (by decide)) (Nat.le_of_ble_eq_true rfl) (Nat.le_of_ble_eq_true rfl) ?_
  change S _ _ _ _ _ _ zs_56 rr_110 mm_109 _ _ _ _
  refine o_putRF (pc := 99) (r := some 67) (ci := 7) (j := 15) (nn := 0) dX7_init_99 rfl rfl (Nat.le_of_ble_eq_true rfl) k_898 rfl rfl rfl rfl rfl (fun a => by cases a <;> rfl) ?_
  change S _ _ _ _ _ _ zs_56 rr_111 mm_109 _ _ _ _
  refine o_aload_n (pc := 102) 0 dX7_init_102 rfl rfl ?_
  refine o_bipush (pc := 103) dX7_init_103 lb_6 ?_
  refine x_newI 30 1631 (pc := 105) (L := 68) (N := 6) (sh' := zs_57) rfl rfl dX7_init_105 k_122 (by decide) rfl (by decide) rk_111 (by decide) (okv_l (by decide)) (okv_s (by decide)) (Nat.le_of_ble_eq_true rfl) (Nat.le_of_ble_eq_true rfl) ?_
  change S _ _ _ _ _ _ zs_57 rr_112 mm_110 _ _ _ _
  refine o_putRF (pc := 107) (r := some 68) (ci := 7) (j := 16) (nn := 0) dX7_init_107 rfl rfl (Nat.le_of_ble_eq_true rfl) k_899 rfl rfl rfl rfl rfl (fun a => by cases a <;> rfl) ?_
  change S _ _ _ _ _ _ zs_57 rr_113 mm_110 _ _ _ _
  refine o_aload_n (pc := 110) 0 dX7_init_110 rfl rfl ?_
  refine o_bipush (pc := 111) dX7_init_111 lb_60 ?_
  refine x_newI 29 1571 (pc := 113) (L := 69) (N := 60) (sh' := zs_58) rfl rfl dX7_init_113 k_122 (by decide) rfl (by decide) rk_113 (by decide) (okv_l (by decide)) (okv_s (by decide)) (Nat.le_of_ble_eq_true rfl) (Nat.le_of_ble_eq_true rfl) ?_
  change S _ _ _ _ _ _ zs_58 rr_114 mm_111 _ _ _ _
  refine o_putRF (pc := 115) (r := some 69) (ci := 7) (j := 17) (nn := 0) dX7_init_115 rfl rfl (Nat.le_of_ble_eq_true rfl) k_900 rfl rfl rfl rfl rfl (fun a => by cases a <;> rfl) ?_
  change S _ _ _ _ _ _ zs_58 rr_115 mm_111 _ _ _ _
  refine o_aload_n (pc := 118) 0 dX7_init_118 rfl rfl ?_
  refine o_bipush (pc := 119) dX7_init_119 lb_60 ?_
  refine x_newI 28 1511 (pc := 121) (L := 70) (N := 60) (sh' := zs_59) rfl rfl dX7_init_121 k_122 (by decide) rfl (by decide) rk_115 (by decide) (okv_l (by decide)) (okv_s (by decide)) (Nat.le_of_ble_eq_true rfl) (Nat.le_of_ble_eq_true rfl) ?_
  change S _ _ _ _ _ _ zs_59 rr_116 mm_112 _ _ _ _
  refine o_putRF (pc := 123) (r := some 70) (ci := 7) (j := 18) (nn := 0) dX7_init_123 rfl rfl (Nat.le_of_ble_eq_true rfl) k_901 rfl rfl rfl rfl rfl (fun a => by cases a <;> rfl) ?_
  change S _ _ _ _ _ _ zs_59 rr_117 mm_112 _ _ _ _
  refine o_aload_n (pc := 126) 0 dX7_init_126 rfl rfl ?_
  refine o_bipush (pc := 127) dX7_init_127 lb_60 ?_
  refine x_newI 27 1451 (pc := 129) (L := 71) (N := 60) (sh' := zs_60) rfl rfl dX7_init_129 k_122 (by decide) rfl (by decide) rk_117 (by decide) (okv_l (by decide)) (okv_s (by decide)) (Nat.le_of_ble_eq_true rfl) (Nat.le_of_ble_eq_true rfl) ?_
  change S _ _ _ _ _ _ zs_60 rr_118 mm_113 _ _ _ _
  refine o_putRF (pc := 131) (r := some 71) (ci := 7) (j := 19) (nn := 0) dX7_init_131 rfl rfl (Nat.le_of_ble_eq_true rfl) k_902 rfl rfl rfl rfl rfl (fun a => by cases a <;> rfl) ?_
  change S _ _ _ _ _ _ zs_60 rr_119 mm_113 _ _ _ _
  refine o_aload_n (pc := 134) 0 dX7_init_134 rfl rfl ?_
  refine o_bipush (pc := 135) dX7_init_135 lb_60 ?_
  refine x_newI 26 1391 (pc := 137) (L := 72) (N := 60) (sh' := zs_61) rfl rfl dX7_init_137 k_122 (by decide) rfl (by decide) rk_119 (by decide) (okv_l (by decide)) (okv_s (by decide)) (Nat.le_of_ble_eq_true rfl) (Nat.le_of_ble_eq_true rfl) ?_
  change S _ _ _ _ _ _ zs_61 rr_120 mm_114 _ _ _ _
  refine o_putRF (pc := 139) (r := some 72) (ci := 7) (j := 20) (nn := 0) dX7_init_139 rfl rfl (Nat.le_of_ble_eq_true rfl) k_903 rfl rfl rfl rfl rfl (fun a => by cases a <;> rfl) ?_
  change S _ _ _ _ _ _ zs_61 rr_121 mm_114 _ _ _ _
  refine o_aload_n (pc := 142) 0 dX7_init_142 rfl rfl ?_
  refine o_sipush (pc := 143) dX7_init_143 ls_600 ?_
  refine x_newI 25 791 (pc := 146) (L := 73) (N := 600) (sh' := zs_62) rfl rfl dX7_init_146 k_122 (by decide) rfl (by decide) rk_121 (by decide) (okv_l (by decide)) (okv_s (by decide)) (Nat.le_of_ble_eq_true rfl) (Nat.le_of_ble_eq_true rfl) ?_
  change S _ _ _ _ _ _ zs_62 rr_122 mm_115 _ _ _ _
  refine o_putRF (pc := 148) (r := some 73) (ci := 7) (j := 21) (nn := 0) dX7_init_148 rfl rfl (Nat.le_of_ble_eq_true rfl) k_904 rfl rfl rfl rfl rfl (fun a => by cases a <;> rfl) ?_
  change S _ _ _ _ _ _ zs_62 rr_123 mm_115 _ _ _ _
  refine o_aload_n (pc := 151) 0 dX7_init_151 rfl rfl ?_
  refine o_bipush (pc := 152) dX7_init_152 lb_101 ?_
  refine x_newI 24 690 (pc := 154) (L := 74) (N := 101) (sh' := zs_63) rfl rfl dX7_init_154 k_122 (by decide) rfl (by decide) rk_123 (by decide) (okv_l (by decide)) (okv_s (by decide)) (Nat.le_of_ble_eq_true rfl) (Nat.le_of_ble_eq_true rfl) ?_
  change S _ _ _ _ _ _ zs_63 rr_124 mm_116 _ _ _ _
  refine o_putRF (pc := 156) (r := some 74) (ci := 7) (j := 22) (nn := 0) dX7_init_156 rfl rfl (Nat.le_of_ble_eq_true rfl) k_905 rfl rfl rfl rfl rfl (fun a => by cases a <;> rfl) ?_
  change S _ _ _ _ _ _ zs_63 rr_125 mm_116 _ _ _ _
  refine o_aload_n (pc := 159) 0 dX7_init_159 rfl rfl ?_
  refine o_iconst (pc := 160) dX7_init_160 lc_0 ?_
  refine o_putI (pc := 161) (ci := 7) (j := 23) (nn := 0) dX7_init_161 rfl rfl (Nat.le_of_ble_eq_true rfl) k_906 rfl rfl rfl rfl rfl ?_
  change S _ _ _ _ _ _ zs_63 rr_125 mm_117 _ _ _ _
  refine o_aload_n (pc := 164) 0 dX7_init_164 rfl rfl ?_
  refine o_iconst (pc := 165) dX7_init_165 lc_0 ?_
  refine o_putI (pc := 166) (ci := 7) (j := 24) (nn := 0) dX7_init_166 rfl rfl (Nat.le_of_ble_eq_true rfl) k_907 rfl rfl rfl rfl rfl ?_
  change S _ _ _ _ _ _ zs_63 rr_125 mm_118 _ _ _ _
  refine o_aload_n (pc := 169) 0 dX7_init_169 rfl rfl ?_
  refine o_iconst (pc := 170) dX7_init_170 lc_0 ?_
  refine o_putI (pc := 171) (ci := 7) (j := 25) (nn := 0) dX7_init_171 rfl rfl (Nat.le_of_ble_eq_true rfl) k_908 rfl rfl rfl rfl rfl ?_
  change S _ _ _ _ _ _ zs_63 rr_125 mm_119 _ _ _ _
  refine o_aload_n (pc := 174) 0 dX7_init_174 rfl rfl ?_
  refine o_bipush (pc := 175) dX7_init_175 lb_16 ?_
  refine x_newI 23 674 (pc := 177) (L := 75) (N := 16) (sh' := zs_64) rfl rfl dX7_init_177 k_122 (by decide) rfl (by decide) rk_125 (by decide) (okv_l (by decide)) (okv_s (by decide)) (Nat.le_of_ble_eq_true rfl) (Nat.le_of_ble_eq_true rfl) ?_
  change S _ _ _ _ _ _ zs_64 rr_126 mm_120 _ _ _ _
  refine o_dup (pc := 179) dX7_init_179 rfl ?_
  refine o_iconst (pc := 180) dX7_init_180 lc_0 ?_
  refine o_bipush (pc := 181) dX7_init_181 lb_108 ?_
  refine o_iast (pc := 183) (nn := 16) dX7_init_183 rfl (ck_in rfl) ?_
  change S _ _ _ _ _ _ zs_64 rr_126 mm_121 _ _ _ _
  refine o_dup (pc := 184) dX7_init_184 rfl ?_
  refine o_iconst (pc := 185) dX7_init_185 lc_1 ?_
  refine o_bipush (pc := 186) dX7_init_186 lb_101 ?_
  refine o_iast (pc := 188) (nn := 16) dX7_init_188 rfl (ck_in rfl) ?_
  change S _ _ _ _ _ _ zs_64 rr_126 mm_122 _ _ _ _
  refine o_dup (pc := 189) dX7_init_189 rfl ?_
  refine o_iconst (pc := 190) dX7_init_190 lc_2 ?_
  refine o_bipush (pc := 191) dX7_init_191 lb_97 ?_
  refine o_iast (pc := 193) (nn := 16) dX7_init_193 rfl (ck_in rfl) ?_
  change S _ _ _ _ _ _ zs_64 rr_126 mm_123 _ _ _ _
  refine o_dup (pc := 194) dX7_init_194 rfl ?_
  refine o_iconst (pc := 195) dX7_init_195 lc_3 ?_
  refine o_bipush (pc := 196) dX7_init_196 lb_110 ?_
  refine o_iast (pc := 198) (nn := 16) dX7_init_198 rfl (ck_in rfl) ?_
  change S _ _ _ _ _ _ zs_64 rr_126 mm_124 _ _ _ _
  refine o_dup (pc := 199) dX7_init_199 rfl ?_
  refine o_iconst (pc := 200) dX7_init_200 lc_4 ?_
  refine o_bipush (pc := 201) dX7_init_201 lb_115 ?_
  refine o_iast (pc := 203) (nn := 16) dX7_init_203 rfl (ck_in rfl) ?_
  change S _ _ _ _ _ _ zs_64 rr_126 mm_125 _ _ _ _
  refine o_dup (pc := 204) dX7_init_204 rfl ?_
  refine o_iconst (pc := 205) dX7_init_205 lc_5 ?_
  refine o_bipush (pc := 206) dX7_init_206 lb_104 ?_
  refine o_iast (pc := 208) (nn := 16) dX7_init_208 rfl (ck_in rfl) ?_
  change S _ _ _ _ _ _ zs_64 rr_126 mm_126 _ _ _ _
  refine o_dup (pc := 209) dX7_init_209 rfl ?_
  refine o_bipush (pc := 210) dX7_init_210 lb_6 ?_
  refine o_bipush (pc := 212) dX7_init_212 lb_121 ?_
  refine o_iast (pc := 214) (nn := 16) dX7_init_214 rfl (ck_in rfl) ?_
  change S _ _ _ _ _ _ zs_64 rr_126 mm_127 _ _ _ _
  refine o_dup (pc := 215) dX7_init_215 rfl ?_
  refine o_bipush (pc := 216) dX7_init_216 lb_7 ?_
  refine o_bipush (pc := 218) dX7_init_218 lb_115 ?_
  refine o_iast (pc := 220) (nn := 16) dX7_init_220 rfl (ck_in rfl) ?_
  change S _ _ _ _ _ _ zs_64 rr_126 mm_128 _ _ _ _
  refine o_dup (pc := 221) dX7_init_221 rfl ?_
  refine o_bipush (pc := 222) dX7_init_222 lb_8 ?_
  refine o_bipush (pc := 224) dX7_init_224 lb_104 ?_
  refine o_iast (pc := 226) (nn := 16) dX7_init_226 rfl (ck_in rfl) ?_
  change S _ _ _ _ _ _ zs_64 rr_126 mm_129 _ _ _ _
  refine o_dup (pc := 227) dX7_init_227 rfl ?_
  refine o_bipush (pc := 228) dX7_init_228 lb_9 ?_
  refine o_bipush (pc := 230) dX7_init_230 lb_111 ?_
  refine o_iast (pc := 232) (nn := 16) dX7_init_232 rfl (ck_in rfl) ?_
  change S _ _ _ _ _ _ zs_64 rr_126 mm_130 _ _ _ _
  refine o_dup (pc := 233) dX7_init_233 rfl ?_
  refine o_bipush (pc := 234) dX7_init_234 lb_10 ?_
  refine o_bipush (pc := 236) dX7_init_236 lb_114 ?_
  refine o_iast (pc := 238) (nn := 16) dX7_init_238 rfl (ck_in rfl) ?_
  change S _ _ _ _ _ _ zs_64 rr_126 mm_131 _ _ _ _
  refine o_dup (pc := 239) dX7_init_239 rfl ?_
  refine o_bipush (pc := 240) dX7_init_240 lb_11 ?_
  refine o_bipush (pc := 242) dX7_init_242 lb_116 ?_
  refine o_iast (pc := 244) (nn := 16) dX7_init_244 rfl (ck_in rfl) ?_
  change S _ _ _ _ _ _ zs_64 rr_126 mm_132 _ _ _ _
  refine o_dup (pc := 245) dX7_init_245 rfl ?_
  refine o_bipush (pc := 246) dX7_init_246 lb_12 ?_
  refine o_bipush (pc := 248) dX7_init_248 lb_109 ?_
  refine o_iast (pc := 250) (nn := 16) dX7_init_250 rfl (ck_in rfl) ?_
  change S _ _ _ _ _ _ zs_64 rr_126 mm_133 _ _ _ _
  refine o_dup (pc := 251) dX7_init_251 rfl ?_
  refine o_bipush (pc := 252) dX7_init_252 lb_13 ?_
  refine o_bipush (pc := 254) dX7_init_254 lb_111 ?_
  refine o_iast (pc := 256) (nn := 16) dX7_init_256 rfl (ck_in rfl) ?_
  change S _ _ _ _ _ _ zs_64 rr_126 mm_134 _ _ _ _
  refine o_dup (pc := 257) dX7_init_257 rfl ?_
  refine o_bipush (pc := 258) dX7_init_258 lb_14 ?_
  refine o_bipush (pc := 260) dX7_init_260 lb_114 ?_
  refine o_iast (pc := 262) (nn := 16) dX7_init_262 rfl (ck_in rfl) ?_
  change S _ _ _ _ _ _ zs_64 rr_126 mm_135 _ _ _ _
  refine o_dup (pc := 263) dX7_init_263 rfl ?_
  refine o_bipush (pc := 264) dX7_init_264 lb_15 ?_
  refine o_bipush (pc := 266) dX7_init_266 lb_101 ?_
  refine o_iast (pc := 268) (nn := 16) dX7_init_268 rfl (ck_in rfl) ?_
  change S _ _ _ _ _ _ zs_64 rr_126 mm_136 _ _ _ _
  refine o_putRF (pc := 269) (r := some 75) (ci := 7) (j := 26) (nn := 0) dX7_init_269 rfl rfl (Nat.le_of_ble_eq_true rfl) k_909 rfl rfl rfl rfl rfl (fun a => by cases a <;> rfl) ?_
  change S _ _ _ _ _ _ zs_64 rr_127 mm_136 _ _ _ _
  refine o_aload_n (pc := 272) 0 dX7_init_272 rfl rfl ?_
  refine o_bipush (pc := 273) dX7_init_273 lb_100 ?_
  refine x_newZ 22 574 (pc := 275) (L := 76) (N := 100) (sh' := zs_65) rfl rfl dX7_init_275 k_1091 (by decide) rfl (by decide) rk_127 (by decide) (okv_l (by decide)) (okv_s (by decide)) (Nat.le_of_ble_eq_true rfl) (Nat.le_of_ble_eq_true rfl) ?_
  change S _ _ _ _ _ _ zs_65 rr_128 mm_137 _ _ _ _
  refine o_putRF (pc := 277) (r := some 76) (ci := 7) (j := 27) (nn := 0) dX7_init_277 rfl rfl (Nat.le_of_ble_eq_true rfl) k_910 rfl rfl rfl rfl rfl (fun a => by cases a <;> rfl) ?_
  change S _ _ _ _ _ _ zs_65 rr_129 mm_137 _ _ _ _
  refine o_aload_n (pc := 280) 0 dX7_init_280 rfl rfl ?_
  refine o_iconst (pc := 281) dX7_init_281 lc_0 ?_
  refine o_putI (pc := 282) (ci := 7) (j := 28) (nn := 0) dX7_init_282 rfl rfl (Nat.le_of_ble_eq_true rfl) k_911 rfl rfl rfl rfl rfl ?_
  change S _ _ _ _ _ _ zs_65 rr_129 mm_138 _ _ _ _
  refine o_aload_n (pc := 285) 0 dX7_init_285 rfl rfl ?_
  refine o_iconst (pc := 286) dX7_init_286 lc_0 ?_
  refine o_putI (pc := 287) (ci := 7) (j := 29) (nn := 0) dX7_init_287 rfl rfl (Nat.le_of_ble_eq_true rfl) k_912 rfl rfl rfl rfl rfl ?_
  change S _ _ _ _ _ _ zs_65 rr_129 mm_139 _ _ _ _
  refine o_aload_n (pc := 290) 0 dX7_init_290 rfl rfl ?_
  refine o_iconst (pc := 291) dX7_init_291 lc_0 ?_
  refine o_putI (pc := 292) (ci := 7) (j := 30) (nn := 0) dX7_init_292 rfl rfl (Nat.le_of_ble_eq_true rfl) k_913 rfl rfl rfl rfl rfl ?_
  change S _ _ _ _ _ _ zs_65 rr_129 mm_140 _ _ _ _
  refine o_aload_n (pc := 295) 0 dX7_init_295 rfl rfl ?_
  refine o_bipush (pc := 296) dX7_init_296 lb_6 ?_
  refine x_newI 21 568 (pc := 298) (L := 77) (N := 6) (sh' := zs_66) rfl rfl dX7_init_298 k_122 (by decide) rfl (by decide) rk_129 (by decide) (okv_l (by decide)) (okv_s (by decide)) (Nat.le_of_ble_eq_true rfl) (Nat.le_of_ble_eq_true rfl) ?_
  change S _ _ _ _ _ _ zs_66 rr_130 mm_141 _ _ _ _
  refine o_putRF (pc := 300) (r := some 77) (ci := 7) (j := 31) (nn := 0) dX7_init_300 rfl rfl (Nat.le_of_ble_eq_true rfl) k_914 rfl rfl rfl rfl rfl (fun a => by cases a <;> rfl) ?_
  change S _ _ _ _ _ _ zs_66 rr_131 mm_141 _ _ _ _
  refine o_aload_n (pc := 303) 0 dX7_init_303 rfl rfl ?_
  refine o_iconst (pc := 304) dX7_init_304 lc_5 ?_
  refine x_newI 20 563 (pc := 305) (L := 78) (N := 5) (sh' := zs_67) rfl rfl dX7_init_305 k_122 (by decide) rfl (by decide) rk_131 (by decide) (okv_l (by decide)) (okv_s (by decide)) (Nat.le_of_ble_eq_true rfl) (Nat.le_of_ble_eq_true rfl) ?_
  change S _ _ _ _ _ _ zs_67 rr_132 mm_142 _ _ _ _
  refine o_putRF (pc := 307) (r := some 78) (ci := 7) (j := 32) (nn := 0) dX7_init_307 rfl rfl (Nat.le_of_ble_eq_true rfl) k_915 rfl rfl rfl rfl rfl (fun a => by cases a <;> rfl) ?_
  change S _ _ _ _ _ _ zs_67 rr_133 mm_142 _ _ _ _
  refine o_aload_n (pc := 310) 0 dX7_init_310 rfl rfl ?_
  refine o_iconst (pc := 311) dX7_init_311 lc_5 ?_
  refine x_newI 19 558 (pc := 312) (L := 79) (N := 5) (sh' := zs_68) rfl rfl dX7_init_312 k_122 (by decide) rfl (by decide) rk_133 (by decide) (okv_l (by decide)) (okv_s (by decide)) (Nat.le_of_ble_eq_true rfl) (Nat.le_of_ble_eq_true rfl) ?_
  change S _ _ _ _ _ _ zs_68 rr_134 mm_143 _ _ _ _
  refine o_putRF (pc := 314) (r := some 79) (ci := 7) (j := 33) (nn := 0) dX7_init_314 rfl rfl (Nat.le_of_ble_eq_true rfl) k_916 rfl rfl rfl rfl rfl (fun a => by cases a <;> rfl) ?_
  change S _ _ _ _ _ _ zs_68 rr_135 mm_143 _ _ _ _
  refine o_aload_n (pc := 317) 0 dX7_init_317 rfl rfl ?_
  refine o_iconst (pc := 318) dX7_init_318 lc_0 ?_
  refine o_putI (pc := 319) (ci := 7) (j := 34) (nn := 0) dX7_init_319 rfl rfl (Nat.le_of_ble_eq_true rfl) k_917 rfl rfl rfl rfl rfl ?_
  change S _ _ _ _ _ _ zs_68 rr_135 mm_144 _ _ _ _
  refine o_aload_n (pc := 322) 0 dX7_init_322 rfl rfl ?_
  refine o_bipush (pc := 323) dX7_init_323 lb_6 ?_
  refine x_newI 18 552 (pc := 325) (L := 80) (N := 6) (sh' := zs_69) rfl rfl dX7_init_325 k_122 (by decide) rfl (by decide) rk_135 (by decide) (okv_l (by decide)) (okv_s (by decide)) (Nat.le_of_ble_eq_true rfl) (Nat.le_of_ble_eq_true rfl) ?_
  change S _ _ _ _ _ _ zs_69 rr_136 mm_145 _ _ _ _
  refine o_putRF (pc := 327) (r := some 80) (ci := 7) (j := 35) (nn := 0) dX7_init_327 rfl rfl (Nat.le_of_ble_eq_true rfl) k_918 rfl rfl rfl rfl rfl (fun a => by cases a <;> rfl) ?_
  change S _ _ _ _ _ _ zs_69 rr_137 mm_145 _ _ _ _
  refine o_aload_n (pc := 330) 0 dX7_init_330 rfl rfl ?_
  refine o_bipush (pc := 331) dX7_init_331 lb_6 ?_
  refine x_newI 17 546 (pc := 333) (L := 81) (N := 6) (sh' := zs_70) rfl rfl dX7_init_333 k_122 (by decide) rfl (by decide) rk_137 (by decide) (okv_l (by decide)) (okv_s (by decide)) (Nat.le_of_ble_eq_true rfl) (Nat.le_of_ble_eq_true rfl) ?_
  change S _ _ _ _ _ _ zs_70 rr_138 mm_146 _ _ _ _
  refine o_putRF (pc := 335) (r := some 81) (ci := 7) (j := 36) (nn := 0) dX7_init_335 rfl rfl (Nat.le_of_ble_eq_true rfl) k_919 rfl rfl rfl rfl rfl (fun a => by cases a <;> rfl) ?_
  change S _ _ _ _ _ _ zs_70 rr_139 mm_146 _ _ _ _
  refine o_aload_n (pc := 338) 0 dX7_init_338 rfl rfl ?_
  refine o_iconst (pc := 339) dX7_init_339 lc_0 ?_
  refine o_putI (pc := 340) (ci := 7) (j := 37) (nn := 0) dX7_init_340 rfl rfl (Nat.le_of_ble_eq_true rfl) k_920 rfl rfl rfl rfl rfl ?_
  change S _ _ _ _ _ _ zs_70 rr_139 mm_147 _ _ _ _
  refine o_aload_n (pc := 343) 0 dX7_init_343 rfl rfl ?_
  refine o_iconst (pc := 344) dX7_init_344 lc_0 ?_
  refine o_putI (pc := 345) (ci := 7) (j := 38) (nn := 0) dX7_init_345 rfl rfl (Nat.le_of_ble_eq_true rfl) k_921 rfl rfl rfl rfl rfl ?_
  change S _ _ _ _ _ _ zs_70 rr_139 mm_148 _ _ _ _
  refine o_aload_n (pc := 348) 0 dX7_init_348 rfl rfl ?_
  refine o_iconst (pc := 349) dX7_init_349 lc_0 ?_
  refine o_putI (pc := 350) (ci := 7) (j := 39) (nn := 0) dX7_init_350 rfl rfl (Nat.le_of_ble_eq_true rfl) k_922 rfl rfl rfl rfl rfl ?_
  change S _ _ _ _ _ _ zs_70 rr_139 mm_149 _ _ _ _
  refine o_aload_n (pc := 353) 0 dX7_init_353 rfl rfl ?_
  refine o_bipush (pc := 354) dX7_init_354 lb_6 ?_
  refine x_newI 16 540 (pc := 356) (L := 82) (N := 6) (sh' := zs_71) rfl rfl dX7_init_356 k_122 (by decide) rfl (by decide) rk_139 (by decide) (okv_l (by decide)) (okv_s (by decide)) (Nat.le_of_ble_eq_true rfl) (Nat.le_of_ble_eq_true rfl) ?_
  change S _ _ _ _ _ _ zs_71 rr_140 mm_150 _ _ _ _
  refine o_putRF (pc := 358) (r := some 82) (ci := 7) (j := 40) (nn := 0) dX7_init_358 rfl rfl (Nat.le_of_ble_eq_true rfl) k_923 rfl rfl rfl rfl rfl (fun a => by cases a <;> rfl) ?_
  change S _ _ _ _ _ _ zs_71 rr_141 mm_150 _ _ _ _
  refine o_aload_n (pc := 361) 0 dX7_init_361 rfl rfl ?_
  refine o_iconst (pc := 362) dX7_init_362 lc_0 ?_
  refine o_putI (pc := 363) (ci := 7) (j := 41) (nn := 0) dX7_init_363 rfl rfl (Nat.le_of_ble_eq_true rfl) k_924 rfl rfl rfl rfl rfl ?_
  change S _ _ _ _ _ _ zs_71 rr_141 mm_151 _ _ _ _
  refine o_aload_n (pc := 366) 0 dX7_init_366 rfl rfl ?_
  refine o_bipush (pc := 367) dX7_init_367 lb_6 ?_
  refine x_newI 15 534 (pc := 369) (L := 83) (N := 6) (sh' := zs_72) rfl rfl dX7_init_369 k_122 (by decide) rfl (by decide) rk_141 (by decide) (okv_l (by decide)) (okv_s (by decide)) (Nat.le_of_ble_eq_true rfl) (Nat.le_of_ble_eq_true rfl) ?_
  change S _ _ _ _ _ _ zs_72 rr_142 mm_152 _ _ _ _
  refine o_putRF (pc := 371) (r := some 83) (ci := 7) (j := 42) (nn := 0) dX7_init_371 rfl rfl (Nat.le_of_ble_eq_true rfl) k_925 rfl rfl rfl rfl rfl (fun a => by cases a <;> rfl) ?_
  change S _ _ _ _ _ _ zs_72 rr_143 mm_152 _ _ _ _
  refine o_aload_n (pc := 374) 0 dX7_init_374 rfl rfl ?_
  refine o_bipush (pc := 375) dX7_init_375 lb_6 ?_
  refine x_newZ 14 528 (pc := 377) (L := 84) (N := 6) (sh' := zs_73) rfl rfl dX7_init_377 k_1091 (by decide) rfl (by decide) rk_143 (by decide) (okv_l (by decide)) (okv_s (by decide)) (Nat.le_of_ble_eq_true rfl) (Nat.le_of_ble_eq_true rfl) ?_
  change S _ _ _ _ _ _ zs_73 rr_144 mm_153 _ _ _ _
  refine o_putRF (pc := 379) (r := some 84) (ci := 7) (j := 43) (nn := 0) dX7_init_379 rfl rfl (Nat.le_of_ble_eq_true rfl) k_926 rfl rfl rfl rfl rfl (fun a => by cases a <;> rfl) ?_
  change S _ _ _ _ _ _ zs_73 rr_145 mm_153 _ _ _ _
  refine o_aload_n (pc := 382) 0 dX7_init_382 rfl rfl ?_
  refine o_iconst (pc := 383) dX7_init_383 lc_0 ?_
  refine o_putI (pc := 384) (ci := 7) (j := 44) (nn := 0) dX7_init_384 rfl rfl (Nat.le_of_ble_eq_true rfl) k_927 rfl rfl rfl rfl rfl ?_
  change S _ _ _ _ _ _ zs_73 rr_145 mm_154 _ _ _ _
  refine o_aload_n (pc := 387) 0 dX7_init_387 rfl rfl ?_
  refine o_bipush (pc := 388) dX7_init_388 lb_8 ?_
  refine x_newI 13 520 (pc := 390) (L := 85) (N := 8) (sh' := zs_74) rfl rfl dX7_init_390 k_122 (by decide) rfl (by decide) rk_145 (by decide) (okv_l (by decide)) (okv_s (by decide)) (Nat.le_of_ble_eq_true rfl) (Nat.le_of_ble_eq_true rfl) ?_
  change S _ _ _ _ _ _ zs_74 rr_146 mm_155 _ _ _ _
  refine o_putRF (pc := 392) (r := some 85) (ci := 7) (j := 45) (nn := 0) dX7_init_392 rfl rfl (Nat.le_of_ble_eq_true rfl) k_928 rfl rfl rfl rfl rfl (fun a => by cases a <;> rfl) ?_
  change S _ _ _ _ _ _ zs_74 rr_147 mm_155 _ _ _ _
  refine o_aload_n (pc := 395) 0 dX7_init_395 rfl rfl ?_
  refine o_iconst (pc := 396) dX7_init_396 lc_0 ?_
  refine o_putI (pc := 397) (ci := 7) (j := 46) (nn := 0) dX7_init_397 rfl rfl (Nat.le_of_ble_eq_true rfl) k_929 rfl rfl rfl rfl rfl ?_
  change S _ _ _ _ _ _ zs_74 rr_147 mm_156 _ _ _ _
  refine o_aload_n (pc := 400) 0 dX7_init_400 rfl rfl ?_
  refine o_iconst (pc := 401) dX7_init_401 lc_m1 ?_
  refine o_putI (pc := 402) (ci := 7) (j := 47) (nn := 0) dX7_init_402 rfl rfl (Nat.le_of_ble_eq_true rfl) k_930 rfl rfl rfl rfl rfl ?_
  change S _ _ _ _ _ _ zs_74 rr_147 mm_157 _ _ _ _
  refine o_aload_n (pc := 405) 0 dX7_init_405 rfl rfl ?_
  refine o_iconst (pc := 406) dX7_init_406 lc_0 ?_
  refine o_putI (pc := 407) (ci := 7) (j := 48) (nn := 0) dX7_init_407 rfl rfl (Nat.le_of_ble_eq_true rfl) k_931 rfl rfl rfl rfl rfl ?_
  change S _ _ _ _ _ _ zs_74 rr_147 mm_158 _ _ _ _
  refine o_aload_n (pc := 410) 0 dX7_init_410 rfl rfl ?_
  refine o_iconst (pc := 411) dX7_init_411 lc_0 ?_
  refine o_putI (pc := 412) (ci := 7) (j := 49) (nn := 0) dX7_init_412 rfl rfl (Nat.le_of_ble_eq_true rfl) k_932 rfl rfl rfl rfl rfl ?_
  change S _ _ _ _ _ _ zs_74 rr_147 mm_159 _ _ _ _
  refine o_aload_n (pc := 415) 0 dX7_init_415 rfl rfl ?_
  refine o_iconst (pc := 416) dX7_init_416 lc_0 ?_
  refine o_putI (pc := 417) (ci := 7) (j := 50) (nn := 0) dX7_init_417 rfl rfl (Nat.le_of_ble_eq_true rfl) k_933 rfl rfl rfl rfl rfl ?_
  change S _ _ _ _ _ _ zs_74 rr_147 mm_160 _ _ _ _
  refine o_aload_n (pc := 420) 0 dX7_init_420 rfl rfl ?_
  refine o_iconst (pc := 421) dX7_init_421 lc_0 ?_
  refine o_putI (pc := 422) (ci := 7) (j := 51) (nn := 0) dX7_init_422 rfl rfl (Nat.le_of_ble_eq_true rfl) k_934 rfl rfl rfl rfl rfl ?_
  change S _ _ _ _ _ _ zs_74 rr_147 mm_161 _ _ _ _
  refine o_aload_n (pc := 425) 0 dX7_init_425 rfl rfl ?_
  refine o_iconst (pc := 426) dX7_init_426 lc_0 ?_
  refine o_putI (pc := 427) (ci := 7) (j := 52) (nn := 0) dX7_init_427 rfl rfl (Nat.le_of_ble_eq_true rfl) k_935 rfl rfl rfl rfl rfl ?_
  change S _ _ _ _ _ _ zs_74 rr_147 mm_162 _ _ _ _
  refine o_aload_n (pc := 430) 0 dX7_init_430 rfl rfl ?_
  refine o_iconst (pc := 431) dX7_init_431 lc_0 ?_
  refine o_putI (pc := 432) (ci := 7) (j := 53) (nn := 0) dX7_init_432 rfl rfl (Nat.le_of_ble_eq_true rfl) k_936 rfl rfl rfl rfl rfl ?_
  change S _ _ _ _ _ _ zs_74 rr_147 mm_163 _ _ _ _
  refine o_aload_n (pc := 435) 0 dX7_init_435 rfl rfl ?_
  refine o_iconst (pc := 436) dX7_init_436 lc_0 ?_
  refine o_putI (pc := 437) (ci := 7) (j := 54) (nn := 0) dX7_init_437 rfl rfl (Nat.le_of_ble_eq_true rfl) k_937 rfl rfl rfl rfl rfl ?_
  change S _ _ _ _ _ _ zs_74 rr_147 mm_164 _ _ _ _
  refine o_aload_n (pc := 440) 0 dX7_init_440 rfl rfl ?_
  refine o_bipush (pc := 441) dX7_init_441 lb_6 ?_
  refine x_newI 12 514 (pc := 443) (L := 86) (N := 6) (sh' := zs_75) rfl rfl dX7_init_443 k_122 (by decide) rfl (by decide) rk_147 (by decide) (okv_l (by decide)) (okv_s (by decide)) (Nat.le_of_ble_eq_true rfl) (Nat.le_of_ble_eq_true rfl) ?_
  change S _ _ _ _ _ _ zs_75 rr_148 mm_165 _ _ _ _
  refine o_putRF (pc := 445) (r := some 86) (ci := 7) (j := 55) (nn := 0) dX7_init_445 rfl rfl (Nat.le_of_ble_eq_true rfl) k_938 rfl rfl rfl rfl rfl (fun a => by cases a <;> rfl) ?_
  change S _ _ _ _ _ _ zs_75 rr_149 mm_165 _ _ _ _
  refine o_aload_n (pc := 448) 0 dX7_init_448 rfl rfl ?_
  refine o_bipush (pc := 449) dX7_init_449 lb_6 ?_
  refine x_newI 11 508 (pc := 451) (L := 87) (N := 6) (sh' := zs_76) rfl rfl dX7_init_451 k_122 (by decide) rfl (by decide) rk_149 (by decide) (okv_l (by decide)) (okv_s (by decide)) (Nat.le_of_ble_eq_true rfl) (Nat.le_of_ble_eq_true rfl) ?_
  change S _ _ _ _ _ _ zs_76 rr_150 mm_166 _ _ _ _
  refine o_putRF (pc := 453) (r := some 87) (ci := 7) (j := 56) (nn := 0) dX7_init_453 rfl rfl (Nat.le_of_ble_eq_true rfl) k_939 rfl rfl rfl rfl rfl (fun a => by cases a <;> rfl) ?_
  change S _ _ _ _ _ _ zs_76 rr_151 mm_166 _ _ _ _
  refine o_aload_n (pc := 456) 0 dX7_init_456 rfl rfl ?_
  refine o_bipush (pc := 457) dX7_init_457 lb_6 ?_
  refine x_newI 10 502 (pc := 459) (L := 88) (N := 6) (sh' := zs_77) rfl rfl dX7_init_459 k_122 (by decide) rfl (by decide) rk_151 (by decide) (okv_l (by decide)) (okv_s (by decide)) (Nat.le_of_ble_eq_true rfl) (Nat.le_of_ble_eq_true rfl) ?_
  change S _ _ _ _ _ _ zs_77 rr_152 mm_167 _ _ _ _
  refine o_putRF (pc := 461) (r := some 88) (ci := 7) (j := 57) (nn := 0) dX7_init_461 rfl rfl (Nat.le_of_ble_eq_true rfl) k_940 rfl rfl rfl rfl rfl (fun a => by cases a <;> rfl) ?_
  change S _ _ _ _ _ _ zs_77 rr_153 mm_167 _ _ _ _
  refine o_aload_n (pc := 464) 0 dX7_init_464 rfl rfl ?_
  refine o_bipush (pc := 465) dX7_init_465 lb_6 ?_
  refine x_newI 9 496 (pc := 467) (L := 89) (N := 6) (sh' := zs_78) rfl rfl dX7_init_467 k_122 (by decide) rfl (by decide) rk_153 (by decide) (okv_l (by decide)) (okv_s (by decide)) (Nat.le_of_ble_eq_true rfl) (Nat.le_of_ble_eq_true rfl) ?_
  change S _ _ _ _ _ _ zs_78 rr_154 mm_168 _ _ _ _
  refine o_putRF (pc := 469) (r := some 89) (ci := 7) (j := 58) (nn := 0) dX7_init_469 rfl rfl (Nat.le_of_ble_eq_true rfl) k_941 rfl rfl rfl rfl rfl (fun a => by cases a <;> rfl) ?_
  change S _ _ _ _ _ _ zs_78 rr_155 mm_168 _ _ _ _
  refine o_aload_n (pc := 472) 0 dX7_init_472 rfl rfl ?_
  refine o_bipush (pc := 473) dX7_init_473 lb_24 ?_
  refine x_newI 8 472 (pc := 475) (L := 90) (N := 24) (sh' := zs_79) rfl rfl dX7_init_475 k_122 (by decide) rfl (by decide) rk_155 (by decide) (okv_l (by decide)) (okv_s (by decide)) (Nat.le_of_ble_eq_true rfl) (Nat.le_of_ble_eq_true rfl) ?_
  change S _ _ _ _ _ _ zs_79 rr_156 mm_169 _ _ _ _
  refine o_putRF (pc := 477) (r := some 90) (ci := 7) (j := 59) (nn := 0) dX7_init_477 rfl rfl (Nat.le_of_ble_eq_true rfl) k_942 rfl rfl rfl rfl rfl (fun a => by cases a <;> rfl) ?_
  change S _ _ _ _ _ _ zs_79 rr_157 mm_169 _ _ _ _
  refine o_aload_n (pc := 480) 0 dX7_init_480 rfl rfl ?_
  refine o_bipush (pc := 481) dX7_init_481 lb_6 ?_
  refine x_newI 7 466 (pc := 483) (L := 91) (N := 6) (sh' := zs_80) rfl rfl dX7_init_483 k_122 (by decide) rfl (by decide) rk_157 (by decide) (okv_l (by decide)) (okv_s (by decide)) (Nat.le_of_ble_eq_true rfl) (Nat.le_of_ble_eq_true rfl) ?_
  change S _ _ _ _ _ _ zs_80 rr_158 mm_170 _ _ _ _
  refine o_putRF (pc := 485) (r := some 91) (ci := 7) (j := 60) (nn := 0) dX7_init_485 rfl rfl (Nat.le_of_ble_eq_true rfl) k_943 rfl rfl rfl rfl rfl (fun a => by cases a <;> rfl) ?_
  change S _ _ _ _ _ _ zs_80 rr_159 mm_170 _ _ _ _
  refine o_aload_n (pc := 488) 0 dX7_init_488 rfl rfl ?_
  refine o_bipush (pc := 489) dX7_init_489 lb_8 ?_
  refine x_newI 6 458 (pc := 491) (L := 92) (N := 8) (sh' := zs_81) rfl rfl dX7_init_491 k_122 (by decide) rfl (by decide) rk_159 (by decide) (okv_l (by decide)) (okv_s (by decide)) (Nat.le_of_ble_eq_true rfl) (Nat.le_of_ble_eq_true rfl) ?_
  change S _ _ _ _ _ _ zs_81 rr_160 mm_171 _ _ _ _
  refine o_putRF (pc := 493) (r := some 92) (ci := 7) (j := 61) (nn := 0) dX7_init_493 rfl rfl (Nat.le_of_ble_eq_true rfl) k_944 rfl rfl rfl rfl rfl (fun a => by cases a <;> rfl) ?_
  change S _ _ _ _ _ _ zs_81 rr_161 mm_171 _ _ _ _
  refine o_aload_n (pc := 496) 0 dX7_init_496 rfl rfl ?_
  refine o_bipush (pc := 497) dX7_init_497 lb_6 ?_
  refine x_newZ 5 452 (pc := 499) (L := 93) (N := 6) (sh' := zs_82) rfl rfl dX7_init_499 k_1091 (by decide) rfl (by decide) rk_161 (by decide) (okv_l (by decide)) (okv_s (by decide)) (Nat.le_of_ble_eq_true rfl) (Nat.le_of_ble_eq_true rfl) ?_
  change S _ _ _ _ _ _ zs_82 rr_162 mm_172 _ _ _ _
  refine o_putRF (pc := 501) (r := some 93) (ci := 7) (j := 62) (nn := 0) dX7_init_501 rfl rfl (Nat.le_of_ble_eq_true rfl) k_945 rfl rfl rfl rfl rfl (fun a => by cases a <;> rfl) ?_
  change S _ _ _ _ _ _ zs_82 rr_163 mm_172 _ _ _ _
  refine o_aload_n (pc := 504) 0 dX7_init_504 rfl rfl ?_
  refine o_iconst (pc := 505) dX7_init_505 lc_0 ?_
  refine o_putI (pc := 506) (ci := 7) (j := 63) (nn := 0) dX7_init_506 rfl rfl (Nat.le_of_ble_eq_true rfl) k_946 rfl rfl rfl rfl rfl ?_
  change S _ _ _ _ _ _ zs_82 rr_163 mm_173 _ _ _ _
  refine o_aload_n (pc := 509) 0 dX7_init_509 rfl rfl ?_
  refine o_bipush (pc := 510) dX7_init_510 lb_20 ?_
  refine x_newI 4 432 (pc := 512) (L := 94) (N := 20) (sh' := zs_83) rfl rfl dX7_init_512 k_122 (by decide) rfl (by decide) rk_163 (by decide) (okv_l (by decide)) (okv_s (by decide)) (Nat.le_of_ble_eq_true rfl) (Nat.le_of_ble_eq_true rfl) ?_
  change S _ _ _ _ _ _ zs_83 rr_164 mm_174 _ _ _ _
  refine o_putRF (pc := 514) (r := some 94) (ci := 7) (j := 64) (nn := 0) dX7_init_514 rfl rfl (Nat.le_of_ble_eq_true rfl) k_947 rfl rfl rfl rfl rfl (fun a => by cases a <;> rfl) ?_
  change S _ _ _ _ _ _ zs_83 rr_165 mm_174 _ _ _ _
  refine o_aload_n (pc := 517) 0 dX7_init_517 rfl rfl ?_
  refine o_bipush (pc := 518) dX7_init_518 lb_6 ?_
  refine x_newI 3 426 (pc := 520) (L := 95) (N := 6) (sh' := zs_84) rfl rfl dX7_init_520 k_122 (by decide) rfl (by decide) rk_165 (by decide) (okv_l (by decide)) (okv_s (by decide)) (Nat.le_of_ble_eq_true rfl) (Nat.le_of_ble_eq_true rfl) ?_
  change S _ _ _ _ _ _ zs_84 rr_166 mm_175 _ _ _ _
  refine o_dup (pc := 522) dX7_init_522 rfl ?_
  refine o_iconst (pc := 523) dX7_init_523 lc_0 ?_
  refine o_iconst (pc := 524) dX7_init_524 lc_m1 ?_
  refine o_iast (pc := 525) (nn := 6) dX7_init_525 rfl (ck_in rfl) ?_
  change S _ _ _ _ _ _ zs_84 rr_166 mm_176 _ _ _ _
  refine o_dup (pc := 526) dX7_init_526 rfl ?_
  refine o_iconst (pc := 527) dX7_init_527 lc_1 ?_
  refine o_iconst (pc := 528) dX7_init_528 lc_m1 ?_
  refine o_iast (pc := 529) (nn := 6) dX7_init_529 rfl (ck_in rfl) ?_
  change S _ _ _ _ _ _ zs_84 rr_166 mm_177 _ _ _ _
  refine o_dup (pc := 530) dX7_init_530 rfl ?_
  refine o_iconst (pc := 531) dX7_init_531 lc_2 ?_
  refine o_iconst (pc := 532) dX7_init_532 lc_m1 ?_
  refine o_iast (pc := 533) (nn := 6) dX7_init_533 rfl (ck_in rfl) ?_
  change S _ _ _ _ _ _ zs_84 rr_166 mm_178 _ _ _ _
  refine o_dup (pc := 534) dX7_init_534 rfl ?_
  refine o_iconst (pc := 535) dX7_init_535 lc_3 ?_
  refine o_iconst (pc := 536) dX7_init_536 lc_m1 ?_
  refine o_iast (pc := 537) (nn := 6) dX7_init_537 rfl (ck_in rfl) ?_
  change S _ _ _ _ _ _ zs_84 rr_166 mm_179 _ _ _ _
  refine o_dup (pc := 538) dX7_init_538 rfl ?_
  refine o_iconst (pc := 539) dX7_init_539 lc_4 ?_
  refine o_iconst (pc := 540) dX7_init_540 lc_m1 ?_
  refine o_iast (pc := 541) (nn := 6) dX7_init_541 rfl (ck_in rfl) ?_
  change S _ _ _ _ _ _ zs_84 rr_166 mm_180 _ _ _ _
  refine o_dup (pc := 542) dX7_init_542 rfl ?_
  refine o_iconst (pc := 543) dX7_init_543 lc_5 ?_
  refine o_iconst (pc := 544) dX7_init_544 lc_m1 ?_
  refine o_iast (pc := 545) (nn := 6) dX7_init_545 rfl (ck_in rfl) ?_
  change S _ _ _ _ _ _ zs_84 rr_166 mm_181 _ _ _ _
  refine o_putRF (pc := 546) (r := some 95) (ci := 7) (j := 65) (nn := 0) dX7_init_546 rfl rfl (Nat.le_of_ble_eq_true rfl) k_948 rfl rfl rfl rfl rfl (fun a => by cases a <;> rfl) ?_
  change S _ _ _ _ _ _ zs_84 rr_167 mm_181 _ _ _ _
  refine o_aload_n (pc := 549) 0 dX7_init_549 rfl rfl ?_
  refine o_bipush (pc := 550) dX7_init_550 lb_6 ?_
  refine x_newI 2 420 (pc := 552) (L := 96) (N := 6) (sh' := zs_85) rfl rfl dX7_init_552 k_122 (by decide) rfl (by decide) rk_167 (by decide) (okv_l (by decide)) (okv_s (by decide)) (Nat.le_of_ble_eq_true rfl) (Nat.le_of_ble_eq_true rfl) ?_
  change S _ _ _ _ _ _ zs_85 rr_168 mm_182 _ _ _ _
  refine o_putRF (pc := 554) (r := some 96) (ci := 7) (j := 66) (nn := 0) dX7_init_554 rfl rfl (Nat.le_of_ble_eq_true rfl) k_949 rfl rfl rfl rfl rfl (fun a => by cases a <;> rfl) ?_
  change S _ _ _ _ _ _ zs_85 rr_169 mm_182 _ _ _ _
  refine o_aload_n (pc := 557) 0 dX7_init_557 rfl rfl ?_
  refine o_sipush (pc := 558) dX7_init_558 ls_360 ?_
  refine x_newJ 1 60 (pc := 561) (L := 97) (N := 360) (sh' := zs_86) rfl rfl dX7_init_561 k_218 (by decide) rfl (by decide) rk_169 (by decide) (okv_l (by decide)) (okv_s (by decide)) (Nat.le_of_ble_eq_true rfl) (Nat.le_of_ble_eq_true rfl) ?_
  change S _ _ _ _ _ _ zs_86 rr_170 mm_183 _ _ _ _
  refine o_putRF (pc := 563) (r := some 97) (ci := 7) (j := 67) (nn := 0) dX7_init_563 rfl rfl (Nat.le_of_ble_eq_true rfl) k_950 rfl rfl rfl rfl rfl (fun a => by cases a <;> rfl) ?_
  change S _ _ _ _ _ _ zs_86 rr_171 mm_183 _ _ _ _
  refine o_aload_n (pc := 566) 0 dX7_init_566 rfl rfl ?_
  refine o_bipush (pc := 567) dX7_init_567 lb_60 ?_
  refine x_newJ 0 0 (pc := 569) (L := 98) (N := 60) (sh' := zs_87) rfl rfl dX7_init_569 k_218 (by decide) rfl (by decide) rk_171 (by decide) (okv_l (by decide)) (okv_s (by decide)) (Nat.le_of_ble_eq_true rfl) (Nat.le_of_ble_eq_true rfl) ?_
  change S _ _ _ _ _ _ zs_87 rr_172 mm_184 _ _ _ _
  refine o_putRF (pc := 571) (r := some 98) (ci := 7) (j := 68) (nn := 0) dX7_init_571 rfl rfl (Nat.le_of_ble_eq_true rfl) k_951 rfl rfl rfl rfl rfl (fun a => by cases a <;> rfl) ?_
  change S _ _ _ _ _ _ zs_87 rr_173 mm_184 _ _ _ _
  refine o_aload_n (pc := 574) 0 dX7_init_574 rfl rfl ?_
  refine x_callV (d2 := 4) (Y2 := YX7_layFist) (av := []) (rest := []) (m' := mm_185) (pc := 575) dX7_init_575 k_859 cm_X7_layFist (by rw [← lay_mm]; exact sM_layFist Fx_mm mm_184) rfl rfl rfl (Nat.le_of_ble_eq_true rfl) (Nat.le_of_ble_eq_true rfl) ?_
  exact o_vret (pc := 578) dX7_init_578 rfl rfl
