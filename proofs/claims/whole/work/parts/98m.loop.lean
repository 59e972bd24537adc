/-! THE LAW's LOOP (printed by wip/whole/lawr.py) -/
theorem dts : decode code 33 = .ok (.tableswitch 1245 0 36 #[163, 196, 229, 262, 305, 338, 361, 374, 397, 420, 443, 456, 479, 512, 545, 558, 602, 646, 659, 672, 695, 744, 757, 791, 815, 838, 851, 884, 897, 910, 953, 976, 1009, 1032, 1075, 1148, 1182], 163) := by decide +kernel
theorem I_nI {a : Nat} (h : a < 2 ^ 31) : (nI a).toInt = a := by
  have := sub_I (a := a) (b := 0) h (by omega)
  rw [show nI 0 = 0 from rfl, Int32.sub_zero] at this
  omega
theorem and63 (x : Int32) : ∃ t, t < 64 ∧ x &&& 63 = nI t := by
  refine ⟨(x &&& 63).toBitVec.toNat, ?_, ?_⟩
  · rw [Int32.toBitVec_and, BitVec.toNat_and]
    exact Nat.lt_of_le_of_lt Nat.and_le_right (by decide)
  · refine Int32.toBitVec_inj.mp ?_
    rw [nI_bv, BitVec.ofNat_toNat, BitVec.setWidth_eq]
set_option maxRecDepth 100000
theorem L_disp {X : LX} {L ii : Nat} {xs : Nat → Int32} {k n : Nat} {sh : Sh} {R : RR} {m : MI} (C : X.ok L xs) (hL : L ≤ 3072) (hi : ii + 6 ≤ L) (H : Rel sh R m) (g : ∀ sh' R' m', Rel sh' R' m' → LG X k n sh' (mk m' R') 1278 (lsI (nI ii)) []) : ∀ (t : Nat), t < 64 → LG X (k + 4) (n + 206) sh (mk m R) 33 (lsI (nI ii)) [.int (nI t)]
  | 0, _ => L_ts_in C (off := 163) (tgt := 196) dts (by decide +kernel) (by decide +kernel) (by decide +kernel) (by decide) (arm_0 C hL hi H g)
  | 1, _ => L_ts_in C (off := 196) (tgt := 229) dts (by decide +kernel) (by decide +kernel) (by decide +kernel) (by decide) (arm_1 C hL hi H g)
  | 2, _ => L_ts_in C (off := 229) (tgt := 262) dts (by decide +kernel) (by decide +kernel) (by decide +kernel) (by decide) (arm_2 C hL hi H g)
  | 3, _ => L_ts_in C (off := 262) (tgt := 295) dts (by decide +kernel) (by decide +kernel) (by decide +kernel) (by decide) (arm_3 C hL hi H g)
  | 4, _ => L_ts_in C (off := 305) (tgt := 338) dts (by decide +kernel) (by decide +kernel) (by decide +kernel) (by decide) (arm_4 C hL hi H g)
  | 5, _ => L_ts_in C (off := 338) (tgt := 371) dts (by decide +kernel) (by decide +kernel) (by decide +kernel) (by decide) (arm_5 C hL hi H g)
  | 6, _ => L_ts_in C (off := 361) (tgt := 394) dts (by decide +kernel) (by decide +kernel) (by decide +kernel) (by decide) (arm_6 C hL hi H g)
  | 7, _ => L_ts_in C (off := 374) (tgt := 407) dts (by decide +kernel) (by decide +kernel) (by decide +kernel) (by decide) (arm_7 C hL hi H g)
  | 8, _ => L_ts_in C (off := 397) (tgt := 430) dts (by decide +kernel) (by decide +kernel) (by decide +kernel) (by decide) (arm_8 C hL hi H g)
  | 9, _ => L_ts_in C (off := 420) (tgt := 453) dts (by decide +kernel) (by decide +kernel) (by decide +kernel) (by decide) (arm_9 C hL hi H g)
  | 10, _ => L_ts_in C (off := 443) (tgt := 476) dts (by decide +kernel) (by decide +kernel) (by decide +kernel) (by decide) (arm_10 C hL hi H g)
  | 11, _ => L_ts_in C (off := 456) (tgt := 489) dts (by decide +kernel) (by decide +kernel) (by decide +kernel) (by decide) (arm_11 C hL hi H g)
  | 12, _ => L_ts_in C (off := 479) (tgt := 512) dts (by decide +kernel) (by decide +kernel) (by decide +kernel) (by decide) (arm_12 C hL hi H g)
  | 13, _ => L_ts_in C (off := 512) (tgt := 545) dts (by decide +kernel) (by decide +kernel) (by decide +kernel) (by decide) (arm_13 C hL hi H g)
  | 14, _ => L_ts_in C (off := 545) (tgt := 578) dts (by decide +kernel) (by decide +kernel) (by decide +kernel) (by decide) (arm_14 C hL hi H g)
  | 15, _ => L_ts_in C (off := 558) (tgt := 591) dts (by decide +kernel) (by decide +kernel) (by decide +kernel) (by decide) (arm_15 C hL hi H g)
  | 16, _ => L_ts_in C (off := 602) (tgt := 635) dts (by decide +kernel) (by decide +kernel) (by decide +kernel) (by decide) (arm_16 C hL hi H g)
  | 17, _ => L_ts_in C (off := 646) (tgt := 679) dts (by decide +kernel) (by decide +kernel) (by decide +kernel) (by decide) (arm_17 C hL hi H g)
  | 18, _ => L_ts_in C (off := 659) (tgt := 692) dts (by decide +kernel) (by decide +kernel) (by decide +kernel) (by decide) (arm_18 C hL hi H g)
  | 19, _ => L_ts_in C (off := 672) (tgt := 705) dts (by decide +kernel) (by decide +kernel) (by decide +kernel) (by decide) (arm_19 C hL hi H g)
  | 20, _ => L_ts_in C (off := 695) (tgt := 728) dts (by decide +kernel) (by decide +kernel) (by decide +kernel) (by decide) (arm_20 C hL hi H g)
  | 21, _ => L_ts_in C (off := 744) (tgt := 777) dts (by decide +kernel) (by decide +kernel) (by decide +kernel) (by decide) (arm_21 C hL hi H g)
  | 22, _ => L_ts_in C (off := 757) (tgt := 790) dts (by decide +kernel) (by decide +kernel) (by decide +kernel) (by decide) (arm_22 C hL hi H g)
  | 23, _ => L_ts_in C (off := 791) (tgt := 824) dts (by decide +kernel) (by decide +kernel) (by decide +kernel) (by decide) (arm_23 C hL hi H g)
  | 24, _ => L_ts_in C (off := 815) (tgt := 848) dts (by decide +kernel) (by decide +kernel) (by decide +kernel) (by decide) (arm_24 C hL hi H g)
  | 25, _ => L_ts_in C (off := 838) (tgt := 871) dts (by decide +kernel) (by decide +kernel) (by decide +kernel) (by decide) (arm_25 C hL hi H g)
  | 26, _ => L_ts_in C (off := 851) (tgt := 884) dts (by decide +kernel) (by decide +kernel) (by decide +kernel) (by decide) (arm_26 C hL hi H g)
  | 27, _ => L_ts_in C (off := 884) (tgt := 917) dts (by decide +kernel) (by decide +kernel) (by decide +kernel) (by decide) (arm_27 C hL hi H g)
  | 28, _ => L_ts_in C (off := 897) (tgt := 930) dts (by decide +kernel) (by decide +kernel) (by decide +kernel) (by decide) (arm_28 C hL hi H g)
  | 29, _ => L_ts_in C (off := 910) (tgt := 943) dts (by decide +kernel) (by decide +kernel) (by decide +kernel) (by decide) (arm_29 C hL hi H g)
  | 30, _ => L_ts_in C (off := 953) (tgt := 986) dts (by decide +kernel) (by decide +kernel) (by decide +kernel) (by decide) (arm_30 C hL hi H g)
  | 31, _ => L_ts_in C (off := 976) (tgt := 1009) dts (by decide +kernel) (by decide +kernel) (by decide +kernel) (by decide) (arm_31 C hL hi H g)
  | 32, _ => L_ts_in C (off := 1009) (tgt := 1042) dts (by decide +kernel) (by decide +kernel) (by decide +kernel) (by decide) (arm_32 C hL hi H g)
  | 33, _ => L_ts_in C (off := 1032) (tgt := 1065) dts (by decide +kernel) (by decide +kernel) (by decide +kernel) (by decide) (arm_33 C hL hi H g)
  | 34, _ => L_ts_in C (off := 1075) (tgt := 1108) dts (by decide +kernel) (by decide +kernel) (by decide +kernel) (by decide) (arm_34 C hL hi H g)
  | 35, _ => L_ts_in C (off := 1148) (tgt := 1181) dts (by decide +kernel) (by decide +kernel) (by decide +kernel) (by decide) (arm_35 C hL hi H g)
  | 36, _ => L_ts_in C (off := 1182) (tgt := 1215) dts (by decide +kernel) (by decide +kernel) (by decide +kernel) (by decide) (arm_36 C hL hi H g)
  | t + 37, ht => L_ts_out C (tgt := 1278) (Or.inr (by rw [I_nI (by omega)]; omega)) dts (by decide) (L_less (by omega) (by omega) (g sh R m H))
theorem L_loop {X : LX} {L : Nat} {xs : Nat → Int32} (C : X.ok L xs) (hL : L ≤ 3072) : ∀ (q ii : Nat) (sh : Sh) (R : RR) (m : MI), Rel sh R m → L < ii + 6 * q → ii ≤ 4000 → LG X (4 * q) (206 * q) sh (mk m R) 18 (lsI (nI ii)) [] := by
  intro q
  induction q with
  | zero =>
    intro ii sh R m H hq hi
    refine L_iload_n (q := 3) (j := 3) C 0 (by decide +kernel) rfl rfl ?_
    refine L_aload_n (q := 0) (j := 0) C 3 (by decide +kernel) rfl rfl ?_
    refine L_slen C (by decide +kernel) ?_
    refine L_bipush C (v := 6) (x := nI 6) (by decide +kernel) rfl ?_
    refine L_isub C (by decide +kernel) ?_
    refine L_icmp_gt_t C (tgt := 1284) (off := 1260) (by decide +kernel) (by decide) (by rw [Int32.lt_iff_toInt_lt, sub_I (by omega) (by omega), I_nI (by omega)]; omega) ?_
    exact L_end C (by decide +kernel) (by decide +kernel)
  | succ q ih =>
    intro ii sh R m H hq hi
    refine L_iload_n (q := 3) (j := 3) C 0 (by decide +kernel) rfl rfl ?_
    refine L_aload_n (q := 0) (j := 0) C 3 (by decide +kernel) rfl rfl ?_
    refine L_slen C (by decide +kernel) ?_
    refine L_bipush C (v := 6) (x := nI 6) (by decide +kernel) rfl ?_
    refine L_isub C (by decide +kernel) ?_
    by_cases h : ii + 6 ≤ L
    · refine L_icmp_gt_f C (tgt := 1284) (off := 1260) (by decide +kernel) (by decide) (by rw [Int32.lt_iff_toInt_lt, sub_I (by omega) (by omega), I_nI (by omega)]; omega) ?_
      refine L_aload_n (q := 0) (j := 0) C 3 (by decide +kernel) rfl rfl ?_
      refine L_iload_n (q := 3) (j := 3) C 0 (by decide +kernel) rfl rfl ?_
      refine L_sld C (j := ii) (vp_in_nI (by omega) (by omega)) (nI_clamp (by omega)) (by decide +kernel) ?_
      refine L_bipush C (v := 63) (x := 63) (by decide +kernel) rfl ?_
      refine L_iand C (by decide +kernel) ?_
      obtain ⟨t, ht, e⟩ := and63 (xs ii)
      rw [e]
      refine L_disp (k := 4 * q) (n := 206 * q) C hL h H (fun sh' R' m' H' => ?_) t ht
      refine L_iinc C (c := 6) (v := nI (ii + 6)) (ls' := lsI (nI (ii + 6))) 0 (by decide +kernel) rfl (by rw [show Int32.ofInt 6 = nI 6 from rfl, nI_add]) (by omega) rfl ?_
      exact L_goto C (tgt := 18) (off := -1263) (by decide +kernel) (by decide) (ih (ii + 6) sh' R' m' H' (by omega) (by omega))
    · refine L_icmp_gt_t C (tgt := 1284) (off := 1260) (by decide +kernel) (by decide) (by rw [Int32.lt_iff_toInt_lt, sub_I (by omega) (by omega), I_nI (by omega)]; omega) ?_
      exact L_less (by omega) (by omega) (L_end C (by decide +kernel) (by decide +kernel))
