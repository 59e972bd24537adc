def fC_stepOrder_41_l4 (u1 : Int32) (k0_0 : MI → Int32 → Option (Int32 × MI)) : Nat → MI → Int32 → Option (Int32 × MI)
  | 0, _, _ => none
  | n0 + 1, m, v2 =>
    if v2 < 0 then
      k0_0 m v2
    else
      if ck v2 6 = true then
        if ck (v2 + 1) 6 = true then
          if m.1 41 v2.toNatClampNeg ≤ m.1 41 (v2 + 1).toNatClampNeg then
            k0_0 m v2
          else
            lt (v2 + (-1)) fun x5 =>
            fC_stepOrder_41_l4 u1 k0_0 n0 m x5
        else none
      else none
theorem sC_stepOrder_41_l4 {sh : Sh} {R : RR} (hF : Fx sh R) (u1 : Int32) (k0_0 : MI → Int32 → Option (Int32 × MI)) (hk0_0 : ∀ (m : MI) (v2 : Int32) , S (eI sh R) false 1 0 0 YX6_stepOrder sh R m 25 [(0, .ref 41), (1, .int u1), (2, .int v2)] [] (k0_0 m v2)) : ∀ (n : Nat) (m : MI) (v2 : Int32) , S (eI sh R) false 1 0 0 YX6_stepOrder sh R m 4 [(0, .ref 41), (1, .int u1), (2, .int v2)] [] (fC_stepOrder_41_l4 u1 k0_0 n m v2) := by
  intro n
  induction n with
  | zero => intros; exact S_none
  | succ n0 ih0 =>
    intro m v2
    rw [fC_stepOrder_41_l4]
    refine o_iload_n (pc := 4) 2 dX6_stepOrder_4 rfl rfl <| ?_
    refine o_if_lt (pc := 5) (tgt := 25) dX6_stepOrder_5 rfl (fun h1 => ?_) (fun h1 => ?_)
    · exact hk0_0 m v2
    · refine o_aload_n (pc := 8) 0 dX6_stepOrder_8 rfl rfl <| o_iload_n (pc := 9) 2 dX6_stepOrder_9 rfl rfl <| ?_
      refine S_ck fun h2 => ?_
      refine o_iald (pc := 10) (nn := 6) dX6_stepOrder_10 (hF.1 _ _ rfl) (ck_in h2) <| o_aload_n (pc := 11) 0 dX6_stepOrder_11 rfl rfl <| o_iload_n (pc := 12) 2 dX6_stepOrder_12 rfl rfl <| o_iconst (pc := 13) dX6_stepOrder_13 lc_1 <| o_iadd (pc := 14) dX6_stepOrder_14 <| ?_
      refine S_ck fun h3 => ?_
      refine o_iald (pc := 15) (nn := 6) dX6_stepOrder_15 (hF.1 _ _ rfl) (ck_in h3) <| ?_
      refine o_icmp_le (pc := 16) (tgt := 25) dX6_stepOrder_16 rfl (fun h4 => ?_) (fun h4 => ?_)
      · exact hk0_0 m v2
      · refine o_iinc (pc := 19) 2 (v := v2 + (-1)) (ls' := [(2, .int (v2 + (-1))), (0, .ref 41), (1, .int u1)]) dX6_stepOrder_19 rfl rfl (Nat.le_of_ble_eq_true rfl) rfl <| ?_
        refine o_ltL (ls := fun x5 => [(2, .int x5), (0, .ref 41), (1, .int u1)]) fun x5 => ?_
        refine o_goto (pc := 22) (tgt := 4) dX6_stepOrder_22 rfl <| ?_
        refine o_sub [1, 2, 0] (ls' := [(0, .ref 41), (1, .int u1), (2, .int x5)]) rfl ?_
        exact ih0 m x5
def fC_stepOrder_41_l35 (u1 : Int32) (u2 : Int32) (k0_0 : MI → Int32 → Option (Int32 × MI)) : Nat → MI → Int32 → Option (Int32 × MI)
  | 0, _, _ => none
  | n0 + 1, m, v3 =>
    if v3 ≤ u2 then
      k0_0 m v3
    else
      if ck v3 6 = true then
        if ck u2 6 = true then
          if m.1 41 u2.toNatClampNeg ≤ m.1 41 v3.toNatClampNeg then
            k0_0 m v3
          else
            lt (v3 + (-1)) fun x5 =>
            fC_stepOrder_41_l35 u1 u2 k0_0 n0 m x5
        else none
      else none
theorem sC_stepOrder_41_l35 {sh : Sh} {R : RR} (hF : Fx sh R) (u1 : Int32) (u2 : Int32) (k0_0 : MI → Int32 → Option (Int32 × MI)) (hk0_0 : ∀ (m : MI) (v3 : Int32) , S (eI sh R) false 1 0 0 YX6_stepOrder sh R m 55 [(0, .ref 41), (1, .int u1), (2, .int u2), (3, .int v3)] [] (k0_0 m v3)) : ∀ (n : Nat) (m : MI) (v3 : Int32) , S (eI sh R) false 1 0 0 YX6_stepOrder sh R m 35 [(0, .ref 41), (1, .int u1), (2, .int u2), (3, .int v3)] [] (fC_stepOrder_41_l35 u1 u2 k0_0 n m v3) := by
  intro n
  induction n with
  | zero => intros; exact S_none
  | succ n0 ih0 =>
    intro m v3
    rw [fC_stepOrder_41_l35]
    refine o_iload_n (pc := 35) 3 dX6_stepOrder_35 rfl rfl <| o_iload_n (pc := 36) 2 dX6_stepOrder_36 rfl rfl <| ?_
    refine o_icmp_le (pc := 37) (tgt := 55) dX6_stepOrder_37 rfl (fun h1 => ?_) (fun h1 => ?_)
    · exact hk0_0 m v3
    · refine o_aload_n (pc := 40) 0 dX6_stepOrder_40 rfl rfl <| o_iload_n (pc := 41) 3 dX6_stepOrder_41 rfl rfl <| ?_
      refine S_ck fun h2 => ?_
      refine o_iald (pc := 42) (nn := 6) dX6_stepOrder_42 (hF.1 _ _ rfl) (ck_in h2) <| o_aload_n (pc := 43) 0 dX6_stepOrder_43 rfl rfl <| o_iload_n (pc := 44) 2 dX6_stepOrder_44 rfl rfl <| ?_
      refine S_ck fun h3 => ?_
      refine o_iald (pc := 45) (nn := 6) dX6_stepOrder_45 (hF.1 _ _ rfl) (ck_in h3) <| ?_
      refine o_icmp_ge (pc := 46) (tgt := 55) dX6_stepOrder_46 rfl (fun h4 => ?_) (fun h4 => ?_)
      · exact hk0_0 m v3
      · refine o_iinc (pc := 49) 3 (v := v3 + (-1)) (ls' := [(3, .int (v3 + (-1))), (0, .ref 41), (1, .int u1), (2, .int u2)]) dX6_stepOrder_49 rfl rfl (Nat.le_of_ble_eq_true rfl) rfl <| ?_
        refine o_ltL (ls := fun x5 => [(3, .int x5), (0, .ref 41), (1, .int u1), (2, .int u2)]) fun x5 => ?_
        refine o_goto (pc := 52) (tgt := 35) dX6_stepOrder_52 rfl <| ?_
        refine o_sub [1, 2, 3, 0] (ls' := [(0, .ref 41), (1, .int u1), (2, .int u2), (3, .int x5)]) rfl ?_
        exact ih0 m x5
def fC_stepOrder_41_l71 (u1 : Int32) (u2 : Int32) (u3 : Int32) (k0_0 : MI → Int32 → Int32 → Option (Int32 × MI)) : Nat → MI → Int32 → Int32 → Option (Int32 × MI)
  | 0, _, _, _ => none
  | n0 + 1, m, v4, v5 =>
    if v5 ≤ v4 then
      k0_0 m v4 v5
    else
      (fC_swap_41 m v4 v5).bind fun r2 =>
      lt (v4 + 1) fun x3 =>
      lt (v5 + (-1)) fun x4 =>
      fC_stepOrder_41_l71 u1 u2 u3 k0_0 n0 r2 x3 x4
theorem sC_stepOrder_41_l71 {sh : Sh} {R : RR} (hF : Fx sh R) (u1 : Int32) (u2 : Int32) (u3 : Int32) (k0_0 : MI → Int32 → Int32 → Option (Int32 × MI)) (hk0_0 : ∀ (m : MI) (v4 : Int32) (v5 : Int32) , S (eI sh R) false 1 0 0 YX6_stepOrder sh R m 95 [(0, .ref 41), (1, .int u1), (2, .int u2), (3, .int u3), (4, .int v4), (5, .int v5)] [] (k0_0 m v4 v5)) : ∀ (n : Nat) (m : MI) (v4 : Int32) (v5 : Int32) , S (eI sh R) false 1 0 0 YX6_stepOrder sh R m 71 [(0, .ref 41), (1, .int u1), (2, .int u2), (3, .int u3), (4, .int v4), (5, .int v5)] [] (fC_stepOrder_41_l71 u1 u2 u3 k0_0 n m v4 v5) := by
  intro n
  induction n with
  | zero => intros; exact S_none
  | succ n0 ih0 =>
    intro m v4 v5
    rw [fC_stepOrder_41_l71]
    refine o_iload (pc := 71) 4 dX6_stepOrder_71 rfl <| o_iload (pc := 73) 5 dX6_stepOrder_73 rfl <| ?_
    refine o_icmp_ge (pc := 75) (tgt := 95) dX6_stepOrder_75 rfl (fun h1 => ?_) (fun h1 => ?_)
    · exact hk0_0 m v4 v5
    · refine o_aload_n (pc := 78) 0 dX6_stepOrder_78 rfl rfl <| o_iload (pc := 79) 4 dX6_stepOrder_79 rfl <| o_iload (pc := 81) 5 dX6_stepOrder_81 rfl <| ?_
      refine o_callSV (Y2 := YX6_swap) (pc := 83) (av := [.ref 41, .int v4, .int v5]) (rest := []) dX6_stepOrder_83 k_663 cs_X6_swap (sC_swap_41 hF m v4 v5) rfl rfl (Nat.le_of_ble_eq_true rfl) (Nat.le_of_ble_eq_true rfl) fun r2 => ?_
      refine o_iinc (pc := 86) 4 (v := v4 + 1) (ls' := [(4, .int (v4 + 1)), (0, .ref 41), (1, .int u1), (2, .int u2), (3, .int u3), (5, .int v5)]) dX6_stepOrder_86 rfl rfl (Nat.le_of_ble_eq_true rfl) rfl <| ?_
      refine o_ltL (ls := fun x3 => [(4, .int x3), (0, .ref 41), (1, .int u1), (2, .int u2), (3, .int u3), (5, .int v5)]) fun x3 => ?_
      refine o_iinc (pc := 89) 5 (v := v5 + (-1)) (ls' := [(5, .int (v5 + (-1))), (4, .int x3), (0, .ref 41), (1, .int u1), (2, .int u2), (3, .int u3)]) dX6_stepOrder_89 rfl rfl (Nat.le_of_ble_eq_true rfl) rfl <| ?_
      refine o_ltL (ls := fun x4 => [(5, .int x4), (4, .int x3), (0, .ref 41), (1, .int u1), (2, .int u2), (3, .int u3)]) fun x4 => ?_
      refine o_goto (pc := 92) (tgt := 71) dX6_stepOrder_92 rfl <| ?_
      refine o_sub [2, 3, 4, 5, 1, 0] (ls' := [(0, .ref 41), (1, .int u1), (2, .int u2), (3, .int u3), (4, .int x3), (5, .int x4)]) rfl ?_
      exact ih0 r2 x3 x4
def fC_stepOrder_41 (m : MI) (b : Int32) : Option (Int32 × MI) :=
  lt (b - 2) fun x1 =>
  fC_stepOrder_41_l4 b
    (fun m3 z2 =>
      if 0 ≤ z2 then
        lt (b - 1) fun x5 =>
        fC_stepOrder_41_l35 b z2
          (fun m7 z6 =>
            (fC_swap_41 m7 z2 z6).bind fun r8 =>
            lt (z2 + 1) fun x9 =>
            lt (b - 1) fun x10 =>
            fC_stepOrder_41_l71 b z2 z6
              (fun m13 z11 z12 =>
                some (1, m13)
                )
              1000 r8 x9 x10
            )
          1000 m3 x5
      else
        some (0, m3)
      )
    1000 m x1
theorem sC_stepOrder_41 {sh : Sh} {R : RR} (hF : Fx sh R) (m : MI) (b : Int32) : KS (eI sh R) false 1 0 0 YX6_stepOrder sh R m [.ref 41, .int b] (fC_stepOrder_41 m b) := by
  refine KS_of pn_X6 (fun _ => Nat.le_of_ble_eq_true rfl) ?_
  change S _ _ _ _ _ _ _ _ _ _ [(0, .ref 41), (1, .int b)] [] _
  unfold fC_stepOrder_41
  refine o_iload_n (pc := 0) 1 dX6_stepOrder_0 rfl rfl <| o_iconst (pc := 1) dX6_stepOrder_1 lc_2 <| o_isub (pc := 2) dX6_stepOrder_2 <| ?_
  refine o_lt fun x1 => ?_
  refine o_istore_n (pc := 3) (ls' := [(2, .int x1), (0, .ref 41), (1, .int b)]) dX6_stepOrder_3 rfl (Nat.le_of_ble_eq_true rfl) rfl <| ?_
  refine o_sub [1, 2, 0] (ls' := [(0, .ref 41), (1, .int b), (2, .int x1)]) rfl ?_
  refine sC_stepOrder_41_l4 hF b _ ?_ 1000 m x1
  · intro m3 z2
    refine o_iload_n (pc := 25) 2 dX6_stepOrder_25 rfl rfl <| ?_
    refine o_if_ge (pc := 26) (tgt := 31) dX6_stepOrder_26 rfl (fun h4 => ?_) (fun h4 => ?_)
    · refine o_iload_n (pc := 31) 1 dX6_stepOrder_31 rfl rfl <| o_iconst (pc := 32) dX6_stepOrder_32 lc_1 <| o_isub (pc := 33) dX6_stepOrder_33 <| ?_
      refine o_lt fun x5 => ?_
      refine o_istore_n (pc := 34) (ls' := [(3, .int x5), (0, .ref 41), (1, .int b), (2, .int z2)]) dX6_stepOrder_34 rfl (Nat.le_of_ble_eq_true rfl) rfl <| ?_
      refine o_sub [1, 2, 3, 0] (ls' := [(0, .ref 41), (1, .int b), (2, .int z2), (3, .int x5)]) rfl ?_
      refine sC_stepOrder_41_l35 hF b z2 _ ?_ 1000 m3 x5
      · intro m7 z6
        refine o_aload_n (pc := 55) 0 dX6_stepOrder_55 rfl rfl <| o_iload_n (pc := 56) 2 dX6_stepOrder_56 rfl rfl <| o_iload_n (pc := 57) 3 dX6_stepOrder_57 rfl rfl <| ?_
        refine o_callSV (Y2 := YX6_swap) (pc := 58) (av := [.ref 41, .int z2, .int z6]) (rest := []) dX6_stepOrder_58 k_663 cs_X6_swap (sC_swap_41 hF m7 z2 z6) rfl rfl (Nat.le_of_ble_eq_true rfl) (Nat.le_of_ble_eq_true rfl) fun r8 => ?_
        refine o_iload_n (pc := 61) 2 dX6_stepOrder_61 rfl rfl <| o_iconst (pc := 62) dX6_stepOrder_62 lc_1 <| o_iadd (pc := 63) dX6_stepOrder_63 <| ?_
        refine o_lt fun x9 => ?_
        refine o_istore (pc := 64) (ls' := [(4, .int x9), (0, .ref 41), (1, .int b), (2, .int z2), (3, .int z6)]) dX6_stepOrder_64 (Nat.le_of_ble_eq_true rfl) rfl <| o_iload_n (pc := 66) 2 dX6_stepOrder_66 rfl rfl <| o_iconst (pc := 67) dX6_stepOrder_67 lc_1 <| o_isub (pc := 68) dX6_stepOrder_68 <| ?_
        refine o_lt fun x10 => ?_
        refine o_istore (pc := 69) (ls' := [(5, .int x10), (4, .int x9), (0, .ref 41), (1, .int b), (2, .int z2), (3, .int z6)]) dX6_stepOrder_69 (Nat.le_of_ble_eq_true rfl) rfl <| ?_
        refine o_sub [2, 3, 4, 5, 1, 0] (ls' := [(0, .ref 41), (1, .int b), (2, .int z2), (3, .int z6), (4, .int x9), (5, .int x10)]) rfl ?_
        refine sC_stepOrder_41_l71 hF b z2 z6 _ ?_ 1000 r8 x9 x10
        · intro m13 z11 z12
          refine o_iconst (pc := 95) dX6_stepOrder_95 lc_1 <| ?_
          exact o_zret (pc := 96) dX6_stepOrder_96 rfl rfl rfl
    · refine o_iconst (pc := 29) dX6_stepOrder_29 lc_0 <| ?_
      exact o_zret (pc := 30) dX6_stepOrder_30 rfl rfl rfl
def fC_best_l83 (sh : Sh) (R : RR) (u1 : Int32) (k0_0 : MI → Int32 → Int32 → Int32 → Option (Int32 × MI)) : Nat → MI → Int32 → Int32 → Int32 → Option (Int32 × MI)
  | 0, _, _, _, _ => none
  | n0 + 1, m, v2, v3, v4 =>
    if 120 ≤ v4 then
      k0_0 m v2 v3 v4
    else
      if v3 = 0 then
        k0_0 m v2 v3 v4
      else
        (fL_evenBy_41 sh R m).bind fun r3 =>
        if v2 ≤ r3.1 then
          (fC_stepOrder_41 r3.2 (r3.2.1 1 0)).bind fun r5 =>
          lt (v4 + 1) fun x6 =>
          fC_best_l83 sh R u1 k0_0 n0 r5.2 v2 r5.1 x6
        else
          if cpk 0 0 (r3.2.1 1 0) 6 6 = true then
            lm (mI r3.2 42 (va_cpy (r3.2.1 41) (r3.2.1 42) (0 : Int32).toNatClampNeg (0 : Int32).toNatClampNeg (r3.2.1 1 0).toNatClampNeg)) fun m8 =>
            (fC_stepOrder_41 m8 (m8.1 1 0)).bind fun r9 =>
            lt (v4 + 1) fun x10 =>
            fC_best_l83 sh R u1 k0_0 n0 r9.2 r3.1 r9.1 x10
          else none
theorem sC_best_l83 {sh : Sh} {R : RR} (hF : Fx sh R) (u1 : Int32) (k0_0 : MI → Int32 → Int32 → Int32 → Option (Int32 × MI)) (hk0_0 : ∀ (m : MI) (v2 : Int32) (v3 : Int32) (v4 : Int32) , S (eI sh R) false 7 0 0 YX6_best sh R m 157 [(0, .ref 0), (1, .int u1), (2, .int v2), (3, .int v3), (4, .int v4)] [] (k0_0 m v2 v3 v4)) : ∀ (n : Nat) (m : MI) (v2 : Int32) (v3 : Int32) (v4 : Int32) , S (eI sh R) false 7 0 0 YX6_best sh R m 83 [(0, .ref 0), (1, .int u1), (2, .int v2), (3, .int v3), (4, .int v4)] [] (fC_best_l83 sh R u1 k0_0 n m v2 v3 v4) := by
  intro n
  induction n with
  | zero => intros; exact S_none
  | succ n0 ih0 =>
    intro m v2 v3 v4
    rw [fC_best_l83]
    refine o_iload (pc := 83) 4 dX6_best_83 rfl <| o_bipush (pc := 85) dX6_best_85 lb_120 <| ?_
    refine o_icmp_ge (pc := 87) (tgt := 157) dX6_best_87 rfl (fun h1 => ?_) (fun h1 => ?_)
    · exact hk0_0 m v2 v3 v4
    · refine o_iload_n (pc := 90) 3 dX6_best_90 rfl rfl <| ?_
      refine o_if_eq (pc := 91) (tgt := 157) dX6_best_91 rfl (fun h2 => ?_) (fun h2 => ?_)
      · exact hk0_0 m v2 v3 v4
      · refine o_aload_n (pc := 94) 0 dX6_best_94 rfl rfl <| o_getRc (pc := 95) (a := 37) (ci := 6) (j := 3) (nn := 0) dX6_best_95 (hF.1 _ _ rfl) rfl (Nat.le_of_ble_eq_true rfl) k_295 rfl (hF.2 _ _ _ rfl) <| o_aload_n (pc := 98) 0 dX6_best_98 rfl rfl <| o_getRc (pc := 99) (a := 41) (ci := 6) (j := 4) (nn := 0) dX6_best_99 (hF.1 _ _ rfl) rfl (Nat.le_of_ble_eq_true rfl) k_296 rfl (hF.2 _ _ _ rfl) <| ?_
        refine o_callVI (Y2 := YX3_evenBy) (pc := 102) (av := [.ref 41]) (rest := []) dX6_best_102 k_646 cm_X3_evenBy (sL_evenBy_41 hF m ) (hF.1 _ _ rfl) rfl rfl (Nat.le_of_ble_eq_true rfl) (Nat.le_of_ble_eq_true rfl) fun r3 => ?_
        refine o_istore (pc := 105) (ls' := [(5, .int r3.1), (0, .ref 0), (1, .int u1), (2, .int v2), (3, .int v3), (4, .int v4)]) dX6_best_105 (Nat.le_of_ble_eq_true rfl) rfl <| o_iload (pc := 107) 0 dX6_best_107 rfl <| o_iload_n (pc := 109) 3 dX6_best_109 rfl rfl <| ?_
        refine o_icmp_ge (pc := 110) (tgt := 136) dX6_best_110 rfl (fun h4 => ?_) (fun h4 => ?_)
        · refine o_aload_n (pc := 136) 1 dX6_best_136 rfl rfl <| o_getRc (pc := 137) (a := 41) (ci := 6) (j := 4) (nn := 0) dX6_best_137 (hF.1 _ _ rfl) rfl (Nat.le_of_ble_eq_true rfl) k_296 rfl (hF.2 _ _ _ rfl) <| o_aload_n (pc := 140) 1 dX6_best_140 rfl rfl <| o_getRc (pc := 141) (a := 1) (ci := 6) (j := 0) (nn := 0) dX6_best_141 (hF.1 _ _ rfl) rfl (Nat.le_of_ble_eq_true rfl) k_292 rfl (hF.2 _ _ _ rfl) <| o_getI (pc := 144) (ci := 5) (j := 0) (nn := 0) dX6_best_144 (hF.1 _ _ rfl) rfl (Nat.le_of_ble_eq_true rfl) k_124 rfl <| ?_
          refine o_callSI (Y2 := YX6_stepOrder) (pc := 147) (av := [.ref 41, .int (r3.2.1 1 0)]) (rest := []) dX6_best_147 k_660 cs_X6_stepOrder (sC_stepOrder_41 hF r3.2 (r3.2.1 1 0)) rfl rfl (Nat.le_of_ble_eq_true rfl) (Nat.le_of_ble_eq_true rfl) fun r5 => ?_
          refine o_istore_n (pc := 150) (ls' := [(3, .int r5.1), (5, .int r3.1), (0, .ref 0), (1, .int u1), (2, .int v2), (4, .int v4)]) dX6_best_150 rfl (Nat.le_of_ble_eq_true rfl) rfl <| o_iinc (pc := 151) 5 (v := v4 + 1) (ls' := [(4, .int (v4 + 1)), (3, .int r5.1), (5, .int r3.1), (0, .ref 0), (1, .int u1), (2, .int v2)]) dX6_best_151 rfl rfl (Nat.le_of_ble_eq_true rfl) rfl <| ?_
          refine o_ltL (ls := fun x6 => [(4, .int x6), (3, .int r5.1), (5, .int r3.1), (0, .ref 0), (1, .int u1), (2, .int v2)]) fun x6 => ?_
          refine o_goto (pc := 154) (tgt := 83) dX6_best_154 rfl <| ?_
          refine o_sub [3, 4, 5, 1, 0] (ls' := [(0, .ref 0), (1, .int u1), (2, .int v2), (3, .int r5.1), (4, .int x6)]) rfl ?_
          exact ih0 r5.2 v2 r5.1 x6
        · refine o_iload (pc := 113) 0 dX6_best_113 rfl <| o_istore_n (pc := 115) (ls' := [(2, .int r3.1), (5, .int r3.1), (0, .ref 0), (1, .int u1), (3, .int v3), (4, .int v4)]) dX6_best_115 rfl (Nat.le_of_ble_eq_true rfl) rfl <| o_aload_n (pc := 116) 2 dX6_best_116 rfl rfl <| o_getRc (pc := 117) (a := 41) (ci := 6) (j := 4) (nn := 0) dX6_best_117 (hF.1 _ _ rfl) rfl (Nat.le_of_ble_eq_true rfl) k_296 rfl (hF.2 _ _ _ rfl) <| o_iconst (pc := 120) dX6_best_120 lc_0 <| o_aload_n (pc := 121) 2 dX6_best_121 rfl rfl <| o_getRc (pc := 122) (a := 42) (ci := 6) (j := 5) (nn := 0) dX6_best_122 (hF.1 _ _ rfl) rfl (Nat.le_of_ble_eq_true rfl) k_297 rfl (hF.2 _ _ _ rfl) <| o_iconst (pc := 125) dX6_best_125 lc_0 <| o_aload_n (pc := 126) 2 dX6_best_126 rfl rfl <| o_getRc (pc := 127) (a := 1) (ci := 6) (j := 0) (nn := 0) dX6_best_127 (hF.1 _ _ rfl) rfl (Nat.le_of_ble_eq_true rfl) k_292 rfl (hF.2 _ _ _ rfl) <| ?_
          refine o_getI (pc := 130) (ci := 5) (j := 0) (nn := 0) dX6_best_130 (hF.1 _ _ rfl) rfl (Nat.le_of_ble_eq_true rfl) k_124 rfl <| ?_
          refine S_ck fun h7 => ?_
          refine o_cpi (pc := 133) dX6_best_133 k_393 k_395 k_394 k_82 (hF.1 _ _ rfl) (hF.1 _ _ rfl) h7 (Nat.le_of_ble_eq_true rfl) (Nat.le_of_ble_eq_true rfl) <| ?_
          refine o_lm fun m8 => ?_
          refine o_aload_n (pc := 136) 2 dX6_best_136 rfl rfl <| o_getRc (pc := 137) (a := 41) (ci := 6) (j := 4) (nn := 0) dX6_best_137 (hF.1 _ _ rfl) rfl (Nat.le_of_ble_eq_true rfl) k_296 rfl (hF.2 _ _ _ rfl) <| o_aload_n (pc := 140) 2 dX6_best_140 rfl rfl <| o_getRc (pc := 141) (a := 1) (ci := 6) (j := 0) (nn := 0) dX6_best_141 (hF.1 _ _ rfl) rfl (Nat.le_of_ble_eq_true rfl) k_292 rfl (hF.2 _ _ _ rfl) <| o_getI (pc := 144) (ci := 5) (j := 0) (nn := 0) dX6_best_144 (hF.1 _ _ rfl) rfl (Nat.le_of_ble_eq_true rfl) k_124 rfl <| ?_
          refine o_callSI (Y2 := YX6_stepOrder) (pc := 147) (av := [.ref 41, .int (m8.1 1 0)]) (rest := []) dX6_best_147 k_660 cs_X6_stepOrder (sC_stepOrder_41 hF m8 (m8.1 1 0)) rfl rfl (Nat.le_of_ble_eq_true rfl) (Nat.le_of_ble_eq_true rfl) fun r9 => ?_
          refine o_istore_n (pc := 150) (ls' := [(3, .int r9.1), (2, .int r3.1), (5, .int r3.1), (0, .ref 0), (1, .int u1), (4, .int v4)]) dX6_best_150 rfl (Nat.le_of_ble_eq_true rfl) rfl <| o_iinc (pc := 151) 5 (v := v4 + 1) (ls' := [(4, .int (v4 + 1)), (3, .int r9.1), (2, .int r3.1), (5, .int r3.1), (0, .ref 0), (1, .int u1)]) dX6_best_151 rfl rfl (Nat.le_of_ble_eq_true rfl) rfl <| ?_
          refine o_ltL (ls := fun x10 => [(4, .int x10), (3, .int r9.1), (2, .int r3.1), (5, .int r3.1), (0, .ref 0), (1, .int u1)]) fun x10 => ?_
          refine o_goto (pc := 154) (tgt := 83) dX6_best_154 rfl <| ?_
          refine o_sub [4, 5, 2, 1, 0] (ls' := [(0, .ref 0), (1, .int u1), (2, .int r3.1), (3, .int r9.1), (4, .int x10)]) rfl ?_
          exact ih0 r9.2 r3.1 r9.1 x10
def fC_best (sh : Sh) (R : RR) (m : MI) (a : Int32) : Option (Int32 × MI) :=
  if a < -1 then
    some (-1, m)
  else
    if a < 5 then
      if m.1 1 0 = 0 then
        some (-5, m)
      else
        if m.1 1 0 ≤ 5 then
          if a < m.1 1 0 then
            (fC_firstOrder_41 m (m.1 1 0)).bind fun r6 =>
            (fL_begin sh R r6 0).bind fun r7 =>
            fC_best_l83 sh R a
              (fun m11 z8 z9 z10 =>
                if 0 ≤ a then
                  if ck a 6 = true then
                    some (m11.1 42 a.toNatClampNeg, m11)
                  else none
                else
                  some (z8, m11)
                )
              1000 r7 1000001 1 0
          else
            some (-5, m)
        else
          some (-9, m)
    else
      some (-1, m)
theorem sC_best {sh : Sh} {R : RR} (hF : Fx sh R) (m : MI) (a : Int32) : KS (eI sh R) false 7 0 0 YX6_best sh R m [.ref 0, .int a] (fC_best sh R m a) := by
  refine KS_of pn_X6 (fun _ => Nat.le_of_ble_eq_true rfl) ?_
  change S _ _ _ _ _ _ _ _ _ _ [(0, .ref 0), (1, .int a)] [] _
  unfold fC_best
  refine o_iload_n (pc := 0) 1 dX6_best_0 rfl rfl <| o_iconst (pc := 1) dX6_best_1 lc_m1 <| ?_
  refine o_icmp_lt (pc := 2) (tgt := 10) dX6_best_2 rfl (fun h1 => ?_) (fun h1 => ?_)
  · refine o_iconst (pc := 10) dX6_best_10 lc_m1 <| ?_
    exact o_iret (pc := 11) dX6_best_11 rfl rfl
  · refine o_iload_n (pc := 5) 1 dX6_best_5 rfl rfl <| o_iconst (pc := 6) dX6_best_6 lc_5 <| ?_
    refine o_icmp_lt (pc := 7) (tgt := 12) dX6_best_7 rfl (fun h2 => ?_) (fun h2 => ?_)
    · refine o_aload_n (pc := 12) 0 dX6_best_12 rfl rfl <| o_getRc (pc := 13) (a := 1) (ci := 6) (j := 0) (nn := 0) dX6_best_13 (hF.1 _ _ rfl) rfl (Nat.le_of_ble_eq_true rfl) k_292 rfl (hF.2 _ _ _ rfl) <| o_getI (pc := 16) (ci := 5) (j := 0) (nn := 0) dX6_best_16 (hF.1 _ _ rfl) rfl (Nat.le_of_ble_eq_true rfl) k_124 rfl <| ?_
      refine o_if_ne (pc := 19) (tgt := 25) dX6_best_19 rfl (fun h3 => ?_) (fun h3 => ?_)
      · refine o_bipush (pc := 22) dX6_best_22 lb_m5 <| ?_
        exact o_iret (pc := 24) dX6_best_24 rfl rfl
      · refine o_aload_n (pc := 25) 0 dX6_best_25 rfl rfl <| o_getRc (pc := 26) (a := 1) (ci := 6) (j := 0) (nn := 0) dX6_best_26 (hF.1 _ _ rfl) rfl (Nat.le_of_ble_eq_true rfl) k_292 rfl (hF.2 _ _ _ rfl) <| o_getI (pc := 29) (ci := 5) (j := 0) (nn := 0) dX6_best_29 (hF.1 _ _ rfl) rfl (Nat.le_of_ble_eq_true rfl) k_124 rfl <| o_iconst (pc := 32) dX6_best_32 lc_5 <| ?_
        refine o_icmp_le (pc := 33) (tgt := 39) dX6_best_33 rfl (fun h4 => ?_) (fun h4 => ?_)
        · refine o_iload_n (pc := 39) 1 dX6_best_39 rfl rfl <| o_aload_n (pc := 40) 0 dX6_best_40 rfl rfl <| o_getRc (pc := 41) (a := 1) (ci := 6) (j := 0) (nn := 0) dX6_best_41 (hF.1 _ _ rfl) rfl (Nat.le_of_ble_eq_true rfl) k_292 rfl (hF.2 _ _ _ rfl) <| o_getI (pc := 44) (ci := 5) (j := 0) (nn := 0) dX6_best_44 (hF.1 _ _ rfl) rfl (Nat.le_of_ble_eq_true rfl) k_124 rfl <| ?_
          refine o_icmp_lt (pc := 47) (tgt := 53) dX6_best_47 rfl (fun h5 => ?_) (fun h5 => ?_)
          · refine o_aload_n (pc := 53) 0 dX6_best_53 rfl rfl <| o_getRc (pc := 54) (a := 41) (ci := 6) (j := 4) (nn := 0) dX6_best_54 (hF.1 _ _ rfl) rfl (Nat.le_of_ble_eq_true rfl) k_296 rfl (hF.2 _ _ _ rfl) <| o_aload_n (pc := 57) 0 dX6_best_57 rfl rfl <| o_getRc (pc := 58) (a := 1) (ci := 6) (j := 0) (nn := 0) dX6_best_58 (hF.1 _ _ rfl) rfl (Nat.le_of_ble_eq_true rfl) k_292 rfl (hF.2 _ _ _ rfl) <| o_getI (pc := 61) (ci := 5) (j := 0) (nn := 0) dX6_best_61 (hF.1 _ _ rfl) rfl (Nat.le_of_ble_eq_true rfl) k_124 rfl <| ?_
            refine o_callSV (Y2 := YX6_firstOrder) (pc := 64) (av := [.ref 41, .int (m.1 1 0)]) (rest := []) dX6_best_64 k_656 cs_X6_firstOrder (sC_firstOrder_41 hF m (m.1 1 0)) rfl rfl (Nat.le_of_ble_eq_true rfl) (Nat.le_of_ble_eq_true rfl) fun r6 => ?_
            refine o_aload_n (pc := 67) 0 dX6_best_67 rfl rfl <| o_getRc (pc := 68) (a := 37) (ci := 6) (j := 3) (nn := 0) dX6_best_68 (hF.1 _ _ rfl) rfl (Nat.le_of_ble_eq_true rfl) k_295 rfl (hF.2 _ _ _ rfl) <| o_iconst (pc := 71) dX6_best_71 lc_0 <| ?_
            refine o_callVV (Y2 := YX3_begin) (pc := 72) (av := [.int 0]) (rest := []) dX6_best_72 k_618 cm_X3_begin (sL_begin hF r6 0) (hF.1 _ _ rfl) rfl rfl (Nat.le_of_ble_eq_true rfl) (Nat.le_of_ble_eq_true rfl) fun r7 => ?_
            refine o_ldc (pc := 75) dX6_best_75 k_659 <| o_istore_n (pc := 77) (ls' := [(2, .int 1000001), (0, .ref 0), (1, .int a)]) dX6_best_77 rfl (Nat.le_of_ble_eq_true rfl) rfl <| o_iconst (pc := 78) dX6_best_78 lc_1 <| o_istore_n (pc := 79) (ls' := [(3, .int 1), (2, .int 1000001), (0, .ref 0), (1, .int a)]) dX6_best_79 rfl (Nat.le_of_ble_eq_true rfl) rfl <| o_iconst (pc := 80) dX6_best_80 lc_0 <| o_istore (pc := 81) (ls' := [(4, .int 0), (3, .int 1), (2, .int 1000001), (0, .ref 0), (1, .int a)]) dX6_best_81 (Nat.le_of_ble_eq_true rfl) rfl <| ?_
            refine o_sub [3, 4, 2, 1, 0] (ls' := [(0, .ref 0), (1, .int a), (2, .int 1000001), (3, .int 1), (4, .int 0)]) rfl ?_
            refine sC_best_l83 hF a _ ?_ 1000 r7 1000001 1 0
            · intro m11 z8 z9 z10
              refine o_iload_n (pc := 157) 1 dX6_best_157 rfl rfl <| ?_
              refine o_if_ge (pc := 158) (tgt := 165) dX6_best_158 rfl (fun h12 => ?_) (fun h12 => ?_)
              · refine o_aload_n (pc := 165) 0 dX6_best_165 rfl rfl <| o_getRc (pc := 166) (a := 42) (ci := 6) (j := 5) (nn := 0) dX6_best_166 (hF.1 _ _ rfl) rfl (Nat.le_of_ble_eq_true rfl) k_297 rfl (hF.2 _ _ _ rfl) <| o_iload_n (pc := 169) 1 dX6_best_169 rfl rfl <| ?_
                refine S_ck fun h13 => ?_
                refine o_iald (pc := 170) (nn := 6) dX6_best_170 (hF.1 _ _ rfl) (ck_in h13) <| ?_
                exact o_iret (pc := 171) dX6_best_171 rfl rfl
              · refine o_iload_n (pc := 161) 2 dX6_best_161 rfl rfl <| o_goto (pc := 162) (tgt := 171) dX6_best_162 rfl <| ?_
                exact o_iret (pc := 171) dX6_best_171 rfl rfl
          · refine o_bipush (pc := 50) dX6_best_50 lb_m5 <| ?_
            exact o_iret (pc := 52) dX6_best_52 rfl rfl
        · refine o_bipush (pc := 36) dX6_best_36 lb_m9 <| ?_
          exact o_iret (pc := 38) dX6_best_38 rfl rfl
    · refine o_iconst (pc := 10) dX6_best_10 lc_m1 <| ?_
      exact o_iret (pc := 11) dX6_best_11 rfl rfl
def fL_ofOne_41 (sh : Sh) (R : RR) (m : MI) (a : Int32) : Option (Int32 × MI) :=
  (fL_goThrough_41 sh R m).bind fun r1 =>
  if ck a 6 = true then
    some (r1.1 38 a.toNatClampNeg, r1)
  else none
theorem sL_ofOne_41 {sh : Sh} {R : RR} (hF : Fx sh R) (m : MI) (a : Int32) : KS (eI sh R) false 6 0 0 YX3_ofOne sh R m [.ref 37, .int a, .ref 41] (fL_ofOne_41 sh R m a) := by
  refine KS_of pn_X3 (fun _ => Nat.le_of_ble_eq_true rfl) ?_
  change S _ _ _ _ _ _ _ _ _ _ [(0, .ref 37), (1, .int a), (2, .ref 41)] [] _
  unfold fL_ofOne_41
  refine o_aload_n (pc := 0) 0 dX3_ofOne_0 rfl rfl <| o_aload_n (pc := 1) 2 dX3_ofOne_1 rfl rfl <| ?_
  refine o_callVV (Y2 := YX3_goThrough) (pc := 2) (av := [.ref 41]) (rest := []) dX3_ofOne_2 k_629 cm_X3_goThrough (sL_goThrough_41 hF m ) (hF.1 _ _ rfl) rfl rfl (Nat.le_of_ble_eq_true rfl) (Nat.le_of_ble_eq_true rfl) fun r1 => ?_
  refine o_aload_n (pc := 5) 0 dX3_ofOne_5 rfl rfl <| o_getRc (pc := 6) (a := 38) (ci := 3) (j := 0) (nn := 0) dX3_ofOne_6 (hF.1 _ _ rfl) rfl (Nat.le_of_ble_eq_true rfl) k_198 rfl (hF.2 _ _ _ rfl) <| o_iload_n (pc := 9) 1 dX3_ofOne_9 rfl rfl <| ?_
  refine S_ck fun h2 => ?_
  refine o_iald (pc := 10) (nn := 6) dX3_ofOne_10 (hF.1 _ _ rfl) (ck_in h2) <| ?_
  exact o_iret (pc := 11) dX3_ofOne_11 rfl rfl
def fC_safest_l39 (sh : Sh) (R : RR) (u1 : Int32) (u2 : Int32) (k0_0 : MI → Int32 → Int32 → Int32 → Option (Int32 × MI)) : Nat → MI → Int32 → Int32 → Int32 → Option (Int32 × MI)
  | 0, _, _, _, _ => none
  | n0 + 1, m, v3, v4, v5 =>
    if m.1 1 0 ≤ v5 then
      k0_0 m v3 v4 v5
    else
      (fW_orderWith_41 m u1 v5).bind fun r2 =>
      (fL_ofOne_41 sh R r2 u1).bind fun r3 =>
      if v4 ≤ r3.1 then
        lt (v5 + 1) fun x5 =>
        fC_safest_l39 sh R u1 u2 k0_0 n0 r3.2 v3 v4 x5
      else
        lt (v5 + 1) fun x6 =>
        fC_safest_l39 sh R u1 u2 k0_0 n0 r3.2 v5 r3.1 x6
theorem sC_safest_l39 {sh : Sh} {R : RR} (hF : Fx sh R) (u1 : Int32) (u2 : Int32) (k0_0 : MI → Int32 → Int32 → Int32 → Option (Int32 × MI)) (hk0_0 : ∀ (m : MI) (v3 : Int32) (v4 : Int32) (v5 : Int32) , S (eI sh R) false 7 0 0 YX6_safest sh R m 99 [(0, .ref 0), (1, .int u1), (2, .int u2), (3, .int v3), (4, .int v4), (5, .int v5)] [] (k0_0 m v3 v4 v5)) : ∀ (n : Nat) (m : MI) (v3 : Int32) (v4 : Int32) (v5 : Int32) , S (eI sh R) false 7 0 0 YX6_safest sh R m 39 [(0, .ref 0), (1, .int u1), (2, .int u2), (3, .int v3), (4, .int v4), (5, .int v5)] [] (fC_safest_l39 sh R u1 u2 k0_0 n m v3 v4 v5) := by
  intro n
  induction n with
  | zero => intros; exact S_none
  | succ n0 ih0 =>
    intro m v3 v4 v5
    rw [fC_safest_l39]
    refine o_iload (pc := 39) 5 dX6_safest_39 rfl <| o_aload_n (pc := 41) 0 dX6_safest_41 rfl rfl <| o_getRc (pc := 42) (a := 1) (ci := 6) (j := 0) (nn := 0) dX6_safest_42 (hF.1 _ _ rfl) rfl (Nat.le_of_ble_eq_true rfl) k_292 rfl (hF.2 _ _ _ rfl) <| o_getI (pc := 45) (ci := 5) (j := 0) (nn := 0) dX6_safest_45 (hF.1 _ _ rfl) rfl (Nat.le_of_ble_eq_true rfl) k_124 rfl <| ?_
    refine o_icmp_ge (pc := 48) (tgt := 99) dX6_safest_48 rfl (fun h1 => ?_) (fun h1 => ?_)
    · exact hk0_0 m v3 v4 v5
    · refine o_aload_n (pc := 51) 0 dX6_safest_51 rfl rfl <| o_getRc (pc := 52) (a := 1) (ci := 6) (j := 0) (nn := 0) dX6_safest_52 (hF.1 _ _ rfl) rfl (Nat.le_of_ble_eq_true rfl) k_292 rfl (hF.2 _ _ _ rfl) <| o_iload_n (pc := 55) 1 dX6_safest_55 rfl rfl <| o_iload (pc := 56) 5 dX6_safest_56 rfl <| o_aload_n (pc := 58) 0 dX6_safest_58 rfl rfl <| o_getRc (pc := 59) (a := 41) (ci := 6) (j := 4) (nn := 0) dX6_safest_59 (hF.1 _ _ rfl) rfl (Nat.le_of_ble_eq_true rfl) k_296 rfl (hF.2 _ _ _ rfl) <| ?_
      refine o_callVV (Y2 := YX5_orderWith) (pc := 62) (av := [.int u1, .int v5, .ref 41]) (rest := []) dX6_safest_62 k_389 cm_X5_orderWith (sW_orderWith_41 hF m u1 v5) (hF.1 _ _ rfl) rfl rfl (Nat.le_of_ble_eq_true rfl) (Nat.le_of_ble_eq_true rfl) fun r2 => ?_
      refine o_aload_n (pc := 65) 0 dX6_safest_65 rfl rfl <| o_getRc (pc := 66) (a := 37) (ci := 6) (j := 3) (nn := 0) dX6_safest_66 (hF.1 _ _ rfl) rfl (Nat.le_of_ble_eq_true rfl) k_295 rfl (hF.2 _ _ _ rfl) <| o_iload_n (pc := 69) 1 dX6_safest_69 rfl rfl <| o_aload_n (pc := 70) 0 dX6_safest_70 rfl rfl <| o_getRc (pc := 71) (a := 41) (ci := 6) (j := 4) (nn := 0) dX6_safest_71 (hF.1 _ _ rfl) rfl (Nat.le_of_ble_eq_true rfl) k_296 rfl (hF.2 _ _ _ rfl) <| ?_
      refine o_callVI (Y2 := YX3_ofOne) (pc := 74) (av := [.int u1, .ref 41]) (rest := []) dX6_safest_74 k_625 cm_X3_ofOne (sL_ofOne_41 hF r2 u1) (hF.1 _ _ rfl) rfl rfl (Nat.le_of_ble_eq_true rfl) (Nat.le_of_ble_eq_true rfl) fun r3 => ?_
      refine o_istore (pc := 77) (ls' := [(6, .int r3.1), (0, .ref 0), (1, .int u1), (2, .int u2), (3, .int v3), (4, .int v4), (5, .int v5)]) dX6_safest_77 (Nat.le_of_ble_eq_true rfl) rfl <| o_iload (pc := 79) 0 dX6_safest_79 rfl <| o_iload (pc := 81) 5 dX6_safest_81 rfl <| ?_
      refine o_icmp_ge (pc := 83) (tgt := 93) dX6_safest_83 rfl (fun h4 => ?_) (fun h4 => ?_)
      · refine o_iinc (pc := 93) 6 (v := v5 + 1) (ls' := [(5, .int (v5 + 1)), (6, .int r3.1), (0, .ref 0), (1, .int u1), (2, .int u2), (3, .int v3), (4, .int v4)]) dX6_safest_93 rfl rfl (Nat.le_of_ble_eq_true rfl) rfl <| ?_
        refine o_ltL (ls := fun x5 => [(5, .int x5), (6, .int r3.1), (0, .ref 0), (1, .int u1), (2, .int u2), (3, .int v3), (4, .int v4)]) fun x5 => ?_
        refine o_goto (pc := 96) (tgt := 39) dX6_safest_96 rfl <| ?_
        refine o_sub [2, 3, 4, 5, 6, 0] (ls' := [(0, .ref 0), (1, .int u1), (2, .int u2), (3, .int v3), (4, .int v4), (5, .int x5)]) rfl ?_
        exact ih0 r3.2 v3 v4 x5
      · refine o_iload (pc := 86) 0 dX6_safest_86 rfl <| o_istore (pc := 88) (ls' := [(4, .int r3.1), (6, .int r3.1), (0, .ref 0), (1, .int u1), (2, .int u2), (3, .int v3), (5, .int v5)]) dX6_safest_88 (Nat.le_of_ble_eq_true rfl) rfl <| o_iload (pc := 90) 6 dX6_safest_90 rfl <| o_istore_n (pc := 92) (ls' := [(3, .int v5), (4, .int r3.1), (6, .int r3.1), (0, .ref 0), (1, .int u1), (2, .int u2), (5, .int v5)]) dX6_safest_92 rfl (Nat.le_of_ble_eq_true rfl) rfl <| o_iinc (pc := 93) 6 (v := v5 + 1) (ls' := [(5, .int (v5 + 1)), (3, .int v5), (4, .int r3.1), (6, .int r3.1), (0, .ref 0), (1, .int u1), (2, .int u2)]) dX6_safest_93 rfl rfl (Nat.le_of_ble_eq_true rfl) rfl <| ?_
        refine o_ltL (ls := fun x6 => [(5, .int x6), (3, .int v5), (4, .int r3.1), (6, .int r3.1), (0, .ref 0), (1, .int u1), (2, .int u2)]) fun x6 => ?_
        refine o_goto (pc := 96) (tgt := 39) dX6_safest_96 rfl <| ?_
        refine o_sub [4, 5, 6, 1, 2, 0] (ls' := [(0, .ref 0), (1, .int u1), (2, .int u2), (3, .int v5), (4, .int r3.1), (5, .int x6)]) rfl ?_
        exact ih0 r3.2 v5 r3.1 x6
def fC_safest (sh : Sh) (R : RR) (m : MI) (a : Int32) (b : Int32) : Option (Int32 × MI) :=
  (fW_has m a).bind fun r1 =>
  if r1.1 = 0 then
    some (-1, r1.2)
  else
    if b < 0 then
      some (-1, r1.2)
    else
      if b ≤ 1 then
        (fL_begin sh R r1.2 0).bind fun r5 =>
        fC_safest_l39 sh R a b
          (fun m9 z6 z7 z8 =>
            if b = 0 then
              some (z6, m9)
            else
              some (z7, m9)
            )
          1000 r5 0 1000001 0
      else
        some (-1, r1.2)
theorem sC_safest {sh : Sh} {R : RR} (hF : Fx sh R) (m : MI) (a : Int32) (b : Int32) : KS (eI sh R) false 7 0 0 YX6_safest sh R m [.ref 0, .int a, .int b] (fC_safest sh R m a b) := by
  refine KS_of pn_X6 (fun _ => Nat.le_of_ble_eq_true rfl) ?_
  change S _ _ _ _ _ _ _ _ _ _ [(0, .ref 0), (1, .int a), (2, .int b)] [] _
  unfold fC_safest
  refine o_aload_n (pc := 0) 0 dX6_safest_0 rfl rfl <| o_getRc (pc := 1) (a := 1) (ci := 6) (j := 0) (nn := 0) dX6_safest_1 (hF.1 _ _ rfl) rfl (Nat.le_of_ble_eq_true rfl) k_292 rfl (hF.2 _ _ _ rfl) <| o_iload_n (pc := 4) 1 dX6_safest_4 rfl rfl <| ?_
  refine o_callVI (Y2 := YX5_has) (pc := 5) (av := [.int a]) (rest := []) dX6_safest_5 k_353 cm_X5_has (sW_has hF m a) (hF.1 _ _ rfl) rfl rfl (Nat.le_of_ble_eq_true rfl) (Nat.le_of_ble_eq_true rfl) fun r1 => ?_
  refine o_if_eq (pc := 8) (tgt := 20) dX6_safest_8 rfl (fun h2 => ?_) (fun h2 => ?_)
  · refine o_iconst (pc := 20) dX6_safest_20 lc_m1 <| ?_
    exact o_iret (pc := 21) dX6_safest_21 rfl rfl
  · refine o_iload_n (pc := 11) 2 dX6_safest_11 rfl rfl <| ?_
    refine o_if_lt (pc := 12) (tgt := 20) dX6_safest_12 rfl (fun h3 => ?_) (fun h3 => ?_)
    · refine o_iconst (pc := 20) dX6_safest_20 lc_m1 <| ?_
      exact o_iret (pc := 21) dX6_safest_21 rfl rfl
    · refine o_iload_n (pc := 15) 2 dX6_safest_15 rfl rfl <| o_iconst (pc := 16) dX6_safest_16 lc_1 <| ?_
      refine o_icmp_le (pc := 17) (tgt := 22) dX6_safest_17 rfl (fun h4 => ?_) (fun h4 => ?_)
      · refine o_aload_n (pc := 22) 0 dX6_safest_22 rfl rfl <| o_getRc (pc := 23) (a := 37) (ci := 6) (j := 3) (nn := 0) dX6_safest_23 (hF.1 _ _ rfl) rfl (Nat.le_of_ble_eq_true rfl) k_295 rfl (hF.2 _ _ _ rfl) <| o_iconst (pc := 26) dX6_safest_26 lc_0 <| ?_
        refine o_callVV (Y2 := YX3_begin) (pc := 27) (av := [.int 0]) (rest := []) dX6_safest_27 k_618 cm_X3_begin (sL_begin hF r1.2 0) (hF.1 _ _ rfl) rfl rfl (Nat.le_of_ble_eq_true rfl) (Nat.le_of_ble_eq_true rfl) fun r5 => ?_
        refine o_iconst (pc := 30) dX6_safest_30 lc_0 <| o_istore_n (pc := 31) (ls' := [(3, .int 0), (0, .ref 0), (1, .int a), (2, .int b)]) dX6_safest_31 rfl (Nat.le_of_ble_eq_true rfl) rfl <| o_ldc (pc := 32) dX6_safest_32 k_659 <| o_istore (pc := 34) (ls' := [(4, .int 1000001), (3, .int 0), (0, .ref 0), (1, .int a), (2, .int b)]) dX6_safest_34 (Nat.le_of_ble_eq_true rfl) rfl <| o_iconst (pc := 36) dX6_safest_36 lc_0 <| o_istore (pc := 37) (ls' := [(5, .int 0), (4, .int 1000001), (3, .int 0), (0, .ref 0), (1, .int a), (2, .int b)]) dX6_safest_37 (Nat.le_of_ble_eq_true rfl) rfl <| ?_
        refine o_sub [3, 4, 5, 2, 1, 0] (ls' := [(0, .ref 0), (1, .int a), (2, .int b), (3, .int 0), (4, .int 1000001), (5, .int 0)]) rfl ?_
        refine sC_safest_l39 hF a b _ ?_ 1000 r5 0 1000001 0
        · intro m9 z6 z7 z8
          refine o_iload_n (pc := 99) 2 dX6_safest_99 rfl rfl <| ?_
          refine o_if_ne (pc := 100) (tgt := 107) dX6_safest_100 rfl (fun h10 => ?_) (fun h10 => ?_)
          · refine o_iload_n (pc := 103) 3 dX6_safest_103 rfl rfl <| o_goto (pc := 104) (tgt := 109) dX6_safest_104 rfl <| ?_
            exact o_iret (pc := 109) dX6_safest_109 rfl rfl
          · refine o_iload (pc := 107) 4 dX6_safest_107 rfl <| ?_
            exact o_iret (pc := 109) dX6_safest_109 rfl rfl
      · refine o_iconst (pc := 20) dX6_safest_20 lc_m1 <| ?_
        exact o_iret (pc := 21) dX6_safest_21 rfl rfl
def fC_enough_l28 (sh : Sh) (R : RR) (u1 : Int32) (u2 : Int32) (k0_0 : MI → Int32 → Option (Int32 × MI)) : Nat → MI → Int32 → Option (Int32 × MI)
  | 0, _, _ => none
  | n0 + 1, m, v3 =>
    if 20 < v3 then
      k0_0 m v3
    else
      (fL_begin sh R m v3).bind fun r2 =>
      (fL_ofOne_12 sh R r2 u1).bind fun r3 =>
      if u2 < r3.1 then
        lt (v3 + 1) fun x5 =>
        fC_enough_l28 sh R u1 u2 k0_0 n0 r3.2 x5
      else
        some (v3, r3.2)
theorem sC_enough_l28 {sh : Sh} {R : RR} (hF : Fx sh R) (u1 : Int32) (u2 : Int32) (k0_0 : MI → Int32 → Option (Int32 × MI)) (hk0_0 : ∀ (m : MI) (v3 : Int32) , S (eI sh R) false 7 0 0 YX6_enough sh R m 69 [(0, .ref 0), (1, .int u1), (2, .int u2), (3, .int v3)] [] (k0_0 m v3)) : ∀ (n : Nat) (m : MI) (v3 : Int32) , S (eI sh R) false 7 0 0 YX6_enough sh R m 28 [(0, .ref 0), (1, .int u1), (2, .int u2), (3, .int v3)] [] (fC_enough_l28 sh R u1 u2 k0_0 n m v3) := by
  intro n
  induction n with
  | zero => intros; exact S_none
  | succ n0 ih0 =>
    intro m v3
    rw [fC_enough_l28]
    refine o_iload_n (pc := 28) 3 dX6_enough_28 rfl rfl <| o_bipush (pc := 29) dX6_enough_29 lb_20 <| ?_
    refine o_icmp_gt (pc := 31) (tgt := 69) dX6_enough_31 rfl (fun h1 => ?_) (fun h1 => ?_)
    · exact hk0_0 m v3
    · refine o_aload_n (pc := 34) 0 dX6_enough_34 rfl rfl <| o_getRc (pc := 35) (a := 37) (ci := 6) (j := 3) (nn := 0) dX6_enough_35 (hF.1 _ _ rfl) rfl (Nat.le_of_ble_eq_true rfl) k_295 rfl (hF.2 _ _ _ rfl) <| o_iload_n (pc := 38) 3 dX6_enough_38 rfl rfl <| ?_
      refine o_callVV (Y2 := YX3_begin) (pc := 39) (av := [.int v3]) (rest := []) dX6_enough_39 k_618 cm_X3_begin (sL_begin hF m v3) (hF.1 _ _ rfl) rfl rfl (Nat.le_of_ble_eq_true rfl) (Nat.le_of_ble_eq_true rfl) fun r2 => ?_
      refine o_aload_n (pc := 42) 0 dX6_enough_42 rfl rfl <| o_getRc (pc := 43) (a := 37) (ci := 6) (j := 3) (nn := 0) dX6_enough_43 (hF.1 _ _ rfl) rfl (Nat.le_of_ble_eq_true rfl) k_295 rfl (hF.2 _ _ _ rfl) <| o_iload_n (pc := 46) 1 dX6_enough_46 rfl rfl <| o_aload_n (pc := 47) 0 dX6_enough_47 rfl rfl <| o_getRc (pc := 48) (a := 1) (ci := 6) (j := 0) (nn := 0) dX6_enough_48 (hF.1 _ _ rfl) rfl (Nat.le_of_ble_eq_true rfl) k_292 rfl (hF.2 _ _ _ rfl) <| o_getRc (pc := 51) (a := 12) (ci := 5) (j := 5) (nn := 0) dX6_enough_51 (hF.1 _ _ rfl) rfl (Nat.le_of_ble_eq_true rfl) k_135 rfl (hF.2 _ _ _ rfl) <| ?_
      refine o_callVI (Y2 := YX3_ofOne) (pc := 54) (av := [.int u1, .ref 12]) (rest := []) dX6_enough_54 k_625 cm_X3_ofOne (sL_ofOne_12 hF r2 u1) (hF.1 _ _ rfl) rfl rfl (Nat.le_of_ble_eq_true rfl) (Nat.le_of_ble_eq_true rfl) fun r3 => ?_
      refine o_iload_n (pc := 57) 2 dX6_enough_57 rfl rfl <| ?_
      refine o_icmp_gt (pc := 58) (tgt := 63) dX6_enough_58 rfl (fun h4 => ?_) (fun h4 => ?_)
      · refine o_iinc (pc := 63) 3 (v := v3 + 1) (ls' := [(3, .int (v3 + 1)), (0, .ref 0), (1, .int u1), (2, .int u2)]) dX6_enough_63 rfl rfl (Nat.le_of_ble_eq_true rfl) rfl <| ?_
        refine o_ltL (ls := fun x5 => [(3, .int x5), (0, .ref 0), (1, .int u1), (2, .int u2)]) fun x5 => ?_
        refine o_goto (pc := 66) (tgt := 28) dX6_enough_66 rfl <| ?_
        refine o_sub [1, 2, 3, 0] (ls' := [(0, .ref 0), (1, .int u1), (2, .int u2), (3, .int x5)]) rfl ?_
        exact ih0 r3.2 x5
      · refine o_iload_n (pc := 61) 3 dX6_enough_61 rfl rfl <| ?_
        exact o_iret (pc := 62) dX6_enough_62 rfl rfl
def fC_enough (sh : Sh) (R : RR) (m : MI) (a : Int32) (b : Int32) : Option (Int32 × MI) :=
  (fW_has m a).bind fun r1 =>
  if r1.1 = 0 then
    some (-1, r1.2)
  else
    if b < 0 then
      some (-2, r1.2)
    else
      if b ≤ 1000000 then
        fC_enough_l28 sh R a b
          (fun m6 z5 =>
            some (-5, m6)
            )
          1000 r1.2 0
      else
        some (-2, r1.2)
theorem sC_enough {sh : Sh} {R : RR} (hF : Fx sh R) (m : MI) (a : Int32) (b : Int32) : KS (eI sh R) false 7 0 0 YX6_enough sh R m [.ref 0, .int a, .int b] (fC_enough sh R m a b) := by
  refine KS_of pn_X6 (fun _ => Nat.le_of_ble_eq_true rfl) ?_
  change S _ _ _ _ _ _ _ _ _ _ [(0, .ref 0), (1, .int a), (2, .int b)] [] _
  unfold fC_enough
  refine o_aload_n (pc := 0) 0 dX6_enough_0 rfl rfl <| o_getRc (pc := 1) (a := 1) (ci := 6) (j := 0) (nn := 0) dX6_enough_1 (hF.1 _ _ rfl) rfl (Nat.le_of_ble_eq_true rfl) k_292 rfl (hF.2 _ _ _ rfl) <| o_iload_n (pc := 4) 1 dX6_enough_4 rfl rfl <| ?_
  refine o_callVI (Y2 := YX5_has) (pc := 5) (av := [.int a]) (rest := []) dX6_enough_5 k_353 cm_X5_has (sW_has hF m a) (hF.1 _ _ rfl) rfl rfl (Nat.le_of_ble_eq_true rfl) (Nat.le_of_ble_eq_true rfl) fun r1 => ?_
  refine o_if_ne (pc := 8) (tgt := 13) dX6_enough_8 rfl (fun h2 => ?_) (fun h2 => ?_)
  · refine o_iconst (pc := 11) dX6_enough_11 lc_m1 <| ?_
    exact o_iret (pc := 12) dX6_enough_12 rfl rfl
  · refine o_iload_n (pc := 13) 2 dX6_enough_13 rfl rfl <| ?_
    refine o_if_lt (pc := 14) (tgt := 23) dX6_enough_14 rfl (fun h3 => ?_) (fun h3 => ?_)
    · refine o_bipush (pc := 23) dX6_enough_23 lb_m2 <| ?_
      exact o_iret (pc := 25) dX6_enough_25 rfl rfl
    · refine o_iload_n (pc := 17) 2 dX6_enough_17 rfl rfl <| o_ldc (pc := 18) dX6_enough_18 k_607 <| ?_
      refine o_icmp_le (pc := 20) (tgt := 26) dX6_enough_20 rfl (fun h4 => ?_) (fun h4 => ?_)
      · refine o_iconst (pc := 26) dX6_enough_26 lc_0 <| o_istore_n (pc := 27) (ls' := [(3, .int 0), (0, .ref 0), (1, .int a), (2, .int b)]) dX6_enough_27 rfl (Nat.le_of_ble_eq_true rfl) rfl <| ?_
        refine o_sub [1, 2, 3, 0] (ls' := [(0, .ref 0), (1, .int a), (2, .int b), (3, .int 0)]) rfl ?_
        refine sC_enough_l28 hF a b _ ?_ 1000 r1.2 0
        · intro m6 z5
          refine o_bipush (pc := 69) dX6_enough_69 lb_m5 <| ?_
          exact o_iret (pc := 71) dX6_enough_71 rfl rfl
      · refine o_bipush (pc := 23) dX6_enough_23 lb_m2 <| ?_
        exact o_iret (pc := 25) dX6_enough_25 rfl rfl
def fC_leans_l25 (sh : Sh) (R : RR) (u1 : Int32) (u2 : Int32) (k0_0 : MI → Int32 → Int32 → Int32 → Option (Int32 × MI)) : Nat → MI → Int32 → Int32 → Int32 → Option (Int32 × MI)
  | 0, _, _, _, _ => none
  | n0 + 1, m, v3, v4, v5 =>
    if m.1 1 0 ≤ v5 then
      k0_0 m v3 v4 v5
    else
      (fW_pull sh R m v5 0 u1 u2).bind fun r2 =>
      if r2.1 ≤ v4 then
        lt (v5 + 1) fun x4 =>
        fC_leans_l25 sh R u1 u2 k0_0 n0 r2.2 v3 v4 x4
      else
        lt (v5 + 1) fun x5 =>
        fC_leans_l25 sh R u1 u2 k0_0 n0 r2.2 v5 r2.1 x5
theorem sC_leans_l25 {sh : Sh} {R : RR} (hF : Fx sh R) (u1 : Int32) (u2 : Int32) (k0_0 : MI → Int32 → Int32 → Int32 → Option (Int32 × MI)) (hk0_0 : ∀ (m : MI) (v3 : Int32) (v4 : Int32) (v5 : Int32) , S (eI sh R) false 3 0 0 YX6_leans sh R m 71 [(0, .ref 0), (1, .int u1), (2, .int u2), (3, .int v3), (4, .int v4), (5, .int v5)] [] (k0_0 m v3 v4 v5)) : ∀ (n : Nat) (m : MI) (v3 : Int32) (v4 : Int32) (v5 : Int32) , S (eI sh R) false 3 0 0 YX6_leans sh R m 25 [(0, .ref 0), (1, .int u1), (2, .int u2), (3, .int v3), (4, .int v4), (5, .int v5)] [] (fC_leans_l25 sh R u1 u2 k0_0 n m v3 v4 v5) := by
  intro n
  induction n with
  | zero => intros; exact S_none
  | succ n0 ih0 =>
    intro m v3 v4 v5
    rw [fC_leans_l25]
    refine o_iload (pc := 25) 5 dX6_leans_25 rfl <| o_aload_n (pc := 27) 0 dX6_leans_27 rfl rfl <| o_getRc (pc := 28) (a := 1) (ci := 6) (j := 0) (nn := 0) dX6_leans_28 (hF.1 _ _ rfl) rfl (Nat.le_of_ble_eq_true rfl) k_292 rfl (hF.2 _ _ _ rfl) <| o_getI (pc := 31) (ci := 5) (j := 0) (nn := 0) dX6_leans_31 (hF.1 _ _ rfl) rfl (Nat.le_of_ble_eq_true rfl) k_124 rfl <| ?_
    refine o_icmp_ge (pc := 34) (tgt := 71) dX6_leans_34 rfl (fun h1 => ?_) (fun h1 => ?_)
    · exact hk0_0 m v3 v4 v5
    · refine o_aload_n (pc := 37) 0 dX6_leans_37 rfl rfl <| o_getRc (pc := 38) (a := 1) (ci := 6) (j := 0) (nn := 0) dX6_leans_38 (hF.1 _ _ rfl) rfl (Nat.le_of_ble_eq_true rfl) k_292 rfl (hF.2 _ _ _ rfl) <| o_iload (pc := 41) 5 dX6_leans_41 rfl <| o_iconst (pc := 43) dX6_leans_43 lc_0 <| o_iload_n (pc := 44) 1 dX6_leans_44 rfl rfl <| o_iload_n (pc := 45) 2 dX6_leans_45 rfl rfl <| ?_
      refine o_callVI (Y2 := YX5_pull) (pc := 46) (av := [.int v5, .int 0, .int u1, .int u2]) (rest := []) dX6_leans_46 k_361 cm_X5_pull (sW_pull hF m v5 0 u1 u2) (hF.1 _ _ rfl) rfl rfl (Nat.le_of_ble_eq_true rfl) (Nat.le_of_ble_eq_true rfl) fun r2 => ?_
      refine o_istore (pc := 49) (ls' := [(6, .int r2.1), (0, .ref 0), (1, .int u1), (2, .int u2), (3, .int v3), (4, .int v4), (5, .int v5)]) dX6_leans_49 (Nat.le_of_ble_eq_true rfl) rfl <| o_iload (pc := 51) 0 dX6_leans_51 rfl <| o_iload (pc := 53) 5 dX6_leans_53 rfl <| ?_
      refine o_icmp_le (pc := 55) (tgt := 65) dX6_leans_55 rfl (fun h3 => ?_) (fun h3 => ?_)
      · refine o_iinc (pc := 65) 6 (v := v5 + 1) (ls' := [(5, .int (v5 + 1)), (6, .int r2.1), (0, .ref 0), (1, .int u1), (2, .int u2), (3, .int v3), (4, .int v4)]) dX6_leans_65 rfl rfl (Nat.le_of_ble_eq_true rfl) rfl <| ?_
        refine o_ltL (ls := fun x4 => [(5, .int x4), (6, .int r2.1), (0, .ref 0), (1, .int u1), (2, .int u2), (3, .int v3), (4, .int v4)]) fun x4 => ?_
        refine o_goto (pc := 68) (tgt := 25) dX6_leans_68 rfl <| ?_
        refine o_sub [2, 3, 4, 5, 6, 0] (ls' := [(0, .ref 0), (1, .int u1), (2, .int u2), (3, .int v3), (4, .int v4), (5, .int x4)]) rfl ?_
        exact ih0 r2.2 v3 v4 x4
      · refine o_iload (pc := 58) 0 dX6_leans_58 rfl <| o_istore (pc := 60) (ls' := [(4, .int r2.1), (6, .int r2.1), (0, .ref 0), (1, .int u1), (2, .int u2), (3, .int v3), (5, .int v5)]) dX6_leans_60 (Nat.le_of_ble_eq_true rfl) rfl <| o_iload (pc := 62) 6 dX6_leans_62 rfl <| o_istore_n (pc := 64) (ls' := [(3, .int v5), (4, .int r2.1), (6, .int r2.1), (0, .ref 0), (1, .int u1), (2, .int u2), (5, .int v5)]) dX6_leans_64 rfl (Nat.le_of_ble_eq_true rfl) rfl <| o_iinc (pc := 65) 6 (v := v5 + 1) (ls' := [(5, .int (v5 + 1)), (3, .int v5), (4, .int r2.1), (6, .int r2.1), (0, .ref 0), (1, .int u1), (2, .int u2)]) dX6_leans_65 rfl rfl (Nat.le_of_ble_eq_true rfl) rfl <| ?_
        refine o_ltL (ls := fun x5 => [(5, .int x5), (3, .int v5), (4, .int r2.1), (6, .int r2.1), (0, .ref 0), (1, .int u1), (2, .int u2)]) fun x5 => ?_
        refine o_goto (pc := 68) (tgt := 25) dX6_leans_68 rfl <| ?_
        refine o_sub [4, 5, 6, 1, 2, 0] (ls' := [(0, .ref 0), (1, .int u1), (2, .int u2), (3, .int v5), (4, .int r2.1), (5, .int x5)]) rfl ?_
        exact ih0 r2.2 v5 r2.1 x5
def fC_leans (sh : Sh) (R : RR) (m : MI) : Option (Int32 × MI) :=
  (fW_wholeShorts sh R m).bind fun r1 =>
  (fW_wholeLongs sh R r1.2).bind fun r2 =>
  fC_leans_l25 sh R r1.1 r2.1
    (fun m6 z3 z4 z5 =>
      some (z3, m6)
      )
    1000 r2.2 (-5) (-1) 0
theorem sC_leans {sh : Sh} {R : RR} (hF : Fx sh R) (m : MI) : KS (eI sh R) false 3 0 0 YX6_leans sh R m [.ref 0] (fC_leans sh R m ) := by
  refine KS_of pn_X6 (fun _ => Nat.le_of_ble_eq_true rfl) ?_
  change S _ _ _ _ _ _ _ _ _ _ [(0, .ref 0)] [] _
  unfold fC_leans
  refine o_aload_n (pc := 0) 0 dX6_leans_0 rfl rfl <| o_getRc (pc := 1) (a := 1) (ci := 6) (j := 0) (nn := 0) dX6_leans_1 (hF.1 _ _ rfl) rfl (Nat.le_of_ble_eq_true rfl) k_292 rfl (hF.2 _ _ _ rfl) <| ?_
  refine o_callVI (Y2 := YX5_wholeShorts) (pc := 4) (av := []) (rest := []) dX6_leans_4 k_678 cm_X5_wholeShorts (sW_wholeShorts hF m ) (hF.1 _ _ rfl) rfl rfl (Nat.le_of_ble_eq_true rfl) (Nat.le_of_ble_eq_true rfl) fun r1 => ?_
  refine o_istore_n (pc := 7) (ls' := [(1, .int r1.1), (0, .ref 0)]) dX6_leans_7 rfl (Nat.le_of_ble_eq_true rfl) rfl <| o_aload_n (pc := 8) 1 dX6_leans_8 rfl rfl <| o_getRc (pc := 9) (a := 1) (ci := 6) (j := 0) (nn := 0) dX6_leans_9 (hF.1 _ _ rfl) rfl (Nat.le_of_ble_eq_true rfl) k_292 rfl (hF.2 _ _ _ rfl) <| ?_
  refine o_callVI (Y2 := YX5_wholeLongs) (pc := 12) (av := []) (rest := []) dX6_leans_12 k_679 cm_X5_wholeLongs (sW_wholeLongs hF r1.2 ) (hF.1 _ _ rfl) rfl rfl (Nat.le_of_ble_eq_true rfl) (Nat.le_of_ble_eq_true rfl) fun r2 => ?_
  refine o_istore_n (pc := 15) (ls' := [(2, .int r2.1), (1, .int r1.1), (0, .ref 0)]) dX6_leans_15 rfl (Nat.le_of_ble_eq_true rfl) rfl <| o_bipush (pc := 16) dX6_leans_16 lb_m5 <| o_istore_n (pc := 18) (ls' := [(3, .int (-5)), (2, .int r2.1), (1, .int r1.1), (0, .ref 0)]) dX6_leans_18 rfl (Nat.le_of_ble_eq_true rfl) rfl <| o_iconst (pc := 19) dX6_leans_19 lc_m1 <| o_istore (pc := 20) (ls' := [(4, .int (-1)), (3, .int (-5)), (2, .int r2.1), (1, .int r1.1), (0, .ref 0)]) dX6_leans_20 (Nat.le_of_ble_eq_true rfl) rfl <| o_iconst (pc := 22) dX6_leans_22 lc_0 <| o_istore (pc := 23) (ls' := [(5, .int 0), (4, .int (-1)), (3, .int (-5)), (2, .int r2.1), (1, .int r1.1), (0, .ref 0)]) dX6_leans_23 (Nat.le_of_ble_eq_true rfl) rfl <| ?_
  refine o_sub [5, 4, 3, 2, 1, 0] (ls' := [(0, .ref 0), (1, .int r1.1), (2, .int r2.1), (3, .int (-5)), (4, .int (-1)), (5, .int 0)]) rfl ?_
  refine sC_leans_l25 hF r1.1 r2.1 _ ?_ 1000 r2.2 (-5) (-1) 0
  · intro m6 z3 z4 z5
    refine o_iload_n (pc := 71) 3 dX6_leans_71 rfl rfl <| ?_
    exact o_iret (pc := 72) dX6_leans_72 rfl rfl
def fC_isChosen (m : MI) (a : Int32) : Option (Int32 × MI) :=
  if a < 1 then
    some (0, m)
  else
    if 16 < a then
      some (0, m)
    else
      some (1, m)
theorem sC_isChosen {sh : Sh} {R : RR} (hF : Fx sh R) (m : MI) (a : Int32) : KS (eI sh R) false 0 0 0 YX6_isChosen sh R m [.int a] (fC_isChosen m a) := by
  refine KS_of pn_X6 (fun _ => Nat.le_of_ble_eq_true rfl) ?_
  change S _ _ _ _ _ _ _ _ _ _ [(0, .int a)] [] _
  unfold fC_isChosen
  refine o_iload_n (pc := 0) 0 dX6_isChosen_0 rfl rfl <| o_iconst (pc := 1) dX6_isChosen_1 lc_1 <| ?_
  refine o_icmp_lt (pc := 2) (tgt := 15) dX6_isChosen_2 rfl (fun h1 => ?_) (fun h1 => ?_)
  · refine o_iconst (pc := 15) dX6_isChosen_15 lc_0 <| ?_
    exact o_zret (pc := 16) dX6_isChosen_16 rfl rfl rfl
  · refine o_iload_n (pc := 5) 0 dX6_isChosen_5 rfl rfl <| o_bipush (pc := 6) dX6_isChosen_6 lb_16 <| ?_
    refine o_icmp_gt (pc := 8) (tgt := 15) dX6_isChosen_8 rfl (fun h2 => ?_) (fun h2 => ?_)
    · refine o_iconst (pc := 15) dX6_isChosen_15 lc_0 <| ?_
      exact o_zret (pc := 16) dX6_isChosen_16 rfl rfl rfl
    · refine o_iconst (pc := 11) dX6_isChosen_11 lc_1 <| o_goto (pc := 12) (tgt := 16) dX6_isChosen_12 rfl <| ?_
      exact o_zret (pc := 16) dX6_isChosen_16 rfl rfl rfl
def fC_isPart (m : MI) (a : Int32) : Option (Int32 × MI) :=
  if a = 0 then
    some (1, m)
  else
    if a = 1 then
      some (1, m)
    else
      some (0, m)
theorem sC_isPart {sh : Sh} {R : RR} (hF : Fx sh R) (m : MI) (a : Int32) : KS (eI sh R) false 0 0 0 YX6_isPart sh R m [.int a] (fC_isPart m a) := by
  refine KS_of pn_X6 (fun _ => Nat.le_of_ble_eq_true rfl) ?_
  change S _ _ _ _ _ _ _ _ _ _ [(0, .int a)] [] _
  unfold fC_isPart
  refine o_iload_n (pc := 0) 0 dX6_isPart_0 rfl rfl <| ?_
  refine o_if_eq (pc := 1) (tgt := 9) dX6_isPart_1 rfl (fun h1 => ?_) (fun h1 => ?_)
  · refine o_iconst (pc := 9) dX6_isPart_9 lc_1 <| o_goto (pc := 10) (tgt := 14) dX6_isPart_10 rfl <| ?_
    exact o_zret (pc := 14) dX6_isPart_14 rfl rfl rfl
  · refine o_iload_n (pc := 4) 0 dX6_isPart_4 rfl rfl <| o_iconst (pc := 5) dX6_isPart_5 lc_1 <| ?_
    refine o_icmp_ne (pc := 6) (tgt := 13) dX6_isPart_6 rfl (fun h2 => ?_) (fun h2 => ?_)
    · refine o_iconst (pc := 9) dX6_isPart_9 lc_1 <| o_goto (pc := 10) (tgt := 14) dX6_isPart_10 rfl <| ?_
      exact o_zret (pc := 14) dX6_isPart_14 rfl rfl rfl
    · refine o_iconst (pc := 13) dX6_isPart_13 lc_0 <| ?_
      exact o_zret (pc := 14) dX6_isPart_14 rfl rfl rfl
def fC_power_l5 (u0 : Int32) (u1 : Int32) (k0_0 : MI → Int64 → Int32 → Option (Int64 × MI)) : Nat → MI → Int64 → Int32 → Option (Int64 × MI)
  | 0, _, _, _ => none
  | n0 + 1, m, v2, v4 =>
    if u1 ≤ v4 then
      k0_0 m v2 v4
    else
      ltl (v2 * (u0.toInt64)) fun y2 =>
      lt (v4 + 1) fun x3 =>
      fC_power_l5 u0 u1 k0_0 n0 m y2 x3
theorem sC_power_l5 {sh : Sh} {R : RR} (hF : Fx sh R) (u0 : Int32) (u1 : Int32) (k0_0 : MI → Int64 → Int32 → Option (Int64 × MI)) (hk0_0 : ∀ (m : MI) (v2 : Int64) (v4 : Int32) , S (eL sh R) false 0 0 0 YX6_power sh R m 22 [(0, .int u0), (1, .int u1), (2, .long v2), (4, .int v4)] [] (k0_0 m v2 v4)) : ∀ (n : Nat) (m : MI) (v2 : Int64) (v4 : Int32) , S (eL sh R) false 0 0 0 YX6_power sh R m 5 [(0, .int u0), (1, .int u1), (2, .long v2), (4, .int v4)] [] (fC_power_l5 u0 u1 k0_0 n m v2 v4) := by
  intro n
  induction n with
  | zero => intros; exact S_none
  | succ n0 ih0 =>
    intro m v2 v4
    rw [fC_power_l5]
    refine o_iload (pc := 5) 3 dX6_power_5 rfl <| o_iload_n (pc := 7) 1 dX6_power_7 rfl rfl <| ?_
    refine o_icmp_ge (pc := 8) (tgt := 22) dX6_power_8 rfl (fun h1 => ?_) (fun h1 => ?_)
    · exact hk0_0 m v2 v4
    · refine o_lload_n (pc := 11) 2 dX6_power_11 rfl rfl <| o_iload_n (pc := 12) 0 dX6_power_12 rfl rfl <| o_i2l (pc := 13) dX6_power_13 <| o_lmul (pc := 14) dX6_power_14 <| ?_
      refine o_ltl fun y2 => ?_
      refine o_lstore_n (pc := 15) (ls' := [(2, .long y2), (0, .int u0), (1, .int u1), (4, .int v4)]) dX6_power_15 rfl (Nat.le_of_ble_eq_true rfl) rfl <| o_iinc (pc := 16) 3 (v := v4 + 1) (ls' := [(4, .int (v4 + 1)), (2, .long y2), (0, .int u0), (1, .int u1)]) dX6_power_16 rfl rfl (Nat.le_of_ble_eq_true rfl) rfl <| ?_
      refine o_ltL (ls := fun x3 => [(4, .int x3), (2, .long y2), (0, .int u0), (1, .int u1)]) fun x3 => ?_
      refine o_goto (pc := 19) (tgt := 5) dX6_power_19 rfl <| ?_
      refine o_sub [2, 3, 1, 0] (ls' := [(0, .int u0), (1, .int u1), (2, .long y2), (4, .int x3)]) rfl ?_
      exact ih0 m y2 x3
def fC_power (m : MI) (a : Int32) (b : Int32) : Option (Int64 × MI) :=
  fC_power_l5 a b
    (fun m3 z1 z2 =>
      some (z1, m3)
      )
    1000 m 1 0
theorem sC_power {sh : Sh} {R : RR} (hF : Fx sh R) (m : MI) (a : Int32) (b : Int32) : KS (eL sh R) false 0 0 0 YX6_power sh R m [.int a, .int b] (fC_power m a b) := by
  refine KS_of pn_X6 (fun _ => Nat.le_of_ble_eq_true rfl) ?_
  change S _ _ _ _ _ _ _ _ _ _ [(0, .int a), (1, .int b)] [] _
  unfold fC_power
  refine o_lconst (pc := 0) (x := 1) dX6_power_0 rfl <| o_lstore_n (pc := 1) (ls' := [(2, .long 1), (0, .int a), (1, .int b)]) dX6_power_1 rfl (Nat.le_of_ble_eq_true rfl) rfl <| o_iconst (pc := 2) dX6_power_2 lc_0 <| o_istore (pc := 3) (ls' := [(4, .int 0), (2, .long 1), (0, .int a), (1, .int b)]) dX6_power_3 (Nat.le_of_ble_eq_true rfl) rfl <| ?_
  refine o_sub [2, 3, 1, 0] (ls' := [(0, .int a), (1, .int b), (2, .long 1), (4, .int 0)]) rfl ?_
  refine sC_power_l5 hF a b _ ?_ 1000 m 1 0
  · intro m3 z1 z2
    refine o_lload_n (pc := 22) 2 dX6_power_22 rfl rfl <| ?_
    exact o_lret (pc := 23) dX6_power_23 rfl rfl
def fC_throwsFor_l2 (u0 : Int32) (u1 : Int32) (k0_0 : MI → Int32 → Option (Int32 × MI)) : Nat → MI → Int32 → Option (Int32 × MI)
  | 0, _, _ => none
  | n0 + 1, m, v2 =>
    if 16 ≤ v2 then
      k0_0 m v2
    else
      (fC_power m u0 v2).bind fun r2 =>
      if 0 ≤ lg_cmp r2.1 (u1.toInt64) then
        k0_0 r2.2 v2
      else
        lt (v2 + 1) fun x4 =>
        fC_throwsFor_l2 u0 u1 k0_0 n0 r2.2 x4
theorem sC_throwsFor_l2 {sh : Sh} {R : RR} (hF : Fx sh R) (u0 : Int32) (u1 : Int32) (k0_0 : MI → Int32 → Option (Int32 × MI)) (hk0_0 : ∀ (m : MI) (v2 : Int32) , S (eI sh R) false 1 0 0 YX6_throwsFor sh R m 25 [(0, .int u0), (1, .int u1), (2, .int v2)] [] (k0_0 m v2)) : ∀ (n : Nat) (m : MI) (v2 : Int32) , S (eI sh R) false 1 0 0 YX6_throwsFor sh R m 2 [(0, .int u0), (1, .int u1), (2, .int v2)] [] (fC_throwsFor_l2 u0 u1 k0_0 n m v2) := by
  intro n
  induction n with
  | zero => intros; exact S_none
  | succ n0 ih0 =>
    intro m v2
    rw [fC_throwsFor_l2]
    refine o_iload_n (pc := 2) 2 dX6_throwsFor_2 rfl rfl <| o_bipush (pc := 3) dX6_throwsFor_3 lb_16 <| ?_
    refine o_icmp_ge (pc := 5) (tgt := 25) dX6_throwsFor_5 rfl (fun h1 => ?_) (fun h1 => ?_)
    · exact hk0_0 m v2
    · refine o_iload_n (pc := 8) 0 dX6_throwsFor_8 rfl rfl <| o_iload_n (pc := 9) 2 dX6_throwsFor_9 rfl rfl <| ?_
      refine o_callSL (Y2 := YX6_power) (pc := 10) (av := [.int u0, .int v2]) (rest := []) dX6_throwsFor_10 k_694 cs_X6_power (sC_power hF m u0 v2) rfl rfl (Nat.le_of_ble_eq_true rfl) (Nat.le_of_ble_eq_true rfl) fun r2 => ?_
      refine o_iload_n (pc := 13) 1 dX6_throwsFor_13 rfl rfl <| o_i2l (pc := 14) dX6_throwsFor_14 <| o_lcmp (pc := 15) dX6_throwsFor_15 <| ?_
      refine o_if_ge (pc := 16) (tgt := 25) dX6_throwsFor_16 rfl (fun h3 => ?_) (fun h3 => ?_)
      · exact hk0_0 r2.2 v2
      · refine o_iinc (pc := 19) 2 (v := v2 + 1) (ls' := [(2, .int (v2 + 1)), (0, .int u0), (1, .int u1)]) dX6_throwsFor_19 rfl rfl (Nat.le_of_ble_eq_true rfl) rfl <| ?_
        refine o_ltL (ls := fun x4 => [(2, .int x4), (0, .int u0), (1, .int u1)]) fun x4 => ?_
        refine o_goto (pc := 22) (tgt := 2) dX6_throwsFor_22 rfl <| ?_
        refine o_sub [1, 2, 0] (ls' := [(0, .int u0), (1, .int u1), (2, .int x4)]) rfl ?_
        exact ih0 r2.2 x4
def fC_throwsFor (m : MI) (a : Int32) (b : Int32) : Option (Int32 × MI) :=
  fC_throwsFor_l2 a b
    (fun m2 z1 =>
      some (z1, m2)
      )
    1000 m 0
theorem sC_throwsFor {sh : Sh} {R : RR} (hF : Fx sh R) (m : MI) (a : Int32) (b : Int32) : KS (eI sh R) false 1 0 0 YX6_throwsFor sh R m [.int a, .int b] (fC_throwsFor m a b) := by
  refine KS_of pn_X6 (fun _ => Nat.le_of_ble_eq_true rfl) ?_
  change S _ _ _ _ _ _ _ _ _ _ [(0, .int a), (1, .int b)] [] _
  unfold fC_throwsFor
  refine o_iconst (pc := 0) dX6_throwsFor_0 lc_0 <| o_istore_n (pc := 1) (ls' := [(2, .int 0), (0, .int a), (1, .int b)]) dX6_throwsFor_1 rfl (Nat.le_of_ble_eq_true rfl) rfl <| ?_
  refine o_sub [1, 2, 0] (ls' := [(0, .int a), (1, .int b), (2, .int 0)]) rfl ?_
  refine sC_throwsFor_l2 hF a b _ ?_ 1000 m 0
  · intro m2 z1
    refine o_iload_n (pc := 25) 2 dX6_throwsFor_25 rfl rfl <| ?_
    exact o_iret (pc := 26) dX6_throwsFor_26 rfl rfl
def fC_commonDivisor_l9 (u0 : Int64) (u2 : Int64) (k0_0 : MI → Int64 → Int64 → Int32 → Option (Int64 × MI)) : Nat → MI → Int64 → Int64 → Int32 → Option (Int64 × MI)
  | 0, _, _, _, _ => none
  | n0 + 1, m, v4, v6, v8 =>
    if 100 ≤ v8 then
      k0_0 m v4 v6 v8
    else
      if lg_cmp v6 0 = 0 then
        k0_0 m v4 v6 v8
      else
        if ¬ (v6 = 0) then
          ltl (v4 - v4 / v6 * v6) fun y4 =>
          lt (v8 + 1) fun x5 =>
          fC_commonDivisor_l9 u0 u2 k0_0 n0 m v6 y4 x5
        else none
theorem sC_commonDivisor_l9 {sh : Sh} {R : RR} (hF : Fx sh R) (u0 : Int64) (u2 : Int64) (k0_0 : MI → Int64 → Int64 → Int32 → Option (Int64 × MI)) (hk0_0 : ∀ (m : MI) (v4 : Int64) (v6 : Int64) (v8 : Int32) , S (eL sh R) false 0 0 0 YX6_commonDivisor sh R m 44 [(0, .long u0), (2, .long u2), (4, .long v4), (6, .long v6), (8, .int v8)] [] (k0_0 m v4 v6 v8)) : ∀ (n : Nat) (m : MI) (v4 : Int64) (v6 : Int64) (v8 : Int32) , S (eL sh R) false 0 0 0 YX6_commonDivisor sh R m 9 [(0, .long u0), (2, .long u2), (4, .long v4), (6, .long v6), (8, .int v8)] [] (fC_commonDivisor_l9 u0 u2 k0_0 n m v4 v6 v8) := by
  intro n
  induction n with
  | zero => intros; exact S_none
  | succ n0 ih0 =>
    intro m v4 v6 v8
    rw [fC_commonDivisor_l9]
    refine o_iload (pc := 9) 4 dX6_commonDivisor_9 rfl <| o_bipush (pc := 11) dX6_commonDivisor_11 lb_100 <| ?_
    refine o_icmp_ge (pc := 13) (tgt := 44) dX6_commonDivisor_13 rfl (fun h1 => ?_) (fun h1 => ?_)
    · exact hk0_0 m v4 v6 v8
    · refine o_lload (pc := 16) 3 dX6_commonDivisor_16 rfl <| o_lconst (pc := 18) (x := 0) dX6_commonDivisor_18 rfl <| o_lcmp (pc := 19) dX6_commonDivisor_19 <| ?_
      refine o_if_eq (pc := 20) (tgt := 44) dX6_commonDivisor_20 rfl (fun h2 => ?_) (fun h2 => ?_)
      · exact hk0_0 m v4 v6 v8
      · refine o_lload (pc := 23) 2 dX6_commonDivisor_23 rfl <| o_lload (pc := 25) 3 dX6_commonDivisor_25 rfl <| ?_
        refine S_ck fun h3 => ?_
        refine o_lrem (pc := 27) dX6_commonDivisor_27 h3 <| ?_
        refine o_ltl fun y4 => ?_
        refine o_lstore (pc := 28) (ls' := [(9, .long y4), (0, .long u0), (2, .long u2), (4, .long v4), (6, .long v6), (8, .int v8)]) dX6_commonDivisor_28 (Nat.le_of_ble_eq_true rfl) rfl <| o_lload (pc := 30) 4 dX6_commonDivisor_30 rfl <| o_lstore (pc := 32) (ls' := [(4, .long v6), (9, .long y4), (0, .long u0), (2, .long u2), (6, .long v6), (8, .int v8)]) dX6_commonDivisor_32 (Nat.le_of_ble_eq_true rfl) rfl <| o_lload (pc := 34) 1 dX6_commonDivisor_34 rfl <| o_lstore (pc := 36) (ls' := [(6, .long y4), (4, .long v6), (9, .long y4), (0, .long u0), (2, .long u2), (8, .int v8)]) dX6_commonDivisor_36 (Nat.le_of_ble_eq_true rfl) rfl <| o_iinc (pc := 38) 5 (v := v8 + 1) (ls' := [(8, .int (v8 + 1)), (6, .long y4), (4, .long v6), (9, .long y4), (0, .long u0), (2, .long u2)]) dX6_commonDivisor_38 rfl rfl (Nat.le_of_ble_eq_true rfl) rfl <| ?_
        refine o_ltL (ls := fun x5 => [(8, .int x5), (6, .long y4), (4, .long v6), (9, .long y4), (0, .long u0), (2, .long u2)]) fun x5 => ?_
        refine o_goto (pc := 41) (tgt := 9) dX6_commonDivisor_41 rfl <| ?_
        refine o_sub [4, 5, 2, 1, 0] (ls' := [(0, .long u0), (2, .long u2), (4, .long v6), (6, .long y4), (8, .int x5)]) rfl ?_
        exact ih0 m v6 y4 x5
def fC_commonDivisor (m : MI) (a : Int64) (b : Int64) : Option (Int64 × MI) :=
  fC_commonDivisor_l9 a b
    (fun m4 z1 z2 z3 =>
      some (z1, m4)
      )
    1000 m a b 0
theorem sC_commonDivisor {sh : Sh} {R : RR} (hF : Fx sh R) (m : MI) (a : Int64) (b : Int64) : KS (eL sh R) false 0 0 0 YX6_commonDivisor sh R m [.long a, .long b] (fC_commonDivisor m a b) := by
  refine KS_of pn_X6 (fun _ => Nat.le_of_ble_eq_true rfl) ?_
  change S _ _ _ _ _ _ _ _ _ _ [(0, .long a), (2, .long b)] [] _
  unfold fC_commonDivisor
  refine o_lload_n (pc := 0) 0 dX6_commonDivisor_0 rfl rfl <| o_lstore (pc := 1) (ls' := [(4, .long a), (0, .long a), (2, .long b)]) dX6_commonDivisor_1 (Nat.le_of_ble_eq_true rfl) rfl <| o_lload_n (pc := 3) 2 dX6_commonDivisor_3 rfl rfl <| o_lstore (pc := 4) (ls' := [(6, .long b), (4, .long a), (0, .long a), (2, .long b)]) dX6_commonDivisor_4 (Nat.le_of_ble_eq_true rfl) rfl <| o_iconst (pc := 6) dX6_commonDivisor_6 lc_0 <| o_istore (pc := 7) (ls' := [(8, .int 0), (6, .long b), (4, .long a), (0, .long a), (2, .long b)]) dX6_commonDivisor_7 (Nat.le_of_ble_eq_true rfl) rfl <| ?_
  refine o_sub [3, 4, 2, 1, 0] (ls' := [(0, .long a), (2, .long b), (4, .long a), (6, .long b), (8, .int 0)]) rfl ?_
  refine sC_commonDivisor_l9 hF a b _ ?_ 1000 m a b 0
  · intro m4 z1 z2 z3
    refine o_lload (pc := 44) 2 dX6_commonDivisor_44 rfl <| ?_
    exact o_lret (pc := 46) dX6_commonDivisor_46 rfl rfl
def fC_lowest (m : MI) (a : Int64) (b : Int64) (c : Int32) : Option (Int64 × MI) :=
  (fC_commonDivisor m a b).bind fun r1 =>
  if 0 < lg_cmp r1.1 0 then
    if c = 0 then
      if ¬ (r1.1 = 0) then
        some (a / r1.1, r1.2)
      else none
    else
      if ¬ (r1.1 = 0) then
        some (b / r1.1, r1.2)
      else none
  else
    some (-9223372036854775808, r1.2)
theorem sC_lowest {sh : Sh} {R : RR} (hF : Fx sh R) (m : MI) (a : Int64) (b : Int64) (c : Int32) : KS (eL sh R) false 1 0 0 YX6_lowest sh R m [.long a, .long b, .int c] (fC_lowest m a b c) := by
  refine KS_of pn_X6 (fun _ => Nat.le_of_ble_eq_true rfl) ?_
  change S _ _ _ _ _ _ _ _ _ _ [(0, .long a), (2, .long b), (4, .int c)] [] _
  unfold fC_lowest
  refine o_lload_n (pc := 0) 0 dX6_lowest_0 rfl rfl <| o_lload_n (pc := 1) 1 dX6_lowest_1 rfl rfl <| ?_
  refine o_callSL (Y2 := YX6_commonDivisor) (pc := 2) (av := [.long a, .long b]) (rest := []) dX6_lowest_2 k_700 cs_X6_commonDivisor (sC_commonDivisor hF m a b) rfl rfl (Nat.le_of_ble_eq_true rfl) (Nat.le_of_ble_eq_true rfl) fun r1 => ?_
  refine o_lstore (pc := 5) (ls' := [(5, .long r1.1), (0, .long a), (2, .long b), (4, .int c)]) dX6_lowest_5 (Nat.le_of_ble_eq_true rfl) rfl <| o_lload (pc := 7) 0 dX6_lowest_7 rfl <| o_lconst (pc := 9) (x := 0) dX6_lowest_9 rfl <| o_lcmp (pc := 10) dX6_lowest_10 <| ?_
  refine o_if_gt (pc := 11) (tgt := 18) dX6_lowest_11 rfl (fun h2 => ?_) (fun h2 => ?_)
  · refine o_iload (pc := 18) 3 dX6_lowest_18 rfl <| ?_
    refine o_if_ne (pc := 20) (tgt := 27) dX6_lowest_20 rfl (fun h3 => ?_) (fun h3 => ?_)
    · refine o_lload_n (pc := 23) 1 dX6_lowest_23 rfl rfl <| o_goto (pc := 24) (tgt := 28) dX6_lowest_24 rfl <| o_lload (pc := 28) 0 dX6_lowest_28 rfl <| ?_
      refine S_ck fun h4 => ?_
      refine o_ldiv (pc := 30) dX6_lowest_30 h4 <| ?_
      exact o_lret (pc := 31) dX6_lowest_31 rfl rfl
    · refine o_lload_n (pc := 27) 2 dX6_lowest_27 rfl rfl <| o_lload (pc := 28) 0 dX6_lowest_28 rfl <| ?_
      refine S_ck fun h5 => ?_
      refine o_ldiv (pc := 30) dX6_lowest_30 h5 <| ?_
      exact o_lret (pc := 31) dX6_lowest_31 rfl rfl
  · refine o_ldc2 (pc := 14) dX6_lowest_14 k_690 <| ?_
    exact o_lret (pc := 17) dX6_lowest_17 rfl rfl
def fC_coin (m : MI) (a : Int32) (b : Int32) (c : Int32) : Option (Int64 × MI) :=
  if a < 1 then
    some (-9223372036854775808, m)
  else
    if 99 < a then
      some (-9223372036854775808, m)
    else
      (fC_isChosen m b).bind fun r3 =>
      if r3.1 = 0 then
        some (-9223372036854775808, r3.2)
      else
        (fC_isPart r3.2 c).bind fun r5 =>
        if r5.1 = 0 then
          some (-9223372036854775808, r5.2)
        else
          (fC_throwsFor r5.2 2 b).bind fun r7 =>
          (fC_power r7.2 2 r7.1).bind fun r8 =>
          ltl ((r7.1.toInt64) * r8.1) fun y9 =>
          if a = 50 then
            (fC_lowest r8.2 y9 (b.toInt64) c).bind fun r11 =>
            some (r11.1, r11.2)
          else
            (fC_lowest r8.2 ((10000 : Int64) * y9) (((b.toInt64) * (a.toInt64)) * (((100 : Int32) - a).toInt64)) c).bind fun r12 =>
            some (r12.1, r12.2)
theorem sC_coin {sh : Sh} {R : RR} (hF : Fx sh R) (m : MI) (a : Int32) (b : Int32) (c : Int32) : KS (eL sh R) false 2 0 0 YX6_coin sh R m [.ref 0, .int a, .int b, .int c] (fC_coin m a b c) := by
  refine KS_of pn_X6 (fun _ => Nat.le_of_ble_eq_true rfl) ?_
  change S _ _ _ _ _ _ _ _ _ _ [(0, .ref 0), (1, .int a), (2, .int b), (3, .int c)] [] _
  unfold fC_coin
  refine o_iload_n (pc := 0) 1 dX6_coin_0 rfl rfl <| o_iconst (pc := 1) dX6_coin_1 lc_1 <| ?_
  refine o_icmp_lt (pc := 2) (tgt := 25) dX6_coin_2 rfl (fun h1 => ?_) (fun h1 => ?_)
  · refine o_ldc2 (pc := 25) dX6_coin_25 k_690 <| ?_
    exact o_lret (pc := 28) dX6_coin_28 rfl rfl
  · refine o_iload_n (pc := 5) 1 dX6_coin_5 rfl rfl <| o_bipush (pc := 6) dX6_coin_6 lb_99 <| ?_
    refine o_icmp_gt (pc := 8) (tgt := 25) dX6_coin_8 rfl (fun h2 => ?_) (fun h2 => ?_)
    · refine o_ldc2 (pc := 25) dX6_coin_25 k_690 <| ?_
      exact o_lret (pc := 28) dX6_coin_28 rfl rfl
    · refine o_iload_n (pc := 11) 2 dX6_coin_11 rfl rfl <| ?_
      refine o_callSI (Y2 := YX6_isChosen) (pc := 12) (av := [.int b]) (rest := []) dX6_coin_12 k_684 cs_X6_isChosen (sC_isChosen hF m b) rfl rfl (Nat.le_of_ble_eq_true rfl) (Nat.le_of_ble_eq_true rfl) fun r3 => ?_
      refine o_if_eq (pc := 15) (tgt := 25) dX6_coin_15 rfl (fun h4 => ?_) (fun h4 => ?_)
      · refine o_ldc2 (pc := 25) dX6_coin_25 k_690 <| ?_
        exact o_lret (pc := 28) dX6_coin_28 rfl rfl
      · refine o_iload_n (pc := 18) 3 dX6_coin_18 rfl rfl <| ?_
        refine o_callSI (Y2 := YX6_isPart) (pc := 19) (av := [.int c]) (rest := []) dX6_coin_19 k_687 cs_X6_isPart (sC_isPart hF r3.2 c) rfl rfl (Nat.le_of_ble_eq_true rfl) (Nat.le_of_ble_eq_true rfl) fun r5 => ?_
        refine o_if_ne (pc := 22) (tgt := 29) dX6_coin_22 rfl (fun h6 => ?_) (fun h6 => ?_)
        · refine o_ldc2 (pc := 25) dX6_coin_25 k_690 <| ?_
          exact o_lret (pc := 28) dX6_coin_28 rfl rfl
        · refine o_iconst (pc := 29) dX6_coin_29 lc_2 <| o_iload_n (pc := 30) 2 dX6_coin_30 rfl rfl <| ?_
          refine o_callSI (Y2 := YX6_throwsFor) (pc := 31) (av := [.int 2, .int b]) (rest := []) dX6_coin_31 k_691 cs_X6_throwsFor (sC_throwsFor hF r5.2 2 b) rfl rfl (Nat.le_of_ble_eq_true rfl) (Nat.le_of_ble_eq_true rfl) fun r7 => ?_
          refine o_istore (pc := 34) (ls' := [(4, .int r7.1), (0, .ref 0), (1, .int a), (2, .int b), (3, .int c)]) dX6_coin_34 (Nat.le_of_ble_eq_true rfl) rfl <| o_iload (pc := 36) 0 dX6_coin_36 rfl <| o_i2l (pc := 38) dX6_coin_38 <| o_iconst (pc := 39) dX6_coin_39 lc_2 <| o_iload (pc := 40) 0 dX6_coin_40 rfl <| ?_
          refine o_callSL (Y2 := YX6_power) (pc := 42) (av := [.int 2, .int r7.1]) (rest := [.long (r7.1.toInt64)]) dX6_coin_42 k_694 cs_X6_power (sC_power hF r7.2 2 r7.1) rfl rfl (Nat.le_of_ble_eq_true rfl) (Nat.le_of_ble_eq_true rfl) fun r8 => ?_
          refine o_lmul (pc := 45) dX6_coin_45 <| ?_
          refine o_ltl fun y9 => ?_
          refine o_lstore (pc := 46) (ls' := [(5, .long y9), (4, .int r7.1), (0, .ref 0), (1, .int a), (2, .int b), (3, .int c)]) dX6_coin_46 (Nat.le_of_ble_eq_true rfl) rfl <| o_iload_n (pc := 48) 3 dX6_coin_48 rfl rfl <| o_bipush (pc := 49) dX6_coin_49 lb_50 <| ?_
          refine o_icmp_ne (pc := 51) (tgt := 63) dX6_coin_51 rfl (fun h10 => ?_) (fun h10 => ?_)
          · refine o_lload (pc := 54) 0 dX6_coin_54 rfl <| o_iload_n (pc := 56) 4 dX6_coin_56 rfl rfl <| o_i2l (pc := 57) dX6_coin_57 <| o_iload_n (pc := 58) 5 dX6_coin_58 rfl rfl <| ?_
            refine o_callSL (Y2 := YX6_lowest) (pc := 59) (av := [.long y9, .long (b.toInt64), .int c]) (rest := []) dX6_coin_59 k_697 cs_X6_lowest (sC_lowest hF r8.2 y9 (b.toInt64) c) rfl rfl (Nat.le_of_ble_eq_true rfl) (Nat.le_of_ble_eq_true rfl) fun r11 => ?_
            exact o_lret (pc := 62) dX6_coin_62 rfl rfl
          · refine o_ldc2 (pc := 63) dX6_coin_63 k_703 <| o_lload (pc := 66) 0 dX6_coin_66 rfl <| o_lmul (pc := 68) dX6_coin_68 <| o_iload_n (pc := 69) 4 dX6_coin_69 rfl rfl <| o_i2l (pc := 70) dX6_coin_70 <| o_iload_n (pc := 71) 3 dX6_coin_71 rfl rfl <| o_i2l (pc := 72) dX6_coin_72 <| o_lmul (pc := 73) dX6_coin_73 <| o_bipush (pc := 74) dX6_coin_74 lb_100 <| o_iload_n (pc := 76) 3 dX6_coin_76 rfl rfl <| ?_
            refine o_isub (pc := 77) dX6_coin_77 <| o_i2l (pc := 78) dX6_coin_78 <| o_lmul (pc := 79) dX6_coin_79 <| o_iload_n (pc := 80) 5 dX6_coin_80 rfl rfl <| ?_
            refine o_callSL (Y2 := YX6_lowest) (pc := 81) (av := [.long ((10000 : Int64) * y9), .long (((b.toInt64) * (a.toInt64)) * (((100 : Int32) - a).toInt64)), .int c]) (rest := []) dX6_coin_81 k_697 cs_X6_lowest (sC_lowest hF r8.2 ((10000 : Int64) * y9) (((b.toInt64) * (a.toInt64)) * (((100 : Int32) - a).toInt64)) c) rfl rfl (Nat.le_of_ble_eq_true rfl) (Nat.le_of_ble_eq_true rfl) fun r12 => ?_
            exact o_lret (pc := 84) dX6_coin_84 rfl rfl
def fC_dice (m : MI) (a : Int32) (b : Int32) (c : Int32) : Option (Int64 × MI) :=
  if a < 2 then
    some (-9223372036854775808, m)
  else
    if 20 < a then
      some (-9223372036854775808, m)
    else
      (fC_isChosen m b).bind fun r3 =>
      if r3.1 = 0 then
        some (-9223372036854775808, r3.2)
      else
        (fC_isPart r3.2 c).bind fun r5 =>
        if r5.1 = 0 then
          some (-9223372036854775808, r5.2)
        else
          (fC_throwsFor r5.2 a b).bind fun r7 =>
          (fC_power r7.2 a r7.1).bind fun r8 =>
          if ¬ (b.toInt64 = 0) then
            (fC_lowest r8.2 ((r7.1.toInt64) * r8.1) (r8.1 - (r8.1 - r8.1 / (b.toInt64) * (b.toInt64))) c).bind fun r10 =>
            some (r10.1, r10.2)
          else none
theorem sC_dice {sh : Sh} {R : RR} (hF : Fx sh R) (m : MI) (a : Int32) (b : Int32) (c : Int32) : KS (eL sh R) false 2 0 0 YX6_dice sh R m [.ref 0, .int a, .int b, .int c] (fC_dice m a b c) := by
  refine KS_of pn_X6 (fun _ => Nat.le_of_ble_eq_true rfl) ?_
  change S _ _ _ _ _ _ _ _ _ _ [(0, .ref 0), (1, .int a), (2, .int b), (3, .int c)] [] _
  unfold fC_dice
  refine o_iload_n (pc := 0) 1 dX6_dice_0 rfl rfl <| o_iconst (pc := 1) dX6_dice_1 lc_2 <| ?_
  refine o_icmp_lt (pc := 2) (tgt := 25) dX6_dice_2 rfl (fun h1 => ?_) (fun h1 => ?_)
  · refine o_ldc2 (pc := 25) dX6_dice_25 k_690 <| ?_
    exact o_lret (pc := 28) dX6_dice_28 rfl rfl
  · refine o_iload_n (pc := 5) 1 dX6_dice_5 rfl rfl <| o_bipush (pc := 6) dX6_dice_6 lb_20 <| ?_
    refine o_icmp_gt (pc := 8) (tgt := 25) dX6_dice_8 rfl (fun h2 => ?_) (fun h2 => ?_)
    · refine o_ldc2 (pc := 25) dX6_dice_25 k_690 <| ?_
      exact o_lret (pc := 28) dX6_dice_28 rfl rfl
    · refine o_iload_n (pc := 11) 2 dX6_dice_11 rfl rfl <| ?_
      refine o_callSI (Y2 := YX6_isChosen) (pc := 12) (av := [.int b]) (rest := []) dX6_dice_12 k_684 cs_X6_isChosen (sC_isChosen hF m b) rfl rfl (Nat.le_of_ble_eq_true rfl) (Nat.le_of_ble_eq_true rfl) fun r3 => ?_
      refine o_if_eq (pc := 15) (tgt := 25) dX6_dice_15 rfl (fun h4 => ?_) (fun h4 => ?_)
      · refine o_ldc2 (pc := 25) dX6_dice_25 k_690 <| ?_
        exact o_lret (pc := 28) dX6_dice_28 rfl rfl
      · refine o_iload_n (pc := 18) 3 dX6_dice_18 rfl rfl <| ?_
        refine o_callSI (Y2 := YX6_isPart) (pc := 19) (av := [.int c]) (rest := []) dX6_dice_19 k_687 cs_X6_isPart (sC_isPart hF r3.2 c) rfl rfl (Nat.le_of_ble_eq_true rfl) (Nat.le_of_ble_eq_true rfl) fun r5 => ?_
        refine o_if_ne (pc := 22) (tgt := 29) dX6_dice_22 rfl (fun h6 => ?_) (fun h6 => ?_)
        · refine o_ldc2 (pc := 25) dX6_dice_25 k_690 <| ?_
          exact o_lret (pc := 28) dX6_dice_28 rfl rfl
        · refine o_iload_n (pc := 29) 1 dX6_dice_29 rfl rfl <| o_iload_n (pc := 30) 2 dX6_dice_30 rfl rfl <| ?_
          refine o_callSI (Y2 := YX6_throwsFor) (pc := 31) (av := [.int a, .int b]) (rest := []) dX6_dice_31 k_691 cs_X6_throwsFor (sC_throwsFor hF r5.2 a b) rfl rfl (Nat.le_of_ble_eq_true rfl) (Nat.le_of_ble_eq_true rfl) fun r7 => ?_
          refine o_istore (pc := 34) (ls' := [(4, .int r7.1), (0, .ref 0), (1, .int a), (2, .int b), (3, .int c)]) dX6_dice_34 (Nat.le_of_ble_eq_true rfl) rfl <| o_iload_n (pc := 36) 2 dX6_dice_36 rfl rfl <| o_iload (pc := 37) 0 dX6_dice_37 rfl <| ?_
          refine o_callSL (Y2 := YX6_power) (pc := 39) (av := [.int a, .int r7.1]) (rest := []) dX6_dice_39 k_694 cs_X6_power (sC_power hF r7.2 a r7.1) rfl rfl (Nat.le_of_ble_eq_true rfl) (Nat.le_of_ble_eq_true rfl) fun r8 => ?_
          refine o_lstore (pc := 42) (ls' := [(5, .long r8.1), (4, .int r7.1), (0, .ref 0), (1, .int a), (2, .int b), (3, .int c)]) dX6_dice_42 (Nat.le_of_ble_eq_true rfl) rfl <| o_iload (pc := 44) 1 dX6_dice_44 rfl <| o_i2l (pc := 46) dX6_dice_46 <| o_lload (pc := 47) 0 dX6_dice_47 rfl <| o_lmul (pc := 49) dX6_dice_49 <| o_lload (pc := 50) 0 dX6_dice_50 rfl <| o_lload (pc := 52) 0 dX6_dice_52 rfl <| o_iload_n (pc := 54) 4 dX6_dice_54 rfl rfl <| o_i2l (pc := 55) dX6_dice_55 <| ?_
          refine S_ck fun h9 => ?_
          refine o_lrem (pc := 56) dX6_dice_56 h9 <| o_lsub (pc := 57) dX6_dice_57 <| o_iload_n (pc := 58) 5 dX6_dice_58 rfl rfl <| ?_
          refine o_callSL (Y2 := YX6_lowest) (pc := 59) (av := [.long ((r7.1.toInt64) * r8.1), .long (r8.1 - (r8.1 - r8.1 / (b.toInt64) * (b.toInt64))), .int c]) (rest := []) dX6_dice_59 k_697 cs_X6_lowest (sC_lowest hF r8.2 ((r7.1.toInt64) * r8.1) (r8.1 - (r8.1 - r8.1 / (b.toInt64) * (b.toInt64))) c) rfl rfl (Nat.le_of_ble_eq_true rfl) (Nat.le_of_ble_eq_true rfl) fun r10 => ?_
          exact o_lret (pc := 62) dX6_dice_62 rfl rfl
def fC_turn_l9 (k0_0 : MI → Int32 → Int32 → Int32 → Option (Int32 × MI)) : Nat → MI → Int32 → Int32 → Int32 → Option (Int32 × MI)
  | 0, _, _, _, _ => none
  | n0 + 1, m, v1, v2, v3 =>
    if m.1 1 0 ≤ v3 then
      k0_0 m v1 v2 v3
    else
      if ck v3 6 = true then
        lt (m.1 12 v3.toNatClampNeg) fun x3 =>
        if ck x3 6 = true then
          if v2 ≤ m.1 4 x3.toNatClampNeg then
            lt (v3 + 1) fun x6 =>
            fC_turn_l9 k0_0 n0 m v1 v2 x6
          else
            if ck x3 6 = true then
              lt (m.1 4 x3.toNatClampNeg) fun x8 =>
              lt (v3 + 1) fun x9 =>
              fC_turn_l9 k0_0 n0 m x3 x8 x9
            else none
        else none
      else none
theorem sC_turn_l9 {sh : Sh} {R : RR} (hF : Fx sh R) (k0_0 : MI → Int32 → Int32 → Int32 → Option (Int32 × MI)) (hk0_0 : ∀ (m : MI) (v1 : Int32) (v2 : Int32) (v3 : Int32) , S (eI sh R) false 0 0 0 YX6_turn sh R m 65 [(0, .ref 0), (1, .int v1), (2, .int v2), (3, .int v3)] [] (k0_0 m v1 v2 v3)) : ∀ (n : Nat) (m : MI) (v1 : Int32) (v2 : Int32) (v3 : Int32) , S (eI sh R) false 0 0 0 YX6_turn sh R m 9 [(0, .ref 0), (1, .int v1), (2, .int v2), (3, .int v3)] [] (fC_turn_l9 k0_0 n m v1 v2 v3) := by
  intro n
  induction n with
  | zero => intros; exact S_none
  | succ n0 ih0 =>
    intro m v1 v2 v3
    rw [fC_turn_l9]
    refine o_iload_n (pc := 9) 3 dX6_turn_9 rfl rfl <| o_aload_n (pc := 10) 0 dX6_turn_10 rfl rfl <| o_getRc (pc := 11) (a := 1) (ci := 6) (j := 0) (nn := 0) dX6_turn_11 (hF.1 _ _ rfl) rfl (Nat.le_of_ble_eq_true rfl) k_292 rfl (hF.2 _ _ _ rfl) <| o_getI (pc := 14) (ci := 5) (j := 0) (nn := 0) dX6_turn_14 (hF.1 _ _ rfl) rfl (Nat.le_of_ble_eq_true rfl) k_124 rfl <| ?_
    refine o_icmp_ge (pc := 17) (tgt := 65) dX6_turn_17 rfl (fun h1 => ?_) (fun h1 => ?_)
    · exact hk0_0 m v1 v2 v3
    · refine o_aload_n (pc := 20) 0 dX6_turn_20 rfl rfl <| o_getRc (pc := 21) (a := 1) (ci := 6) (j := 0) (nn := 0) dX6_turn_21 (hF.1 _ _ rfl) rfl (Nat.le_of_ble_eq_true rfl) k_292 rfl (hF.2 _ _ _ rfl) <| o_getRc (pc := 24) (a := 12) (ci := 5) (j := 5) (nn := 0) dX6_turn_24 (hF.1 _ _ rfl) rfl (Nat.le_of_ble_eq_true rfl) k_135 rfl (hF.2 _ _ _ rfl) <| o_iload_n (pc := 27) 3 dX6_turn_27 rfl rfl <| ?_
      refine S_ck fun h2 => ?_
      refine o_iald (pc := 28) (nn := 6) dX6_turn_28 (hF.1 _ _ rfl) (ck_in h2) <| ?_
      refine o_lt fun x3 => ?_
      refine o_istore (pc := 29) (ls' := [(4, .int x3), (0, .ref 0), (1, .int v1), (2, .int v2), (3, .int v3)]) dX6_turn_29 (Nat.le_of_ble_eq_true rfl) rfl <| o_aload_n (pc := 31) 1 dX6_turn_31 rfl rfl <| o_getRc (pc := 32) (a := 1) (ci := 6) (j := 0) (nn := 0) dX6_turn_32 (hF.1 _ _ rfl) rfl (Nat.le_of_ble_eq_true rfl) k_292 rfl (hF.2 _ _ _ rfl) <| o_getRc (pc := 35) (a := 4) (ci := 5) (j := 3) (nn := 0) dX6_turn_35 (hF.1 _ _ rfl) rfl (Nat.le_of_ble_eq_true rfl) k_131 rfl (hF.2 _ _ _ rfl) <| o_iload (pc := 38) 0 dX6_turn_38 rfl <| ?_
      refine S_ck fun h4 => ?_
      refine o_iald (pc := 40) (nn := 6) dX6_turn_40 (hF.1 _ _ rfl) (ck_in h4) <| o_iload_n (pc := 41) 3 dX6_turn_41 rfl rfl <| ?_
      refine o_icmp_ge (pc := 42) (tgt := 59) dX6_turn_42 rfl (fun h5 => ?_) (fun h5 => ?_)
      · refine o_iinc (pc := 59) 4 (v := v3 + 1) (ls' := [(3, .int (v3 + 1)), (4, .int x3), (0, .ref 0), (1, .int v1), (2, .int v2)]) dX6_turn_59 rfl rfl (Nat.le_of_ble_eq_true rfl) rfl <| ?_
        refine o_ltL (ls := fun x6 => [(3, .int x6), (4, .int x3), (0, .ref 0), (1, .int v1), (2, .int v2)]) fun x6 => ?_
        refine o_goto (pc := 62) (tgt := 9) dX6_turn_62 rfl <| ?_
        refine o_sub [2, 3, 4, 0] (ls' := [(0, .ref 0), (1, .int v1), (2, .int v2), (3, .int x6)]) rfl ?_
        exact ih0 m v1 v2 x6
      · refine o_aload_n (pc := 45) 1 dX6_turn_45 rfl rfl <| o_getRc (pc := 46) (a := 1) (ci := 6) (j := 0) (nn := 0) dX6_turn_46 (hF.1 _ _ rfl) rfl (Nat.le_of_ble_eq_true rfl) k_292 rfl (hF.2 _ _ _ rfl) <| o_getRc (pc := 49) (a := 4) (ci := 5) (j := 3) (nn := 0) dX6_turn_49 (hF.1 _ _ rfl) rfl (Nat.le_of_ble_eq_true rfl) k_131 rfl (hF.2 _ _ _ rfl) <| o_iload (pc := 52) 0 dX6_turn_52 rfl <| ?_
        refine S_ck fun h7 => ?_
        refine o_iald (pc := 54) (nn := 6) dX6_turn_54 (hF.1 _ _ rfl) (ck_in h7) <| ?_
        refine o_lt fun x8 => ?_
        refine o_istore_n (pc := 55) (ls' := [(2, .int x8), (4, .int x3), (0, .ref 0), (1, .int v1), (3, .int v3)]) dX6_turn_55 rfl (Nat.le_of_ble_eq_true rfl) rfl <| o_iload (pc := 56) 1 dX6_turn_56 rfl <| o_istore_n (pc := 58) (ls' := [(1, .int x3), (2, .int x8), (4, .int x3), (0, .ref 0), (3, .int v3)]) dX6_turn_58 rfl (Nat.le_of_ble_eq_true rfl) rfl <| o_iinc (pc := 59) 4 (v := v3 + 1) (ls' := [(3, .int (v3 + 1)), (1, .int x3), (2, .int x8), (4, .int x3), (0, .ref 0)]) dX6_turn_59 rfl rfl (Nat.le_of_ble_eq_true rfl) rfl <| ?_
        refine o_ltL (ls := fun x9 => [(3, .int x9), (1, .int x3), (2, .int x8), (4, .int x3), (0, .ref 0)]) fun x9 => ?_
        refine o_goto (pc := 62) (tgt := 9) dX6_turn_62 rfl <| ?_
        refine o_sub [4, 1, 2, 0] (ls' := [(0, .ref 0), (1, .int x3), (2, .int x8), (3, .int x9)]) rfl ?_
        exact ih0 m x3 x8 x9
def fC_turn (m : MI) : Option (Int32 × MI) :=
  fC_turn_l9 
    (fun m4 z1 z2 z3 =>
      some (z1, m4)
      )
    1000 m (-5) 1000 0
theorem sC_turn {sh : Sh} {R : RR} (hF : Fx sh R) (m : MI) : KS (eI sh R) false 0 0 0 YX6_turn sh R m [.ref 0] (fC_turn m ) := by
  refine KS_of pn_X6 (fun _ => Nat.le_of_ble_eq_true rfl) ?_
  change S _ _ _ _ _ _ _ _ _ _ [(0, .ref 0)] [] _
  unfold fC_turn
  refine o_bipush (pc := 0) dX6_turn_0 lb_m5 <| o_istore_n (pc := 2) (ls' := [(1, .int (-5)), (0, .ref 0)]) dX6_turn_2 rfl (Nat.le_of_ble_eq_true rfl) rfl <| o_sipush (pc := 3) dX6_turn_3 ls_1000 <| o_istore_n (pc := 6) (ls' := [(2, .int 1000), (1, .int (-5)), (0, .ref 0)]) dX6_turn_6 rfl (Nat.le_of_ble_eq_true rfl) rfl <| o_iconst (pc := 7) dX6_turn_7 lc_0 <| o_istore_n (pc := 8) (ls' := [(3, .int 0), (2, .int 1000), (1, .int (-5)), (0, .ref 0)]) dX6_turn_8 rfl (Nat.le_of_ble_eq_true rfl) rfl <| ?_
  refine o_sub [3, 2, 1, 0] (ls' := [(0, .ref 0), (1, .int (-5)), (2, .int 1000), (3, .int 0)]) rfl ?_
  refine sC_turn_l9 hF  _ ?_ 1000 m (-5) 1000 0
  · intro m4 z1 z2 z3
    refine o_iload_n (pc := 65) 1 dX6_turn_65 rfl rfl <| ?_
    exact o_iret (pc := 66) dX6_turn_66 rfl rfl
def fC_uneven_l4 (k0_0 : MI → Int32 → Int32 → Option (Int32 × MI)) : Nat → MI → Int32 → Int32 → Option (Int32 × MI)
  | 0, _, _, _ => none
  | n0 + 1, m, v1, v2 =>
    if m.1 1 0 ≤ v2 then
      k0_0 m v1 v2
    else
      if ck v2 6 = true then
        lt (v1 + (m.1 4 v2.toNatClampNeg)) fun x3 =>
        lt (v2 + 1) fun x4 =>
        fC_uneven_l4 k0_0 n0 m x3 x4
      else none
theorem sC_uneven_l4 {sh : Sh} {R : RR} (hF : Fx sh R) (k0_0 : MI → Int32 → Int32 → Option (Int32 × MI)) (hk0_0 : ∀ (m : MI) (v1 : Int32) (v2 : Int32) , S (eI sh R) false 0 0 0 YX6_uneven sh R m 33 [(0, .ref 0), (1, .int v1), (2, .int v2)] [] (k0_0 m v1 v2)) : ∀ (n : Nat) (m : MI) (v1 : Int32) (v2 : Int32) , S (eI sh R) false 0 0 0 YX6_uneven sh R m 4 [(0, .ref 0), (1, .int v1), (2, .int v2)] [] (fC_uneven_l4 k0_0 n m v1 v2) := by
  intro n
  induction n with
  | zero => intros; exact S_none
  | succ n0 ih0 =>
    intro m v1 v2
    rw [fC_uneven_l4]
    refine o_iload_n (pc := 4) 2 dX6_uneven_4 rfl rfl <| o_aload_n (pc := 5) 0 dX6_uneven_5 rfl rfl <| o_getRc (pc := 6) (a := 1) (ci := 6) (j := 0) (nn := 0) dX6_uneven_6 (hF.1 _ _ rfl) rfl (Nat.le_of_ble_eq_true rfl) k_292 rfl (hF.2 _ _ _ rfl) <| o_getI (pc := 9) (ci := 5) (j := 0) (nn := 0) dX6_uneven_9 (hF.1 _ _ rfl) rfl (Nat.le_of_ble_eq_true rfl) k_124 rfl <| ?_
    refine o_icmp_ge (pc := 12) (tgt := 33) dX6_uneven_12 rfl (fun h1 => ?_) (fun h1 => ?_)
    · exact hk0_0 m v1 v2
    · refine o_iload_n (pc := 15) 1 dX6_uneven_15 rfl rfl <| o_aload_n (pc := 16) 0 dX6_uneven_16 rfl rfl <| o_getRc (pc := 17) (a := 1) (ci := 6) (j := 0) (nn := 0) dX6_uneven_17 (hF.1 _ _ rfl) rfl (Nat.le_of_ble_eq_true rfl) k_292 rfl (hF.2 _ _ _ rfl) <| o_getRc (pc := 20) (a := 4) (ci := 5) (j := 3) (nn := 0) dX6_uneven_20 (hF.1 _ _ rfl) rfl (Nat.le_of_ble_eq_true rfl) k_131 rfl (hF.2 _ _ _ rfl) <| o_iload_n (pc := 23) 2 dX6_uneven_23 rfl rfl <| ?_
      refine S_ck fun h2 => ?_
      refine o_iald (pc := 24) (nn := 6) dX6_uneven_24 (hF.1 _ _ rfl) (ck_in h2) <| o_iadd (pc := 25) dX6_uneven_25 <| ?_
      refine o_lt fun x3 => ?_
      refine o_istore_n (pc := 26) (ls' := [(1, .int x3), (0, .ref 0), (2, .int v2)]) dX6_uneven_26 rfl (Nat.le_of_ble_eq_true rfl) rfl <| o_iinc (pc := 27) 2 (v := v2 + 1) (ls' := [(2, .int (v2 + 1)), (1, .int x3), (0, .ref 0)]) dX6_uneven_27 rfl rfl (Nat.le_of_ble_eq_true rfl) rfl <| ?_
      refine o_ltL (ls := fun x4 => [(2, .int x4), (1, .int x3), (0, .ref 0)]) fun x4 => ?_
      refine o_goto (pc := 30) (tgt := 4) dX6_uneven_30 rfl <| ?_
      refine o_sub [2, 1, 0] (ls' := [(0, .ref 0), (1, .int x3), (2, .int x4)]) rfl ?_
      exact ih0 m x3 x4
def fC_uneven_l37 (u1 : Int32) (k0_0 : MI → Int32 → Int32 → Option (Int32 × MI)) : Nat → MI → Int32 → Int32 → Option (Int32 × MI)
  | 0, _, _, _ => none
  | n0 + 1, m, v2, v3 =>
    if m.1 1 0 ≤ v3 then
      k0_0 m v2 v3
    else
      if ck v3 6 = true then
        lt (((m.1 4 v3.toNatClampNeg) * (m.1 1 0)) - u1) fun x3 =>
        lt (v2 + (x3 * x3)) fun x4 =>
        lt (v3 + 1) fun x5 =>
        fC_uneven_l37 u1 k0_0 n0 m x4 x5
      else none
theorem sC_uneven_l37 {sh : Sh} {R : RR} (hF : Fx sh R) (u1 : Int32) (k0_0 : MI → Int32 → Int32 → Option (Int32 × MI)) (hk0_0 : ∀ (m : MI) (v2 : Int32) (v3 : Int32) , S (eI sh R) false 0 0 0 YX6_uneven sh R m 83 [(0, .ref 0), (1, .int u1), (2, .int v2), (3, .int v3)] [] (k0_0 m v2 v3)) : ∀ (n : Nat) (m : MI) (v2 : Int32) (v3 : Int32) , S (eI sh R) false 0 0 0 YX6_uneven sh R m 37 [(0, .ref 0), (1, .int u1), (2, .int v2), (3, .int v3)] [] (fC_uneven_l37 u1 k0_0 n m v2 v3) := by
  intro n
  induction n with
  | zero => intros; exact S_none
  | succ n0 ih0 =>
    intro m v2 v3
    rw [fC_uneven_l37]
    refine o_iload_n (pc := 37) 3 dX6_uneven_37 rfl rfl <| o_aload_n (pc := 38) 0 dX6_uneven_38 rfl rfl <| o_getRc (pc := 39) (a := 1) (ci := 6) (j := 0) (nn := 0) dX6_uneven_39 (hF.1 _ _ rfl) rfl (Nat.le_of_ble_eq_true rfl) k_292 rfl (hF.2 _ _ _ rfl) <| o_getI (pc := 42) (ci := 5) (j := 0) (nn := 0) dX6_uneven_42 (hF.1 _ _ rfl) rfl (Nat.le_of_ble_eq_true rfl) k_124 rfl <| ?_
    refine o_icmp_ge (pc := 45) (tgt := 83) dX6_uneven_45 rfl (fun h1 => ?_) (fun h1 => ?_)
    · exact hk0_0 m v2 v3
    · refine o_aload_n (pc := 48) 0 dX6_uneven_48 rfl rfl <| o_getRc (pc := 49) (a := 1) (ci := 6) (j := 0) (nn := 0) dX6_uneven_49 (hF.1 _ _ rfl) rfl (Nat.le_of_ble_eq_true rfl) k_292 rfl (hF.2 _ _ _ rfl) <| o_getRc (pc := 52) (a := 4) (ci := 5) (j := 3) (nn := 0) dX6_uneven_52 (hF.1 _ _ rfl) rfl (Nat.le_of_ble_eq_true rfl) k_131 rfl (hF.2 _ _ _ rfl) <| o_iload_n (pc := 55) 3 dX6_uneven_55 rfl rfl <| ?_
      refine S_ck fun h2 => ?_
      refine o_iald (pc := 56) (nn := 6) dX6_uneven_56 (hF.1 _ _ rfl) (ck_in h2) <| o_aload_n (pc := 57) 0 dX6_uneven_57 rfl rfl <| o_getRc (pc := 58) (a := 1) (ci := 6) (j := 0) (nn := 0) dX6_uneven_58 (hF.1 _ _ rfl) rfl (Nat.le_of_ble_eq_true rfl) k_292 rfl (hF.2 _ _ _ rfl) <| o_getI (pc := 61) (ci := 5) (j := 0) (nn := 0) dX6_uneven_61 (hF.1 _ _ rfl) rfl (Nat.le_of_ble_eq_true rfl) k_124 rfl <| o_imul (pc := 64) dX6_uneven_64 <| o_iload_n (pc := 65) 1 dX6_uneven_65 rfl rfl <| o_isub (pc := 66) dX6_uneven_66 <| ?_
      refine o_lt fun x3 => ?_
      refine o_istore (pc := 67) (ls' := [(4, .int x3), (0, .ref 0), (1, .int u1), (2, .int v2), (3, .int v3)]) dX6_uneven_67 (Nat.le_of_ble_eq_true rfl) rfl <| o_iload_n (pc := 69) 3 dX6_uneven_69 rfl rfl <| o_iload (pc := 70) 0 dX6_uneven_70 rfl <| o_iload (pc := 72) 0 dX6_uneven_72 rfl <| o_imul (pc := 74) dX6_uneven_74 <| o_iadd (pc := 75) dX6_uneven_75 <| ?_
      refine o_lt fun x4 => ?_
      refine o_istore_n (pc := 76) (ls' := [(2, .int x4), (4, .int x3), (0, .ref 0), (1, .int u1), (3, .int v3)]) dX6_uneven_76 rfl (Nat.le_of_ble_eq_true rfl) rfl <| o_iinc (pc := 77) 4 (v := v3 + 1) (ls' := [(3, .int (v3 + 1)), (2, .int x4), (4, .int x3), (0, .ref 0), (1, .int u1)]) dX6_uneven_77 rfl rfl (Nat.le_of_ble_eq_true rfl) rfl <| ?_
      refine o_ltL (ls := fun x5 => [(3, .int x5), (2, .int x4), (4, .int x3), (0, .ref 0), (1, .int u1)]) fun x5 => ?_
      refine o_goto (pc := 80) (tgt := 37) dX6_uneven_80 rfl <| ?_
      refine o_sub [3, 4, 1, 0] (ls' := [(0, .ref 0), (1, .int u1), (2, .int x4), (3, .int x5)]) rfl ?_
      exact ih0 m x4 x5
def fC_uneven (m : MI) : Option (Int32 × MI) :=
  fC_uneven_l4 
    (fun m3 z1 z2 =>
      fC_uneven_l37 z1
        (fun m6 z4 z5 =>
          some (z4, m6)
          )
        1000 m3 0 0
      )
    1000 m 0 0
theorem sC_uneven {sh : Sh} {R : RR} (hF : Fx sh R) (m : MI) : KS (eI sh R) false 0 0 0 YX6_uneven sh R m [.ref 0] (fC_uneven m ) := by
  refine KS_of pn_X6 (fun _ => Nat.le_of_ble_eq_true rfl) ?_
  change S _ _ _ _ _ _ _ _ _ _ [(0, .ref 0)] [] _
  unfold fC_uneven
  refine o_iconst (pc := 0) dX6_uneven_0 lc_0 <| o_istore_n (pc := 1) (ls' := [(1, .int 0), (0, .ref 0)]) dX6_uneven_1 rfl (Nat.le_of_ble_eq_true rfl) rfl <| o_iconst (pc := 2) dX6_uneven_2 lc_0 <| o_istore_n (pc := 3) (ls' := [(2, .int 0), (1, .int 0), (0, .ref 0)]) dX6_uneven_3 rfl (Nat.le_of_ble_eq_true rfl) rfl <| ?_
  refine o_sub [2, 1, 0] (ls' := [(0, .ref 0), (1, .int 0), (2, .int 0)]) rfl ?_
  refine sC_uneven_l4 hF  _ ?_ 1000 m 0 0
  · intro m3 z1 z2
    refine o_iconst (pc := 33) dX6_uneven_33 lc_0 <| o_istore_n (pc := 34) (ls' := [(2, .int 0), (0, .ref 0), (1, .int z1)]) dX6_uneven_34 rfl (Nat.le_of_ble_eq_true rfl) rfl <| o_iconst (pc := 35) dX6_uneven_35 lc_0 <| o_istore_n (pc := 36) (ls' := [(3, .int 0), (2, .int 0), (0, .ref 0), (1, .int z1)]) dX6_uneven_36 rfl (Nat.le_of_ble_eq_true rfl) rfl <| ?_
    refine o_sub [2, 3, 1, 0] (ls' := [(0, .ref 0), (1, .int z1), (2, .int 0), (3, .int 0)]) rfl ?_
    refine sC_uneven_l37 hF z1 _ ?_ 1000 m3 0 0
    · intro m6 z4 z5
      refine o_iload_n (pc := 83) 2 dX6_uneven_83 rfl rfl <| ?_
      exact o_iret (pc := 84) dX6_uneven_84 rfl rfl
