def fC_most_l39 (u1 : Int32) (k0_0 : MI → Int32 → Int32 → Int32 → Option (Int32 × MI)) : Nat → MI → Int32 → Int32 → Int32 → Option (Int32 × MI)
  | 0, _, _, _, _ => none
  | n0 + 1, m, v2, v3, v4 =>
    if m.1 1 0 ≤ v4 then
      k0_0 m v2 v3 v4
    else
      if ck v4 6 = true then
        lt (if m.1 4 v4.toNatClampNeg < v3 then m.1 4 v4.toNatClampNeg else v3) fun x3 =>
        if ck v4 6 = true then
          if ck v2 6 = true then
            if m.1 4 v4.toNatClampNeg ≤ m.1 4 v2.toNatClampNeg then
              lt (v4 + 1) fun x7 =>
              fC_most_l39 u1 k0_0 n0 m v2 x3 x7
            else
              lt (v4 + 1) fun x8 =>
              fC_most_l39 u1 k0_0 n0 m v4 x3 x8
          else none
        else none
      else none
theorem sC_most_l39 {sh : Sh} {R : RR} (hF : Fx sh R) (u1 : Int32) (k0_0 : MI → Int32 → Int32 → Int32 → Option (Int32 × MI)) (hk0_0 : ∀ (m : MI) (v2 : Int32) (v3 : Int32) (v4 : Int32) , S (eI sh R) false 1 0 0 YX6_most sh R m 97 [(0, .ref 0), (1, .int u1), (2, .int v2), (3, .int v3), (4, .int v4)] [] (k0_0 m v2 v3 v4)) : ∀ (n : Nat) (m : MI) (v2 : Int32) (v3 : Int32) (v4 : Int32) , S (eI sh R) false 1 0 0 YX6_most sh R m 39 [(0, .ref 0), (1, .int u1), (2, .int v2), (3, .int v3), (4, .int v4)] [] (fC_most_l39 u1 k0_0 n m v2 v3 v4) := by
  intro n
  induction n with
  | zero => intros; exact S_none
  | succ n0 ih0 =>
    intro m v2 v3 v4
    rw [fC_most_l39]
    refine o_iload (pc := 39) 4 dX6_most_39 rfl <| o_aload_n (pc := 41) 0 dX6_most_41 rfl rfl <| o_getRc (pc := 42) (a := 1) (ci := 6) (j := 0) (nn := 0) dX6_most_42 (hF.1 _ _ rfl) rfl (Nat.le_of_ble_eq_true rfl) k_292 rfl (hF.2 _ _ _ rfl) <| o_getI (pc := 45) (ci := 5) (j := 0) (nn := 0) dX6_most_45 (hF.1 _ _ rfl) rfl (Nat.le_of_ble_eq_true rfl) k_124 rfl <| ?_
    refine o_icmp_ge (pc := 48) (tgt := 97) dX6_most_48 rfl (fun h1 => ?_) (fun h1 => ?_)
    · exact hk0_0 m v2 v3 v4
    · refine o_iload_n (pc := 51) 3 dX6_most_51 rfl rfl <| o_aload_n (pc := 52) 0 dX6_most_52 rfl rfl <| o_getRc (pc := 53) (a := 1) (ci := 6) (j := 0) (nn := 0) dX6_most_53 (hF.1 _ _ rfl) rfl (Nat.le_of_ble_eq_true rfl) k_292 rfl (hF.2 _ _ _ rfl) <| o_getRc (pc := 56) (a := 4) (ci := 5) (j := 3) (nn := 0) dX6_most_56 (hF.1 _ _ rfl) rfl (Nat.le_of_ble_eq_true rfl) k_131 rfl (hF.2 _ _ _ rfl) <| o_iload (pc := 59) 4 dX6_most_59 rfl <| ?_
      refine S_ck fun h2 => ?_
      refine o_iald (pc := 61) (nn := 6) dX6_most_61 (hF.1 _ _ rfl) (ck_in h2) <| o_min (pc := 62) dX6_most_62 k_720 k_519 k_81 k_520 (Nat.le_of_ble_eq_true rfl) (Nat.le_of_ble_eq_true rfl) <| ?_
      refine o_lt fun x3 => ?_
      refine o_istore_n (pc := 65) (ls' := [(3, .int x3), (0, .ref 0), (1, .int u1), (2, .int v2), (4, .int v4)]) dX6_most_65 rfl (Nat.le_of_ble_eq_true rfl) rfl <| o_aload_n (pc := 66) 1 dX6_most_66 rfl rfl <| o_getRc (pc := 67) (a := 1) (ci := 6) (j := 0) (nn := 0) dX6_most_67 (hF.1 _ _ rfl) rfl (Nat.le_of_ble_eq_true rfl) k_292 rfl (hF.2 _ _ _ rfl) <| o_getRc (pc := 70) (a := 4) (ci := 5) (j := 3) (nn := 0) dX6_most_70 (hF.1 _ _ rfl) rfl (Nat.le_of_ble_eq_true rfl) k_131 rfl (hF.2 _ _ _ rfl) <| o_iload (pc := 73) 4 dX6_most_73 rfl <| ?_
      refine S_ck fun h4 => ?_
      refine o_iald (pc := 75) (nn := 6) dX6_most_75 (hF.1 _ _ rfl) (ck_in h4) <| o_aload_n (pc := 76) 1 dX6_most_76 rfl rfl <| o_getRc (pc := 77) (a := 1) (ci := 6) (j := 0) (nn := 0) dX6_most_77 (hF.1 _ _ rfl) rfl (Nat.le_of_ble_eq_true rfl) k_292 rfl (hF.2 _ _ _ rfl) <| o_getRc (pc := 80) (a := 4) (ci := 5) (j := 3) (nn := 0) dX6_most_80 (hF.1 _ _ rfl) rfl (Nat.le_of_ble_eq_true rfl) k_131 rfl (hF.2 _ _ _ rfl) <| o_iload_n (pc := 83) 3 dX6_most_83 rfl rfl <| ?_
      refine S_ck fun h5 => ?_
      refine o_iald (pc := 84) (nn := 6) dX6_most_84 (hF.1 _ _ rfl) (ck_in h5) <| ?_
      refine o_icmp_le (pc := 85) (tgt := 91) dX6_most_85 rfl (fun h6 => ?_) (fun h6 => ?_)
      · refine o_iinc (pc := 91) 4 (v := v4 + 1) (ls' := [(4, .int (v4 + 1)), (3, .int x3), (0, .ref 0), (1, .int u1), (2, .int v2)]) dX6_most_91 rfl rfl (Nat.le_of_ble_eq_true rfl) rfl <| ?_
        refine o_ltL (ls := fun x7 => [(4, .int x7), (3, .int x3), (0, .ref 0), (1, .int u1), (2, .int v2)]) fun x7 => ?_
        refine o_goto (pc := 94) (tgt := 39) dX6_most_94 rfl <| ?_
        refine o_sub [2, 3, 4, 1, 0] (ls' := [(0, .ref 0), (1, .int u1), (2, .int v2), (3, .int x3), (4, .int x7)]) rfl ?_
        exact ih0 m v2 x3 x7
      · refine o_iload (pc := 88) 4 dX6_most_88 rfl <| o_istore_n (pc := 90) (ls' := [(2, .int v4), (3, .int x3), (0, .ref 0), (1, .int u1), (4, .int v4)]) dX6_most_90 rfl (Nat.le_of_ble_eq_true rfl) rfl <| o_iinc (pc := 91) 4 (v := v4 + 1) (ls' := [(4, .int (v4 + 1)), (2, .int v4), (3, .int x3), (0, .ref 0), (1, .int u1)]) dX6_most_91 rfl rfl (Nat.le_of_ble_eq_true rfl) rfl <| ?_
        refine o_ltL (ls := fun x8 => [(4, .int x8), (2, .int v4), (3, .int x3), (0, .ref 0), (1, .int u1)]) fun x8 => ?_
        refine o_goto (pc := 94) (tgt := 39) dX6_most_94 rfl <| ?_
        refine o_sub [3, 4, 1, 2, 0] (ls' := [(0, .ref 0), (1, .int u1), (2, .int v4), (3, .int x3), (4, .int x8)]) rfl ?_
        exact ih0 m v4 x3 x8
def fC_most (m : MI) (a : Int32) : Option (Int32 × MI) :=
  if a < 0 then
    some (-1, m)
  else
    if a ≤ 1 then
      if m.1 1 0 = 0 then
        some (-5, m)
      else
        lt (m.1 4 (0 : Int32).toNatClampNeg) fun x4 =>
        fC_most_l39 a
          (fun m8 z5 z6 z7 =>
            if a = 0 then
              some (z5, m8)
            else
              if ck z5 6 = true then
                some ((m8.1 4 z5.toNatClampNeg) - z6, m8)
              else none
            )
          1000 m 0 x4 1
    else
      some (-1, m)
theorem sC_most {sh : Sh} {R : RR} (hF : Fx sh R) (m : MI) (a : Int32) : KS (eI sh R) false 1 0 0 YX6_most sh R m [.ref 0, .int a] (fC_most m a) := by
  refine KS_of pn_X6 (fun _ => Nat.le_of_ble_eq_true rfl) ?_
  change S _ _ _ _ _ _ _ _ _ _ [(0, .ref 0), (1, .int a)] [] _
  unfold fC_most
  refine o_iload_n (pc := 0) 1 dX6_most_0 rfl rfl <| ?_
  refine o_if_lt (pc := 1) (tgt := 9) dX6_most_1 rfl (fun h1 => ?_) (fun h1 => ?_)
  · refine o_iconst (pc := 9) dX6_most_9 lc_m1 <| ?_
    exact o_iret (pc := 10) dX6_most_10 rfl rfl
  · refine o_iload_n (pc := 4) 1 dX6_most_4 rfl rfl <| o_iconst (pc := 5) dX6_most_5 lc_1 <| ?_
    refine o_icmp_le (pc := 6) (tgt := 11) dX6_most_6 rfl (fun h2 => ?_) (fun h2 => ?_)
    · refine o_aload_n (pc := 11) 0 dX6_most_11 rfl rfl <| o_getRc (pc := 12) (a := 1) (ci := 6) (j := 0) (nn := 0) dX6_most_12 (hF.1 _ _ rfl) rfl (Nat.le_of_ble_eq_true rfl) k_292 rfl (hF.2 _ _ _ rfl) <| o_getI (pc := 15) (ci := 5) (j := 0) (nn := 0) dX6_most_15 (hF.1 _ _ rfl) rfl (Nat.le_of_ble_eq_true rfl) k_124 rfl <| ?_
      refine o_if_ne (pc := 18) (tgt := 24) dX6_most_18 rfl (fun h3 => ?_) (fun h3 => ?_)
      · refine o_bipush (pc := 21) dX6_most_21 lb_m5 <| ?_
        exact o_iret (pc := 23) dX6_most_23 rfl rfl
      · refine o_iconst (pc := 24) dX6_most_24 lc_0 <| o_istore_n (pc := 25) (ls' := [(2, .int 0), (0, .ref 0), (1, .int a)]) dX6_most_25 rfl (Nat.le_of_ble_eq_true rfl) rfl <| o_aload_n (pc := 26) 1 dX6_most_26 rfl rfl <| o_getRc (pc := 27) (a := 1) (ci := 6) (j := 0) (nn := 0) dX6_most_27 (hF.1 _ _ rfl) rfl (Nat.le_of_ble_eq_true rfl) k_292 rfl (hF.2 _ _ _ rfl) <| o_getRc (pc := 30) (a := 4) (ci := 5) (j := 3) (nn := 0) dX6_most_30 (hF.1 _ _ rfl) rfl (Nat.le_of_ble_eq_true rfl) k_131 rfl (hF.2 _ _ _ rfl) <| o_iconst (pc := 33) dX6_most_33 lc_0 <| o_iald (pc := 34) (nn := 6) dX6_most_34 (hF.1 _ _ rfl) (ck_in rfl) <| ?_
        refine o_lt fun x4 => ?_
        refine o_istore_n (pc := 35) (ls' := [(3, .int x4), (2, .int 0), (0, .ref 0), (1, .int a)]) dX6_most_35 rfl (Nat.le_of_ble_eq_true rfl) rfl <| o_iconst (pc := 36) dX6_most_36 lc_1 <| o_istore (pc := 37) (ls' := [(4, .int 1), (3, .int x4), (2, .int 0), (0, .ref 0), (1, .int a)]) dX6_most_37 (Nat.le_of_ble_eq_true rfl) rfl <| ?_
        refine o_sub [3, 4, 2, 1, 0] (ls' := [(0, .ref 0), (1, .int a), (2, .int 0), (3, .int x4), (4, .int 1)]) rfl ?_
        refine sC_most_l39 hF a _ ?_ 1000 m 0 x4 1
        · intro m8 z5 z6 z7
          refine o_iload_n (pc := 97) 1 dX6_most_97 rfl rfl <| ?_
          refine o_if_ne (pc := 98) (tgt := 105) dX6_most_98 rfl (fun h9 => ?_) (fun h9 => ?_)
          · refine o_iload_n (pc := 101) 2 dX6_most_101 rfl rfl <| o_goto (pc := 102) (tgt := 116) dX6_most_102 rfl <| ?_
            exact o_iret (pc := 116) dX6_most_116 rfl rfl
          · refine o_aload_n (pc := 105) 0 dX6_most_105 rfl rfl <| o_getRc (pc := 106) (a := 1) (ci := 6) (j := 0) (nn := 0) dX6_most_106 (hF.1 _ _ rfl) rfl (Nat.le_of_ble_eq_true rfl) k_292 rfl (hF.2 _ _ _ rfl) <| o_getRc (pc := 109) (a := 4) (ci := 5) (j := 3) (nn := 0) dX6_most_109 (hF.1 _ _ rfl) rfl (Nat.le_of_ble_eq_true rfl) k_131 rfl (hF.2 _ _ _ rfl) <| o_iload_n (pc := 112) 2 dX6_most_112 rfl rfl <| ?_
            refine S_ck fun h10 => ?_
            refine o_iald (pc := 113) (nn := 6) dX6_most_113 (hF.1 _ _ rfl) (ck_in h10) <| o_iload_n (pc := 114) 3 dX6_most_114 rfl rfl <| o_isub (pc := 115) dX6_most_115 <| ?_
            exact o_iret (pc := 116) dX6_most_116 rfl rfl
    · refine o_iconst (pc := 9) dX6_most_9 lc_m1 <| ?_
      exact o_iret (pc := 10) dX6_most_10 rfl rfl
def fC_see (m : MI) (a : Int32) (b : Int32) : Option (Int32 × MI) :=
  if a = -1 then
    lm (mI m 1 (upd (m.1 1) 10 0)) fun m2 =>
    some (0, m2)
  else
    (fC_isDrawNumber m a).bind fun r3 =>
    if r3.1 = 0 then
      some (-2, r3.2)
    else
      if r3.2.1 1 10 < 6 then
        if ck (r3.2.1 1 10) 6 = true then
          lm (mI r3.2 13 (upd (r3.2.1 13) (r3.2.1 1 10).toNatClampNeg a)) fun m7 =>
          if b = 0 then
            if ck (m7.1 1 10) 6 = true then
              lm (mI m7 14 (upd (m7.1 14) (m7.1 1 10).toNatClampNeg 0)) fun m10 =>
              lm (mI m10 1 (upd (m10.1 1) 10 ((m10.1 1 10) + 1))) fun m11 =>
              some (m11.1 1 10, m11)
            else none
          else
            if ck (m7.1 1 10) 6 = true then
              lm (mI m7 14 (upd (m7.1 14) (m7.1 1 10).toNatClampNeg 1)) fun m13 =>
              lm (mI m13 1 (upd (m13.1 1) 10 ((m13.1 1 10) + 1))) fun m14 =>
              some (m14.1 1 10, m14)
            else none
        else none
      else
        some (-4, r3.2)
theorem sC_see {sh : Sh} {R : RR} (hF : Fx sh R) (m : MI) (a : Int32) (b : Int32) : KS (eI sh R) false 1 0 0 YX6_see sh R m [.ref 0, .int a, .int b] (fC_see m a b) := by
  refine KS_of pn_X6 (fun _ => Nat.le_of_ble_eq_true rfl) ?_
  change S _ _ _ _ _ _ _ _ _ _ [(0, .ref 0), (1, .int a), (2, .int b)] [] _
  unfold fC_see
  refine o_iload_n (pc := 0) 1 dX6_see_0 rfl rfl <| o_iconst (pc := 1) dX6_see_1 lc_m1 <| ?_
  refine o_icmp_ne (pc := 2) (tgt := 15) dX6_see_2 rfl (fun h1 => ?_) (fun h1 => ?_)
  · refine o_aload_n (pc := 5) 0 dX6_see_5 rfl rfl <| o_getRc (pc := 6) (a := 1) (ci := 6) (j := 0) (nn := 0) dX6_see_6 (hF.1 _ _ rfl) rfl (Nat.le_of_ble_eq_true rfl) k_292 rfl (hF.2 _ _ _ rfl) <| o_iconst (pc := 9) dX6_see_9 lc_0 <| o_putI (pc := 10) (ci := 5) (j := 10) (nn := 0) dX6_see_10 (hF.1 _ _ rfl) rfl (Nat.le_of_ble_eq_true rfl) k_145 rfl rfl rfl rfl rfl <| ?_
    refine o_lm fun m2 => ?_
    refine o_iconst (pc := 13) dX6_see_13 lc_0 <| ?_
    exact o_iret (pc := 14) dX6_see_14 rfl rfl
  · refine o_iload_n (pc := 15) 1 dX6_see_15 rfl rfl <| ?_
    refine o_callSI (Y2 := YX6_isDrawNumber) (pc := 16) (av := [.int a]) (rest := []) dX6_see_16 k_604 cs_X6_isDrawNumber (sC_isDrawNumber hF m a) rfl rfl (Nat.le_of_ble_eq_true rfl) (Nat.le_of_ble_eq_true rfl) fun r3 => ?_
    refine o_if_ne (pc := 19) (tgt := 25) dX6_see_19 rfl (fun h4 => ?_) (fun h4 => ?_)
    · refine o_bipush (pc := 22) dX6_see_22 lb_m2 <| ?_
      exact o_iret (pc := 24) dX6_see_24 rfl rfl
    · refine o_aload_n (pc := 25) 0 dX6_see_25 rfl rfl <| o_getRc (pc := 26) (a := 1) (ci := 6) (j := 0) (nn := 0) dX6_see_26 (hF.1 _ _ rfl) rfl (Nat.le_of_ble_eq_true rfl) k_292 rfl (hF.2 _ _ _ rfl) <| o_getI (pc := 29) (ci := 5) (j := 10) (nn := 0) dX6_see_29 (hF.1 _ _ rfl) rfl (Nat.le_of_ble_eq_true rfl) k_145 rfl <| o_bipush (pc := 32) dX6_see_32 lb_6 <| ?_
      refine o_icmp_lt (pc := 34) (tgt := 40) dX6_see_34 rfl (fun h5 => ?_) (fun h5 => ?_)
      · refine o_aload_n (pc := 40) 0 dX6_see_40 rfl rfl <| o_getRc (pc := 41) (a := 1) (ci := 6) (j := 0) (nn := 0) dX6_see_41 (hF.1 _ _ rfl) rfl (Nat.le_of_ble_eq_true rfl) k_292 rfl (hF.2 _ _ _ rfl) <| o_getRc (pc := 44) (a := 13) (ci := 5) (j := 11) (nn := 0) dX6_see_44 (hF.1 _ _ rfl) rfl (Nat.le_of_ble_eq_true rfl) k_147 rfl (hF.2 _ _ _ rfl) <| o_aload_n (pc := 47) 0 dX6_see_47 rfl rfl <| o_getRc (pc := 48) (a := 1) (ci := 6) (j := 0) (nn := 0) dX6_see_48 (hF.1 _ _ rfl) rfl (Nat.le_of_ble_eq_true rfl) k_292 rfl (hF.2 _ _ _ rfl) <| o_getI (pc := 51) (ci := 5) (j := 10) (nn := 0) dX6_see_51 (hF.1 _ _ rfl) rfl (Nat.le_of_ble_eq_true rfl) k_145 rfl <| o_iload_n (pc := 54) 1 dX6_see_54 rfl rfl <| ?_
        refine S_ck fun h6 => ?_
        refine o_iast (pc := 55) (nn := 6) dX6_see_55 (hF.1 _ _ rfl) (ck_in h6) <| ?_
        refine o_lm fun m7 => ?_
        refine o_aload_n (pc := 56) 0 dX6_see_56 rfl rfl <| o_getRc (pc := 57) (a := 1) (ci := 6) (j := 0) (nn := 0) dX6_see_57 (hF.1 _ _ rfl) rfl (Nat.le_of_ble_eq_true rfl) k_292 rfl (hF.2 _ _ _ rfl) <| o_getRc (pc := 60) (a := 14) (ci := 5) (j := 12) (nn := 0) dX6_see_60 (hF.1 _ _ rfl) rfl (Nat.le_of_ble_eq_true rfl) k_149 rfl (hF.2 _ _ _ rfl) <| o_aload_n (pc := 63) 0 dX6_see_63 rfl rfl <| o_getRc (pc := 64) (a := 1) (ci := 6) (j := 0) (nn := 0) dX6_see_64 (hF.1 _ _ rfl) rfl (Nat.le_of_ble_eq_true rfl) k_292 rfl (hF.2 _ _ _ rfl) <| o_getI (pc := 67) (ci := 5) (j := 10) (nn := 0) dX6_see_67 (hF.1 _ _ rfl) rfl (Nat.le_of_ble_eq_true rfl) k_145 rfl <| o_iload_n (pc := 70) 2 dX6_see_70 rfl rfl <| ?_
        refine o_if_eq (pc := 71) (tgt := 78) dX6_see_71 rfl (fun h8 => ?_) (fun h8 => ?_)
        · refine o_iconst (pc := 78) dX6_see_78 lc_0 <| ?_
          refine S_ck fun h9 => ?_
          refine o_iast (pc := 79) (nn := 6) dX6_see_79 (hF.1 _ _ rfl) (ck_in h9) <| ?_
          refine o_lm fun m10 => ?_
          refine o_aload_n (pc := 80) 0 dX6_see_80 rfl rfl <| o_getRc (pc := 81) (a := 1) (ci := 6) (j := 0) (nn := 0) dX6_see_81 (hF.1 _ _ rfl) rfl (Nat.le_of_ble_eq_true rfl) k_292 rfl (hF.2 _ _ _ rfl) <| o_dup (pc := 84) dX6_see_84 rfl <| o_getI (pc := 85) (ci := 5) (j := 10) (nn := 0) dX6_see_85 (hF.1 _ _ rfl) rfl (Nat.le_of_ble_eq_true rfl) k_145 rfl <| o_iconst (pc := 88) dX6_see_88 lc_1 <| o_iadd (pc := 89) dX6_see_89 <| o_putI (pc := 90) (ci := 5) (j := 10) (nn := 0) dX6_see_90 (hF.1 _ _ rfl) rfl (Nat.le_of_ble_eq_true rfl) k_145 rfl rfl rfl rfl rfl <| ?_
          refine o_lm fun m11 => ?_
          refine o_aload_n (pc := 93) 0 dX6_see_93 rfl rfl <| o_getRc (pc := 94) (a := 1) (ci := 6) (j := 0) (nn := 0) dX6_see_94 (hF.1 _ _ rfl) rfl (Nat.le_of_ble_eq_true rfl) k_292 rfl (hF.2 _ _ _ rfl) <| o_getI (pc := 97) (ci := 5) (j := 10) (nn := 0) dX6_see_97 (hF.1 _ _ rfl) rfl (Nat.le_of_ble_eq_true rfl) k_145 rfl <| ?_
          exact o_iret (pc := 100) dX6_see_100 rfl rfl
        · refine o_iconst (pc := 74) dX6_see_74 lc_1 <| o_goto (pc := 75) (tgt := 79) dX6_see_75 rfl <| ?_
          refine S_ck fun h12 => ?_
          refine o_iast (pc := 79) (nn := 6) dX6_see_79 (hF.1 _ _ rfl) (ck_in h12) <| ?_
          refine o_lm fun m13 => ?_
          refine o_aload_n (pc := 80) 0 dX6_see_80 rfl rfl <| o_getRc (pc := 81) (a := 1) (ci := 6) (j := 0) (nn := 0) dX6_see_81 (hF.1 _ _ rfl) rfl (Nat.le_of_ble_eq_true rfl) k_292 rfl (hF.2 _ _ _ rfl) <| o_dup (pc := 84) dX6_see_84 rfl <| o_getI (pc := 85) (ci := 5) (j := 10) (nn := 0) dX6_see_85 (hF.1 _ _ rfl) rfl (Nat.le_of_ble_eq_true rfl) k_145 rfl <| o_iconst (pc := 88) dX6_see_88 lc_1 <| o_iadd (pc := 89) dX6_see_89 <| o_putI (pc := 90) (ci := 5) (j := 10) (nn := 0) dX6_see_90 (hF.1 _ _ rfl) rfl (Nat.le_of_ble_eq_true rfl) k_145 rfl rfl rfl rfl rfl <| ?_
          refine o_lm fun m14 => ?_
          refine o_aload_n (pc := 93) 0 dX6_see_93 rfl rfl <| o_getRc (pc := 94) (a := 1) (ci := 6) (j := 0) (nn := 0) dX6_see_94 (hF.1 _ _ rfl) rfl (Nat.le_of_ble_eq_true rfl) k_292 rfl (hF.2 _ _ _ rfl) <| o_getI (pc := 97) (ci := 5) (j := 10) (nn := 0) dX6_see_97 (hF.1 _ _ rfl) rfl (Nat.le_of_ble_eq_true rfl) k_145 rfl <| ?_
          exact o_iret (pc := 100) dX6_see_100 rfl rfl
      · refine o_bipush (pc := 37) dX6_see_37 lb_m4 <| ?_
        exact o_iret (pc := 39) dX6_see_39 rfl rfl
def fW_isSeenBy_l8 (sh : Sh) (R : RR) (u1 : Int32) (u2 : Int32) (k0_0 : MI → Int32 → Int32 → Int32 → Option (Int32 × MI)) : Nat → MI → Int32 → Int32 → Int32 → Option (Int32 × MI)
  | 0, _, _, _, _ => none
  | n0 + 1, m, v3, v4, v5 =>
    if m.1 1 10 ≤ v5 then
      k0_0 m v3 v4 v5
    else
      if m.1 1 0 ≤ v5 then
        some (0, m)
      else
        if v3 = 0 then
          some (0, m)
        else
          if ck v5 6 = true then
            if ck v5 6 = true then
              (fW_chance sh R m (m.1 12 v5.toNatClampNeg) v5 v3 v4).bind fun r6 =>
              if r6.1 ≤ m.1 13 v5.toNatClampNeg then
                if ck v5 6 = true then
                  if r6.2.1 14 v5.toNatClampNeg = 1 then
                    some (0, r6.2)
                  else
                    lt (v4 + (-1)) fun x10 =>
                    lt (v5 + 1) fun x11 =>
                    fW_isSeenBy_l8 sh R u1 u2 k0_0 n0 r6.2 v3 x10 x11
                else none
              else
                if ck v5 6 = true then
                  if r6.2.1 14 v5.toNatClampNeg = 1 then
                    lt (v3 + (-1)) fun x14 =>
                    lt (v5 + 1) fun x15 =>
                    fW_isSeenBy_l8 sh R u1 u2 k0_0 n0 r6.2 x14 v4 x15
                  else
                    some (0, r6.2)
                else none
            else none
          else none
theorem sW_isSeenBy_l8 {sh : Sh} {R : RR} (hF : Fx sh R) (u1 : Int32) (u2 : Int32) (k0_0 : MI → Int32 → Int32 → Int32 → Option (Int32 × MI)) (hk0_0 : ∀ (m : MI) (v3 : Int32) (v4 : Int32) (v5 : Int32) , S (eI sh R) false 4 0 0 YX5_isSeenBy sh R m 108 [(0, .ref 1), (1, .int u1), (2, .int u2), (3, .int v3), (4, .int v4), (5, .int v5)] [] (k0_0 m v3 v4 v5)) : ∀ (n : Nat) (m : MI) (v3 : Int32) (v4 : Int32) (v5 : Int32) , S (eI sh R) false 4 0 0 YX5_isSeenBy sh R m 8 [(0, .ref 1), (1, .int u1), (2, .int u2), (3, .int v3), (4, .int v4), (5, .int v5)] [] (fW_isSeenBy_l8 sh R u1 u2 k0_0 n m v3 v4 v5) := by
  intro n
  induction n with
  | zero => intros; exact S_none
  | succ n0 ih0 =>
    intro m v3 v4 v5
    rw [fW_isSeenBy_l8]
    refine o_iload (pc := 8) 5 dX5_isSeenBy_8 rfl <| o_aload_n (pc := 10) 0 dX5_isSeenBy_10 rfl rfl <| o_getI (pc := 11) (ci := 5) (j := 10) (nn := 0) dX5_isSeenBy_11 (hF.1 _ _ rfl) rfl (Nat.le_of_ble_eq_true rfl) k_144 rfl <| ?_
    refine o_icmp_ge (pc := 14) (tgt := 108) dX5_isSeenBy_14 rfl (fun h1 => ?_) (fun h1 => ?_)
    · exact hk0_0 m v3 v4 v5
    · refine o_iload (pc := 17) 5 dX5_isSeenBy_17 rfl <| o_aload_n (pc := 19) 0 dX5_isSeenBy_19 rfl rfl <| o_getI (pc := 20) (ci := 5) (j := 0) (nn := 0) dX5_isSeenBy_20 (hF.1 _ _ rfl) rfl (Nat.le_of_ble_eq_true rfl) k_123 rfl <| ?_
      refine o_icmp_ge (pc := 23) (tgt := 30) dX5_isSeenBy_23 rfl (fun h2 => ?_) (fun h2 => ?_)
      · refine o_iconst (pc := 30) dX5_isSeenBy_30 lc_0 <| ?_
        exact o_zret (pc := 31) dX5_isSeenBy_31 rfl rfl rfl
      · refine o_iload_n (pc := 26) 3 dX5_isSeenBy_26 rfl rfl <| ?_
        refine o_if_ne (pc := 27) (tgt := 32) dX5_isSeenBy_27 rfl (fun h3 => ?_) (fun h3 => ?_)
        · refine o_iconst (pc := 30) dX5_isSeenBy_30 lc_0 <| ?_
          exact o_zret (pc := 31) dX5_isSeenBy_31 rfl rfl rfl
        · refine o_aload_n (pc := 32) 0 dX5_isSeenBy_32 rfl rfl <| o_getRc (pc := 33) (a := 13) (ci := 5) (j := 11) (nn := 0) dX5_isSeenBy_33 (hF.1 _ _ rfl) rfl (Nat.le_of_ble_eq_true rfl) k_146 rfl (hF.2 _ _ _ rfl) <| o_iload (pc := 36) 5 dX5_isSeenBy_36 rfl <| ?_
          refine S_ck fun h4 => ?_
          refine o_iald (pc := 38) (nn := 6) dX5_isSeenBy_38 (hF.1 _ _ rfl) (ck_in h4) <| o_aload_n (pc := 39) 0 dX5_isSeenBy_39 rfl rfl <| o_aload_n (pc := 40) 0 dX5_isSeenBy_40 rfl rfl <| o_getRc (pc := 41) (a := 12) (ci := 5) (j := 5) (nn := 0) dX5_isSeenBy_41 (hF.1 _ _ rfl) rfl (Nat.le_of_ble_eq_true rfl) k_134 rfl (hF.2 _ _ _ rfl) <| o_iload (pc := 44) 5 dX5_isSeenBy_44 rfl <| ?_
          refine S_ck fun h5 => ?_
          refine o_iald (pc := 46) (nn := 6) dX5_isSeenBy_46 (hF.1 _ _ rfl) (ck_in h5) <| o_iload (pc := 47) 5 dX5_isSeenBy_47 rfl <| o_iload_n (pc := 49) 3 dX5_isSeenBy_49 rfl rfl <| o_iload (pc := 50) 4 dX5_isSeenBy_50 rfl <| ?_
          refine o_callVI (Y2 := YX5_chance) (pc := 52) (av := [.int (m.1 12 v5.toNatClampNeg), .int v5, .int v3, .int v4]) (rest := [.int (m.1 13 v5.toNatClampNeg)]) dX5_isSeenBy_52 k_612 cm_X5_chance (sW_chance hF m (m.1 12 v5.toNatClampNeg) v5 v3 v4) (hF.1 _ _ rfl) rfl rfl (Nat.le_of_ble_eq_true rfl) (Nat.le_of_ble_eq_true rfl) fun r6 => ?_
          refine o_icmp_ge (pc := 55) (tgt := 62) dX5_isSeenBy_55 rfl (fun h7 => ?_) (fun h7 => ?_)
          · refine o_iconst (pc := 62) dX5_isSeenBy_62 lc_0 <| o_istore (pc := 63) (ls' := [(6, .int 0), (0, .ref 1), (1, .int u1), (2, .int u2), (3, .int v3), (4, .int v4), (5, .int v5)]) dX5_isSeenBy_63 (Nat.le_of_ble_eq_true rfl) rfl <| o_iload (pc := 65) 0 dX5_isSeenBy_65 rfl <| o_aload_n (pc := 67) 1 dX5_isSeenBy_67 rfl rfl <| o_getRc (pc := 68) (a := 14) (ci := 5) (j := 12) (nn := 0) dX5_isSeenBy_68 (hF.1 _ _ rfl) rfl (Nat.le_of_ble_eq_true rfl) k_148 rfl (hF.2 _ _ _ rfl) <| o_iload (pc := 71) 6 dX5_isSeenBy_71 rfl <| ?_
            refine S_ck fun h8 => ?_
            refine o_iald (pc := 73) (nn := 6) dX5_isSeenBy_73 (hF.1 _ _ rfl) (ck_in h8) <| o_iconst (pc := 74) dX5_isSeenBy_74 lc_1 <| ?_
            refine o_icmp_ne (pc := 75) (tgt := 82) dX5_isSeenBy_75 rfl (fun h9 => ?_) (fun h9 => ?_)
            · refine o_iconst (pc := 78) dX5_isSeenBy_78 lc_1 <| o_goto (pc := 79) (tgt := 83) dX5_isSeenBy_79 rfl <| o_icmp_eq_f (pc := 83) (tgt := 88) dX5_isSeenBy_83 rfl (by decide) <| o_iconst (pc := 86) dX5_isSeenBy_86 lc_0 <| ?_
              exact o_zret (pc := 87) dX5_isSeenBy_87 rfl rfl rfl
            · refine o_iconst (pc := 82) dX5_isSeenBy_82 lc_0 <| o_icmp_eq_t (pc := 83) (tgt := 88) dX5_isSeenBy_83 rfl (by decide) <| o_iload (pc := 88) 0 dX5_isSeenBy_88 rfl <| o_if_eq_t (pc := 90) (tgt := 99) dX5_isSeenBy_90 rfl (by decide) <| o_iinc (pc := 99) 5 (v := v4 + (-1)) (ls' := [(4, .int (v4 + (-1))), (6, .int 0), (0, .ref 1), (1, .int u1), (2, .int u2), (3, .int v3), (5, .int v5)]) dX5_isSeenBy_99 rfl rfl (Nat.le_of_ble_eq_true rfl) rfl <| ?_
              refine o_ltL (ls := fun x10 => [(4, .int x10), (6, .int 0), (0, .ref 1), (1, .int u1), (2, .int u2), (3, .int v3), (5, .int v5)]) fun x10 => ?_
              refine o_iinc (pc := 102) 6 (v := v5 + 1) (ls' := [(5, .int (v5 + 1)), (4, .int x10), (6, .int 0), (0, .ref 1), (1, .int u1), (2, .int u2), (3, .int v3)]) dX5_isSeenBy_102 rfl rfl (Nat.le_of_ble_eq_true rfl) rfl <| ?_
              refine o_ltL (ls := fun x11 => [(5, .int x11), (4, .int x10), (6, .int 0), (0, .ref 1), (1, .int u1), (2, .int u2), (3, .int v3)]) fun x11 => ?_
              refine o_goto (pc := 105) (tgt := 8) dX5_isSeenBy_105 rfl <| ?_
              refine o_sub [3, 4, 5, 6, 1, 0] (ls' := [(0, .ref 1), (1, .int u1), (2, .int u2), (3, .int v3), (4, .int x10), (5, .int x11)]) rfl ?_
              exact ih0 r6.2 v3 x10 x11
          · refine o_iconst (pc := 58) dX5_isSeenBy_58 lc_1 <| o_goto (pc := 59) (tgt := 63) dX5_isSeenBy_59 rfl <| o_istore (pc := 63) (ls' := [(6, .int 1), (0, .ref 1), (1, .int u1), (2, .int u2), (3, .int v3), (4, .int v4), (5, .int v5)]) dX5_isSeenBy_63 (Nat.le_of_ble_eq_true rfl) rfl <| o_iload (pc := 65) 0 dX5_isSeenBy_65 rfl <| o_aload_n (pc := 67) 1 dX5_isSeenBy_67 rfl rfl <| o_getRc (pc := 68) (a := 14) (ci := 5) (j := 12) (nn := 0) dX5_isSeenBy_68 (hF.1 _ _ rfl) rfl (Nat.le_of_ble_eq_true rfl) k_148 rfl (hF.2 _ _ _ rfl) <| o_iload (pc := 71) 6 dX5_isSeenBy_71 rfl <| ?_
            refine S_ck fun h12 => ?_
            refine o_iald (pc := 73) (nn := 6) dX5_isSeenBy_73 (hF.1 _ _ rfl) (ck_in h12) <| o_iconst (pc := 74) dX5_isSeenBy_74 lc_1 <| ?_
            refine o_icmp_ne (pc := 75) (tgt := 82) dX5_isSeenBy_75 rfl (fun h13 => ?_) (fun h13 => ?_)
            · refine o_iconst (pc := 78) dX5_isSeenBy_78 lc_1 <| o_goto (pc := 79) (tgt := 83) dX5_isSeenBy_79 rfl <| o_icmp_eq_t (pc := 83) (tgt := 88) dX5_isSeenBy_83 rfl (by decide) <| o_iload (pc := 88) 0 dX5_isSeenBy_88 rfl <| o_if_eq_f (pc := 90) (tgt := 99) dX5_isSeenBy_90 rfl (by decide) <| o_iinc (pc := 93) 4 (v := v3 + (-1)) (ls' := [(3, .int (v3 + (-1))), (6, .int 1), (0, .ref 1), (1, .int u1), (2, .int u2), (4, .int v4), (5, .int v5)]) dX5_isSeenBy_93 rfl rfl (Nat.le_of_ble_eq_true rfl) rfl <| ?_
              refine o_ltL (ls := fun x14 => [(3, .int x14), (6, .int 1), (0, .ref 1), (1, .int u1), (2, .int u2), (4, .int v4), (5, .int v5)]) fun x14 => ?_
              refine o_goto (pc := 96) (tgt := 102) dX5_isSeenBy_96 rfl <| o_iinc (pc := 102) 6 (v := v5 + 1) (ls' := [(5, .int (v5 + 1)), (3, .int x14), (6, .int 1), (0, .ref 1), (1, .int u1), (2, .int u2), (4, .int v4)]) dX5_isSeenBy_102 rfl rfl (Nat.le_of_ble_eq_true rfl) rfl <| ?_
              refine o_ltL (ls := fun x15 => [(5, .int x15), (3, .int x14), (6, .int 1), (0, .ref 1), (1, .int u1), (2, .int u2), (4, .int v4)]) fun x15 => ?_
              refine o_goto (pc := 105) (tgt := 8) dX5_isSeenBy_105 rfl <| ?_
              refine o_sub [3, 4, 5, 1, 6, 0] (ls' := [(0, .ref 1), (1, .int u1), (2, .int u2), (3, .int x14), (4, .int v4), (5, .int x15)]) rfl ?_
              exact ih0 r6.2 x14 v4 x15
            · refine o_iconst (pc := 82) dX5_isSeenBy_82 lc_0 <| o_icmp_eq_f (pc := 83) (tgt := 88) dX5_isSeenBy_83 rfl (by decide) <| o_iconst (pc := 86) dX5_isSeenBy_86 lc_0 <| ?_
              exact o_zret (pc := 87) dX5_isSeenBy_87 rfl rfl rfl
def fW_isSeenBy (sh : Sh) (R : RR) (m : MI) (a : Int32) (b : Int32) : Option (Int32 × MI) :=
  fW_isSeenBy_l8 sh R a b
    (fun m4 z1 z2 z3 =>
      some (1, m4)
      )
    1000 m a b 0
theorem sW_isSeenBy {sh : Sh} {R : RR} (hF : Fx sh R) (m : MI) (a : Int32) (b : Int32) : KS (eI sh R) false 4 0 0 YX5_isSeenBy sh R m [.ref 1, .int a, .int b] (fW_isSeenBy sh R m a b) := by
  refine KS_of pn_X5 (fun _ => Nat.le_of_ble_eq_true rfl) ?_
  change S _ _ _ _ _ _ _ _ _ _ [(0, .ref 1), (1, .int a), (2, .int b)] [] _
  unfold fW_isSeenBy
  refine o_iload_n (pc := 0) 1 dX5_isSeenBy_0 rfl rfl <| o_istore_n (pc := 1) (ls' := [(3, .int a), (0, .ref 1), (1, .int a), (2, .int b)]) dX5_isSeenBy_1 rfl (Nat.le_of_ble_eq_true rfl) rfl <| o_iload_n (pc := 2) 3 dX5_isSeenBy_2 rfl rfl <| o_istore (pc := 3) (ls' := [(4, .int b), (3, .int a), (0, .ref 1), (1, .int a), (2, .int b)]) dX5_isSeenBy_3 (Nat.le_of_ble_eq_true rfl) rfl <| o_iconst (pc := 5) dX5_isSeenBy_5 lc_0 <| o_istore (pc := 6) (ls' := [(5, .int 0), (4, .int b), (3, .int a), (0, .ref 1), (1, .int a), (2, .int b)]) dX5_isSeenBy_6 (Nat.le_of_ble_eq_true rfl) rfl <| ?_
  refine o_sub [3, 4, 5, 2, 1, 0] (ls' := [(0, .ref 1), (1, .int a), (2, .int b), (3, .int a), (4, .int b), (5, .int 0)]) rfl ?_
  refine sW_isSeenBy_l8 hF a b _ ?_ 1000 m a b 0
  · intro m4 z1 z2 z3
    refine o_iconst (pc := 108) dX5_isSeenBy_108 lc_1 <| ?_
    exact o_zret (pc := 109) dX5_isSeenBy_109 rfl rfl rfl
def fC_fits_l20 (sh : Sh) (R : RR) (u1 : Int32) (k0_0 : MI → Int32 → Int32 → Option (Int32 × MI)) : Nat → MI → Int32 → Int32 → Option (Int32 × MI)
  | 0, _, _, _ => none
  | n0 + 1, m, v2, v3 =>
    if 3 < v3 then
      k0_0 m v2 v3
    else
      (fW_isSeenBy sh R m v3 (if 0 < u1 - v3 then u1 - v3 else 0)).bind fun r2 =>
      if r2.1 = 0 then
        lt (v3 + 1) fun x4 =>
        fC_fits_l20 sh R u1 k0_0 n0 r2.2 v2 x4
      else
        lt (v2 ||| ((1 : Int32) <<< (v3 &&& 31))) fun x5 =>
        lt (v3 + 1) fun x6 =>
        fC_fits_l20 sh R u1 k0_0 n0 r2.2 x5 x6
theorem sC_fits_l20 {sh : Sh} {R : RR} (hF : Fx sh R) (u1 : Int32) (k0_0 : MI → Int32 → Int32 → Option (Int32 × MI)) (hk0_0 : ∀ (m : MI) (v2 : Int32) (v3 : Int32) , S (eI sh R) false 5 0 0 YX6_fits sh R m 55 [(0, .ref 0), (1, .int u1), (2, .int v2), (3, .int v3)] [] (k0_0 m v2 v3)) : ∀ (n : Nat) (m : MI) (v2 : Int32) (v3 : Int32) , S (eI sh R) false 5 0 0 YX6_fits sh R m 20 [(0, .ref 0), (1, .int u1), (2, .int v2), (3, .int v3)] [] (fC_fits_l20 sh R u1 k0_0 n m v2 v3) := by
  intro n
  induction n with
  | zero => intros; exact S_none
  | succ n0 ih0 =>
    intro m v2 v3
    rw [fC_fits_l20]
    refine o_iload_n (pc := 20) 3 dX6_fits_20 rfl rfl <| o_iconst (pc := 21) dX6_fits_21 lc_3 <| ?_
    refine o_icmp_gt (pc := 22) (tgt := 55) dX6_fits_22 rfl (fun h1 => ?_) (fun h1 => ?_)
    · exact hk0_0 m v2 v3
    · refine o_aload_n (pc := 25) 0 dX6_fits_25 rfl rfl <| o_getRc (pc := 26) (a := 1) (ci := 6) (j := 0) (nn := 0) dX6_fits_26 (hF.1 _ _ rfl) rfl (Nat.le_of_ble_eq_true rfl) k_292 rfl (hF.2 _ _ _ rfl) <| o_iload_n (pc := 29) 3 dX6_fits_29 rfl rfl <| o_iconst (pc := 30) dX6_fits_30 lc_0 <| o_iload_n (pc := 31) 1 dX6_fits_31 rfl rfl <| o_iload_n (pc := 32) 3 dX6_fits_32 rfl rfl <| o_isub (pc := 33) dX6_fits_33 <| o_max (pc := 34) dX6_fits_34 k_729 k_347 k_81 k_348 (Nat.le_of_ble_eq_true rfl) (Nat.le_of_ble_eq_true rfl) <| ?_
      refine o_callVI (Y2 := YX5_isSeenBy) (pc := 37) (av := [.int v3, .int (if 0 < u1 - v3 then u1 - v3 else 0)]) (rest := []) dX6_fits_37 k_730 cm_X5_isSeenBy (sW_isSeenBy hF m v3 (if 0 < u1 - v3 then u1 - v3 else 0)) (hF.1 _ _ rfl) rfl rfl (Nat.le_of_ble_eq_true rfl) (Nat.le_of_ble_eq_true rfl) fun r2 => ?_
      refine o_if_eq (pc := 40) (tgt := 49) dX6_fits_40 rfl (fun h3 => ?_) (fun h3 => ?_)
      · refine o_iinc (pc := 49) 3 (v := v3 + 1) (ls' := [(3, .int (v3 + 1)), (0, .ref 0), (1, .int u1), (2, .int v2)]) dX6_fits_49 rfl rfl (Nat.le_of_ble_eq_true rfl) rfl <| ?_
        refine o_ltL (ls := fun x4 => [(3, .int x4), (0, .ref 0), (1, .int u1), (2, .int v2)]) fun x4 => ?_
        refine o_goto (pc := 52) (tgt := 20) dX6_fits_52 rfl <| ?_
        refine o_sub [1, 2, 3, 0] (ls' := [(0, .ref 0), (1, .int u1), (2, .int v2), (3, .int x4)]) rfl ?_
        exact ih0 r2.2 v2 x4
      · refine o_iload_n (pc := 43) 2 dX6_fits_43 rfl rfl <| o_iconst (pc := 44) dX6_fits_44 lc_1 <| o_iload_n (pc := 45) 3 dX6_fits_45 rfl rfl <| o_ishl (pc := 46) dX6_fits_46 <| o_ior (pc := 47) dX6_fits_47 <| ?_
        refine o_lt fun x5 => ?_
        refine o_istore_n (pc := 48) (ls' := [(2, .int x5), (0, .ref 0), (1, .int u1), (3, .int v3)]) dX6_fits_48 rfl (Nat.le_of_ble_eq_true rfl) rfl <| o_iinc (pc := 49) 3 (v := v3 + 1) (ls' := [(3, .int (v3 + 1)), (2, .int x5), (0, .ref 0), (1, .int u1)]) dX6_fits_49 rfl rfl (Nat.le_of_ble_eq_true rfl) rfl <| ?_
        refine o_ltL (ls := fun x6 => [(3, .int x6), (2, .int x5), (0, .ref 0), (1, .int u1)]) fun x6 => ?_
        refine o_goto (pc := 52) (tgt := 20) dX6_fits_52 rfl <| ?_
        refine o_sub [2, 3, 1, 0] (ls' := [(0, .ref 0), (1, .int u1), (2, .int x5), (3, .int x6)]) rfl ?_
        exact ih0 r2.2 x5 x6
def fC_fits (sh : Sh) (R : RR) (m : MI) : Option (Int32 × MI) :=
  (fW_wholeShorts sh R m).bind fun r1 =>
  (fW_wholeLongs sh R r1.2).bind fun r2 =>
  lt (r1.1 + r2.1) fun x3 =>
  fC_fits_l20 sh R x3
    (fun m6 z4 z5 =>
      some (z4, m6)
      )
    1000 r2.2 0 1
theorem sC_fits {sh : Sh} {R : RR} (hF : Fx sh R) (m : MI) : KS (eI sh R) false 5 0 0 YX6_fits sh R m [.ref 0] (fC_fits sh R m ) := by
  refine KS_of pn_X6 (fun _ => Nat.le_of_ble_eq_true rfl) ?_
  change S _ _ _ _ _ _ _ _ _ _ [(0, .ref 0)] [] _
  unfold fC_fits
  refine o_aload_n (pc := 0) 0 dX6_fits_0 rfl rfl <| o_getRc (pc := 1) (a := 1) (ci := 6) (j := 0) (nn := 0) dX6_fits_1 (hF.1 _ _ rfl) rfl (Nat.le_of_ble_eq_true rfl) k_292 rfl (hF.2 _ _ _ rfl) <| ?_
  refine o_callVI (Y2 := YX5_wholeShorts) (pc := 4) (av := []) (rest := []) dX6_fits_4 k_678 cm_X5_wholeShorts (sW_wholeShorts hF m ) (hF.1 _ _ rfl) rfl rfl (Nat.le_of_ble_eq_true rfl) (Nat.le_of_ble_eq_true rfl) fun r1 => ?_
  refine o_aload_n (pc := 7) 0 dX6_fits_7 rfl rfl <| o_getRc (pc := 8) (a := 1) (ci := 6) (j := 0) (nn := 0) dX6_fits_8 (hF.1 _ _ rfl) rfl (Nat.le_of_ble_eq_true rfl) k_292 rfl (hF.2 _ _ _ rfl) <| ?_
  refine o_callVI (Y2 := YX5_wholeLongs) (pc := 11) (av := []) (rest := [.int r1.1]) dX6_fits_11 k_679 cm_X5_wholeLongs (sW_wholeLongs hF r1.2 ) (hF.1 _ _ rfl) rfl rfl (Nat.le_of_ble_eq_true rfl) (Nat.le_of_ble_eq_true rfl) fun r2 => ?_
  refine o_iadd (pc := 14) dX6_fits_14 <| ?_
  refine o_lt fun x3 => ?_
  refine o_istore_n (pc := 15) (ls' := [(1, .int x3), (0, .ref 0)]) dX6_fits_15 rfl (Nat.le_of_ble_eq_true rfl) rfl <| o_iconst (pc := 16) dX6_fits_16 lc_0 <| o_istore_n (pc := 17) (ls' := [(2, .int 0), (1, .int x3), (0, .ref 0)]) dX6_fits_17 rfl (Nat.le_of_ble_eq_true rfl) rfl <| o_iconst (pc := 18) dX6_fits_18 lc_1 <| o_istore_n (pc := 19) (ls' := [(3, .int 1), (2, .int 0), (1, .int x3), (0, .ref 0)]) dX6_fits_19 rfl (Nat.le_of_ble_eq_true rfl) rfl <| ?_
  refine o_sub [3, 2, 1, 0] (ls' := [(0, .ref 0), (1, .int x3), (2, .int 0), (3, .int 1)]) rfl ?_
  refine sC_fits_l20 hF x3 _ ?_ 1000 r2.2 0 1
  · intro m6 z4 z5
    refine o_iload_n (pc := 55) 2 dX6_fits_55 rfl rfl <| ?_
    exact o_iret (pc := 56) dX6_fits_56 rfl rfl
def fC_odds (sh : Sh) (R : RR) (m : MI) (a : Int32) (b : Int32) : Option (Int64 × MI) :=
  (fW_has m a).bind fun r1 =>
  if r1.1 = 0 then
    some (-9223372036854775808, r1.2)
  else
    (fC_isPart r1.2 b).bind fun r3 =>
    if r3.1 = 0 then
      some (-9223372036854775808, r3.2)
    else
      (fL_begin sh R r3.2 0).bind fun r5 =>
      (fL_ofOne_12 sh R r5 a).bind fun r6 =>
      (fC_lowest r6.2 (r6.1.toInt64) 1000000 b).bind fun r7 =>
      some (r7.1, r7.2)
theorem sC_odds {sh : Sh} {R : RR} (hF : Fx sh R) (m : MI) (a : Int32) (b : Int32) : KS (eL sh R) false 7 0 0 YX6_odds sh R m [.ref 0, .int a, .int b] (fC_odds sh R m a b) := by
  refine KS_of pn_X6 (fun _ => Nat.le_of_ble_eq_true rfl) ?_
  change S _ _ _ _ _ _ _ _ _ _ [(0, .ref 0), (1, .int a), (2, .int b)] [] _
  unfold fC_odds
  refine o_aload_n (pc := 0) 0 dX6_odds_0 rfl rfl <| o_getRc (pc := 1) (a := 1) (ci := 6) (j := 0) (nn := 0) dX6_odds_1 (hF.1 _ _ rfl) rfl (Nat.le_of_ble_eq_true rfl) k_292 rfl (hF.2 _ _ _ rfl) <| o_iload_n (pc := 4) 1 dX6_odds_4 rfl rfl <| ?_
  refine o_callVI (Y2 := YX5_has) (pc := 5) (av := [.int a]) (rest := []) dX6_odds_5 k_353 cm_X5_has (sW_has hF m a) (hF.1 _ _ rfl) rfl rfl (Nat.le_of_ble_eq_true rfl) (Nat.le_of_ble_eq_true rfl) fun r1 => ?_
  refine o_if_eq (pc := 8) (tgt := 18) dX6_odds_8 rfl (fun h2 => ?_) (fun h2 => ?_)
  · refine o_ldc2 (pc := 18) dX6_odds_18 k_690 <| ?_
    exact o_lret (pc := 21) dX6_odds_21 rfl rfl
  · refine o_iload_n (pc := 11) 2 dX6_odds_11 rfl rfl <| ?_
    refine o_callSI (Y2 := YX6_isPart) (pc := 12) (av := [.int b]) (rest := []) dX6_odds_12 k_687 cs_X6_isPart (sC_isPart hF r1.2 b) rfl rfl (Nat.le_of_ble_eq_true rfl) (Nat.le_of_ble_eq_true rfl) fun r3 => ?_
    refine o_if_ne (pc := 15) (tgt := 22) dX6_odds_15 rfl (fun h4 => ?_) (fun h4 => ?_)
    · refine o_ldc2 (pc := 18) dX6_odds_18 k_690 <| ?_
      exact o_lret (pc := 21) dX6_odds_21 rfl rfl
    · refine o_aload_n (pc := 22) 0 dX6_odds_22 rfl rfl <| o_getRc (pc := 23) (a := 37) (ci := 6) (j := 3) (nn := 0) dX6_odds_23 (hF.1 _ _ rfl) rfl (Nat.le_of_ble_eq_true rfl) k_295 rfl (hF.2 _ _ _ rfl) <| o_iconst (pc := 26) dX6_odds_26 lc_0 <| ?_
      refine o_callVV (Y2 := YX3_begin) (pc := 27) (av := [.int 0]) (rest := []) dX6_odds_27 k_618 cm_X3_begin (sL_begin hF r3.2 0) (hF.1 _ _ rfl) rfl rfl (Nat.le_of_ble_eq_true rfl) (Nat.le_of_ble_eq_true rfl) fun r5 => ?_
      refine o_aload_n (pc := 30) 0 dX6_odds_30 rfl rfl <| o_getRc (pc := 31) (a := 37) (ci := 6) (j := 3) (nn := 0) dX6_odds_31 (hF.1 _ _ rfl) rfl (Nat.le_of_ble_eq_true rfl) k_295 rfl (hF.2 _ _ _ rfl) <| o_iload_n (pc := 34) 1 dX6_odds_34 rfl rfl <| o_aload_n (pc := 35) 0 dX6_odds_35 rfl rfl <| o_getRc (pc := 36) (a := 1) (ci := 6) (j := 0) (nn := 0) dX6_odds_36 (hF.1 _ _ rfl) rfl (Nat.le_of_ble_eq_true rfl) k_292 rfl (hF.2 _ _ _ rfl) <| o_getRc (pc := 39) (a := 12) (ci := 5) (j := 5) (nn := 0) dX6_odds_39 (hF.1 _ _ rfl) rfl (Nat.le_of_ble_eq_true rfl) k_135 rfl (hF.2 _ _ _ rfl) <| ?_
      refine o_callVI (Y2 := YX3_ofOne) (pc := 42) (av := [.int a, .ref 12]) (rest := []) dX6_odds_42 k_625 cm_X3_ofOne (sL_ofOne_12 hF r5 a) (hF.1 _ _ rfl) rfl rfl (Nat.le_of_ble_eq_true rfl) (Nat.le_of_ble_eq_true rfl) fun r6 => ?_
      refine o_i2l (pc := 45) dX6_odds_45 <| o_ldc2 (pc := 46) dX6_odds_46 k_738 <| o_iload_n (pc := 49) 2 dX6_odds_49 rfl rfl <| ?_
      refine o_callSL (Y2 := YX6_lowest) (pc := 50) (av := [.long (r6.1.toInt64), .long 1000000, .int b]) (rest := []) dX6_odds_50 k_697 cs_X6_lowest (sC_lowest hF r6.2 (r6.1.toInt64) 1000000 b) rfl rfl (Nat.le_of_ble_eq_true rfl) (Nat.le_of_ble_eq_true rfl) fun r7 => ?_
      exact o_lret (pc := 53) dX6_odds_53 rfl rfl
def fC_mean_l48 (u1 : Int32) (k0_0 : MI → Int64 → Int32 → Option (Int64 × MI)) : Nat → MI → Int64 → Int32 → Option (Int64 × MI)
  | 0, _, _, _ => none
  | n0 + 1, m, v2, v4 =>
    if m.1 1 0 ≤ v4 then
      k0_0 m v2 v4
    else
      if ck v4 6 = true then
        ltl (v2 + ((m.1 38 v4.toNatClampNeg).toInt64)) fun y3 =>
        lt (v4 + 1) fun x4 =>
        fC_mean_l48 u1 k0_0 n0 m y3 x4
      else none
theorem sC_mean_l48 {sh : Sh} {R : RR} (hF : Fx sh R) (u1 : Int32) (k0_0 : MI → Int64 → Int32 → Option (Int64 × MI)) (hk0_0 : ∀ (m : MI) (v2 : Int64) (v4 : Int32) , S (eL sh R) false 6 0 0 YX6_mean sh R m 80 [(0, .ref 0), (1, .int u1), (2, .long v2), (4, .int v4)] [] (k0_0 m v2 v4)) : ∀ (n : Nat) (m : MI) (v2 : Int64) (v4 : Int32) , S (eL sh R) false 6 0 0 YX6_mean sh R m 48 [(0, .ref 0), (1, .int u1), (2, .long v2), (4, .int v4)] [] (fC_mean_l48 u1 k0_0 n m v2 v4) := by
  intro n
  induction n with
  | zero => intros; exact S_none
  | succ n0 ih0 =>
    intro m v2 v4
    rw [fC_mean_l48]
    refine o_iload (pc := 48) 3 dX6_mean_48 rfl <| o_aload_n (pc := 50) 0 dX6_mean_50 rfl rfl <| o_getRc (pc := 51) (a := 1) (ci := 6) (j := 0) (nn := 0) dX6_mean_51 (hF.1 _ _ rfl) rfl (Nat.le_of_ble_eq_true rfl) k_292 rfl (hF.2 _ _ _ rfl) <| o_getI (pc := 54) (ci := 5) (j := 0) (nn := 0) dX6_mean_54 (hF.1 _ _ rfl) rfl (Nat.le_of_ble_eq_true rfl) k_124 rfl <| ?_
    refine o_icmp_ge (pc := 57) (tgt := 80) dX6_mean_57 rfl (fun h1 => ?_) (fun h1 => ?_)
    · exact hk0_0 m v2 v4
    · refine o_lload_n (pc := 60) 2 dX6_mean_60 rfl rfl <| o_aload_n (pc := 61) 0 dX6_mean_61 rfl rfl <| o_getRc (pc := 62) (a := 37) (ci := 6) (j := 3) (nn := 0) dX6_mean_62 (hF.1 _ _ rfl) rfl (Nat.le_of_ble_eq_true rfl) k_295 rfl (hF.2 _ _ _ rfl) <| o_getRc (pc := 65) (a := 38) (ci := 3) (j := 0) (nn := 0) dX6_mean_65 (hF.1 _ _ rfl) rfl (Nat.le_of_ble_eq_true rfl) k_199 rfl (hF.2 _ _ _ rfl) <| o_iload (pc := 68) 3 dX6_mean_68 rfl <| ?_
      refine S_ck fun h2 => ?_
      refine o_iald (pc := 70) (nn := 6) dX6_mean_70 (hF.1 _ _ rfl) (ck_in h2) <| o_i2l (pc := 71) dX6_mean_71 <| o_ladd (pc := 72) dX6_mean_72 <| ?_
      refine o_ltl fun y3 => ?_
      refine o_lstore_n (pc := 73) (ls' := [(2, .long y3), (0, .ref 0), (1, .int u1), (4, .int v4)]) dX6_mean_73 rfl (Nat.le_of_ble_eq_true rfl) rfl <| o_iinc (pc := 74) 3 (v := v4 + 1) (ls' := [(4, .int (v4 + 1)), (2, .long y3), (0, .ref 0), (1, .int u1)]) dX6_mean_74 rfl rfl (Nat.le_of_ble_eq_true rfl) rfl <| ?_
      refine o_ltL (ls := fun x4 => [(4, .int x4), (2, .long y3), (0, .ref 0), (1, .int u1)]) fun x4 => ?_
      refine o_goto (pc := 77) (tgt := 48) dX6_mean_77 rfl <| ?_
      refine o_sub [2, 3, 1, 0] (ls' := [(0, .ref 0), (1, .int u1), (2, .long y3), (4, .int x4)]) rfl ?_
      exact ih0 m y3 x4
def fC_mean (sh : Sh) (R : RR) (m : MI) (a : Int32) : Option (Int64 × MI) :=
  (fC_isPart m a).bind fun r1 =>
  if r1.1 = 0 then
    some (-9223372036854775808, r1.2)
  else
    if r1.2.1 1 0 = 0 then
      some (-9223372036854775808, r1.2)
    else
      (fL_begin sh R r1.2 0).bind fun r4 =>
      (fL_goThrough_12 sh R r4).bind fun r5 =>
      fC_mean_l48 a
        (fun m8 z6 z7 =>
          (fC_lowest m8 z6 1000000 a).bind fun r9 =>
          some (r9.1, r9.2)
          )
        1000 r5 0 0
theorem sC_mean {sh : Sh} {R : RR} (hF : Fx sh R) (m : MI) (a : Int32) : KS (eL sh R) false 6 0 0 YX6_mean sh R m [.ref 0, .int a] (fC_mean sh R m a) := by
  refine KS_of pn_X6 (fun _ => Nat.le_of_ble_eq_true rfl) ?_
  change S _ _ _ _ _ _ _ _ _ _ [(0, .ref 0), (1, .int a)] [] _
  unfold fC_mean
  refine o_iload_n (pc := 0) 1 dX6_mean_0 rfl rfl <| ?_
  refine o_callSI (Y2 := YX6_isPart) (pc := 1) (av := [.int a]) (rest := []) dX6_mean_1 k_687 cs_X6_isPart (sC_isPart hF m a) rfl rfl (Nat.le_of_ble_eq_true rfl) (Nat.le_of_ble_eq_true rfl) fun r1 => ?_
  refine o_if_eq (pc := 4) (tgt := 17) dX6_mean_4 rfl (fun h2 => ?_) (fun h2 => ?_)
  · refine o_ldc2 (pc := 17) dX6_mean_17 k_690 <| ?_
    exact o_lret (pc := 20) dX6_mean_20 rfl rfl
  · refine o_aload_n (pc := 7) 0 dX6_mean_7 rfl rfl <| o_getRc (pc := 8) (a := 1) (ci := 6) (j := 0) (nn := 0) dX6_mean_8 (hF.1 _ _ rfl) rfl (Nat.le_of_ble_eq_true rfl) k_292 rfl (hF.2 _ _ _ rfl) <| o_getI (pc := 11) (ci := 5) (j := 0) (nn := 0) dX6_mean_11 (hF.1 _ _ rfl) rfl (Nat.le_of_ble_eq_true rfl) k_124 rfl <| ?_
    refine o_if_ne (pc := 14) (tgt := 21) dX6_mean_14 rfl (fun h3 => ?_) (fun h3 => ?_)
    · refine o_ldc2 (pc := 17) dX6_mean_17 k_690 <| ?_
      exact o_lret (pc := 20) dX6_mean_20 rfl rfl
    · refine o_aload_n (pc := 21) 0 dX6_mean_21 rfl rfl <| o_getRc (pc := 22) (a := 37) (ci := 6) (j := 3) (nn := 0) dX6_mean_22 (hF.1 _ _ rfl) rfl (Nat.le_of_ble_eq_true rfl) k_295 rfl (hF.2 _ _ _ rfl) <| o_iconst (pc := 25) dX6_mean_25 lc_0 <| ?_
      refine o_callVV (Y2 := YX3_begin) (pc := 26) (av := [.int 0]) (rest := []) dX6_mean_26 k_618 cm_X3_begin (sL_begin hF r1.2 0) (hF.1 _ _ rfl) rfl rfl (Nat.le_of_ble_eq_true rfl) (Nat.le_of_ble_eq_true rfl) fun r4 => ?_
      refine o_aload_n (pc := 29) 0 dX6_mean_29 rfl rfl <| o_getRc (pc := 30) (a := 37) (ci := 6) (j := 3) (nn := 0) dX6_mean_30 (hF.1 _ _ rfl) rfl (Nat.le_of_ble_eq_true rfl) k_295 rfl (hF.2 _ _ _ rfl) <| o_aload_n (pc := 33) 0 dX6_mean_33 rfl rfl <| o_getRc (pc := 34) (a := 1) (ci := 6) (j := 0) (nn := 0) dX6_mean_34 (hF.1 _ _ rfl) rfl (Nat.le_of_ble_eq_true rfl) k_292 rfl (hF.2 _ _ _ rfl) <| o_getRc (pc := 37) (a := 12) (ci := 5) (j := 5) (nn := 0) dX6_mean_37 (hF.1 _ _ rfl) rfl (Nat.le_of_ble_eq_true rfl) k_135 rfl (hF.2 _ _ _ rfl) <| ?_
      refine o_callVV (Y2 := YX3_goThrough) (pc := 40) (av := [.ref 12]) (rest := []) dX6_mean_40 k_743 cm_X3_goThrough (sL_goThrough_12 hF r4 ) (hF.1 _ _ rfl) rfl rfl (Nat.le_of_ble_eq_true rfl) (Nat.le_of_ble_eq_true rfl) fun r5 => ?_
      refine o_lconst (pc := 43) (x := 0) dX6_mean_43 rfl <| o_lstore_n (pc := 44) (ls' := [(2, .long 0), (0, .ref 0), (1, .int a)]) dX6_mean_44 rfl (Nat.le_of_ble_eq_true rfl) rfl <| o_iconst (pc := 45) dX6_mean_45 lc_0 <| o_istore (pc := 46) (ls' := [(4, .int 0), (2, .long 0), (0, .ref 0), (1, .int a)]) dX6_mean_46 (Nat.le_of_ble_eq_true rfl) rfl <| ?_
      refine o_sub [2, 3, 1, 0] (ls' := [(0, .ref 0), (1, .int a), (2, .long 0), (4, .int 0)]) rfl ?_
      refine sC_mean_l48 hF a _ ?_ 1000 r5 0 0
      · intro m8 z6 z7
        refine o_lload_n (pc := 80) 2 dX6_mean_80 rfl rfl <| o_ldc2 (pc := 81) dX6_mean_81 k_738 <| o_iload_n (pc := 84) 1 dX6_mean_84 rfl rfl <| ?_
        refine o_callSL (Y2 := YX6_lowest) (pc := 85) (av := [.long z6, .long 1000000, .int a]) (rest := []) dX6_mean_85 k_697 cs_X6_lowest (sC_lowest hF m8 z6 1000000 a) rfl rfl (Nat.le_of_ble_eq_true rfl) (Nat.le_of_ble_eq_true rfl) fun r9 => ?_
        exact o_lret (pc := 88) dX6_mean_88 rfl rfl
def fC_book (m : MI) (a : Int32) : Option (Int32 × MI) :=
  if a = -1 then
    lm (mI m 1 (upd (m.1 1) 13 0)) fun m2 =>
    some (0, m2)
  else
    (fC_isDrawNumber m a).bind fun r3 =>
    if r3.1 = 0 then
      some (-2, r3.2)
    else
      if r3.2.1 1 13 < 8 then
        if ck (r3.2.1 1 13) 8 = true then
          lm (mI r3.2 15 (upd (r3.2.1 15) (r3.2.1 1 13).toNatClampNeg a)) fun m7 =>
          lm (mI m7 1 (upd (m7.1 1) 13 ((m7.1 1 13) + 1))) fun m8 =>
          some (m8.1 1 13, m8)
        else none
      else
        some (-4, r3.2)
theorem sC_book {sh : Sh} {R : RR} (hF : Fx sh R) (m : MI) (a : Int32) : KS (eI sh R) false 1 0 0 YX6_book sh R m [.ref 0, .int a] (fC_book m a) := by
  refine KS_of pn_X6 (fun _ => Nat.le_of_ble_eq_true rfl) ?_
  change S _ _ _ _ _ _ _ _ _ _ [(0, .ref 0), (1, .int a)] [] _
  unfold fC_book
  refine o_iload_n (pc := 0) 1 dX6_book_0 rfl rfl <| o_iconst (pc := 1) dX6_book_1 lc_m1 <| ?_
  refine o_icmp_ne (pc := 2) (tgt := 15) dX6_book_2 rfl (fun h1 => ?_) (fun h1 => ?_)
  · refine o_aload_n (pc := 5) 0 dX6_book_5 rfl rfl <| o_getRc (pc := 6) (a := 1) (ci := 6) (j := 0) (nn := 0) dX6_book_6 (hF.1 _ _ rfl) rfl (Nat.le_of_ble_eq_true rfl) k_292 rfl (hF.2 _ _ _ rfl) <| o_iconst (pc := 9) dX6_book_9 lc_0 <| o_putI (pc := 10) (ci := 5) (j := 13) (nn := 0) dX6_book_10 (hF.1 _ _ rfl) rfl (Nat.le_of_ble_eq_true rfl) k_151 rfl rfl rfl rfl rfl <| ?_
    refine o_lm fun m2 => ?_
    refine o_iconst (pc := 13) dX6_book_13 lc_0 <| ?_
    exact o_iret (pc := 14) dX6_book_14 rfl rfl
  · refine o_iload_n (pc := 15) 1 dX6_book_15 rfl rfl <| ?_
    refine o_callSI (Y2 := YX6_isDrawNumber) (pc := 16) (av := [.int a]) (rest := []) dX6_book_16 k_604 cs_X6_isDrawNumber (sC_isDrawNumber hF m a) rfl rfl (Nat.le_of_ble_eq_true rfl) (Nat.le_of_ble_eq_true rfl) fun r3 => ?_
    refine o_if_ne (pc := 19) (tgt := 25) dX6_book_19 rfl (fun h4 => ?_) (fun h4 => ?_)
    · refine o_bipush (pc := 22) dX6_book_22 lb_m2 <| ?_
      exact o_iret (pc := 24) dX6_book_24 rfl rfl
    · refine o_aload_n (pc := 25) 0 dX6_book_25 rfl rfl <| o_getRc (pc := 26) (a := 1) (ci := 6) (j := 0) (nn := 0) dX6_book_26 (hF.1 _ _ rfl) rfl (Nat.le_of_ble_eq_true rfl) k_292 rfl (hF.2 _ _ _ rfl) <| o_getI (pc := 29) (ci := 5) (j := 13) (nn := 0) dX6_book_29 (hF.1 _ _ rfl) rfl (Nat.le_of_ble_eq_true rfl) k_151 rfl <| o_bipush (pc := 32) dX6_book_32 lb_8 <| ?_
      refine o_icmp_lt (pc := 34) (tgt := 40) dX6_book_34 rfl (fun h5 => ?_) (fun h5 => ?_)
      · refine o_aload_n (pc := 40) 0 dX6_book_40 rfl rfl <| o_getRc (pc := 41) (a := 1) (ci := 6) (j := 0) (nn := 0) dX6_book_41 (hF.1 _ _ rfl) rfl (Nat.le_of_ble_eq_true rfl) k_292 rfl (hF.2 _ _ _ rfl) <| o_getRc (pc := 44) (a := 15) (ci := 5) (j := 14) (nn := 0) dX6_book_44 (hF.1 _ _ rfl) rfl (Nat.le_of_ble_eq_true rfl) k_153 rfl (hF.2 _ _ _ rfl) <| o_aload_n (pc := 47) 0 dX6_book_47 rfl rfl <| o_getRc (pc := 48) (a := 1) (ci := 6) (j := 0) (nn := 0) dX6_book_48 (hF.1 _ _ rfl) rfl (Nat.le_of_ble_eq_true rfl) k_292 rfl (hF.2 _ _ _ rfl) <| o_getI (pc := 51) (ci := 5) (j := 13) (nn := 0) dX6_book_51 (hF.1 _ _ rfl) rfl (Nat.le_of_ble_eq_true rfl) k_151 rfl <| o_iload_n (pc := 54) 1 dX6_book_54 rfl rfl <| ?_
        refine S_ck fun h6 => ?_
        refine o_iast (pc := 55) (nn := 8) dX6_book_55 (hF.1 _ _ rfl) (ck_in h6) <| ?_
        refine o_lm fun m7 => ?_
        refine o_aload_n (pc := 56) 0 dX6_book_56 rfl rfl <| o_getRc (pc := 57) (a := 1) (ci := 6) (j := 0) (nn := 0) dX6_book_57 (hF.1 _ _ rfl) rfl (Nat.le_of_ble_eq_true rfl) k_292 rfl (hF.2 _ _ _ rfl) <| o_dup (pc := 60) dX6_book_60 rfl <| o_getI (pc := 61) (ci := 5) (j := 13) (nn := 0) dX6_book_61 (hF.1 _ _ rfl) rfl (Nat.le_of_ble_eq_true rfl) k_151 rfl <| o_iconst (pc := 64) dX6_book_64 lc_1 <| o_iadd (pc := 65) dX6_book_65 <| o_putI (pc := 66) (ci := 5) (j := 13) (nn := 0) dX6_book_66 (hF.1 _ _ rfl) rfl (Nat.le_of_ble_eq_true rfl) k_151 rfl rfl rfl rfl rfl <| ?_
        refine o_lm fun m8 => ?_
        refine o_aload_n (pc := 69) 0 dX6_book_69 rfl rfl <| o_getRc (pc := 70) (a := 1) (ci := 6) (j := 0) (nn := 0) dX6_book_70 (hF.1 _ _ rfl) rfl (Nat.le_of_ble_eq_true rfl) k_292 rfl (hF.2 _ _ _ rfl) <| o_getI (pc := 73) (ci := 5) (j := 13) (nn := 0) dX6_book_73 (hF.1 _ _ rfl) rfl (Nat.le_of_ble_eq_true rfl) k_151 rfl <| ?_
        exact o_iret (pc := 76) dX6_book_76 rfl rfl
      · refine o_bipush (pc := 37) dX6_book_37 lb_m4 <| ?_
        exact o_iret (pc := 39) dX6_book_39 rfl rfl
def fW_firstShortOfBook_l25 (sh : Sh) (R : RR) (u1 : Int32) (u2 : Int32) (k0_0 : MI → Int32 → Int32 → Option (Int32 × MI)) : Nat → MI → Int32 → Int32 → Option (Int32 × MI)
  | 0, _, _, _ => none
  | n0 + 1, m, v3, v4 =>
    if m.1 1 13 ≤ v4 then
      k0_0 m v3 v4
    else
      if ck v4 8 = true then
        if ck v3 6 = true then
          (fW_chance sh R m (m.1 12 v3.toNatClampNeg) v3 u1 (u2 - v3)).bind fun r4 =>
          if r4.1 ≤ m.1 15 v4.toNatClampNeg then
            if r4.2.1 1 0 ≤ v3 + 1 then
              lt (v4 + 1) fun x7 =>
              fW_firstShortOfBook_l25 sh R u1 u2 k0_0 n0 r4.2 0 x7
            else
              lt (v3 + 1) fun x8 =>
              lt (v4 + 1) fun x9 =>
              fW_firstShortOfBook_l25 sh R u1 u2 k0_0 n0 r4.2 x8 x9
          else
            some (v4, r4.2)
        else none
      else none
theorem sW_firstShortOfBook_l25 {sh : Sh} {R : RR} (hF : Fx sh R) (u1 : Int32) (u2 : Int32) (k0_0 : MI → Int32 → Int32 → Option (Int32 × MI)) (hk0_0 : ∀ (m : MI) (v3 : Int32) (v4 : Int32) , S (eI sh R) false 4 0 0 YX5_firstShortOfBook sh R m 86 [(0, .ref 1), (1, .int u1), (2, .int u2), (3, .int v3), (4, .int v4)] [] (k0_0 m v3 v4)) : ∀ (n : Nat) (m : MI) (v3 : Int32) (v4 : Int32) , S (eI sh R) false 4 0 0 YX5_firstShortOfBook sh R m 25 [(0, .ref 1), (1, .int u1), (2, .int u2), (3, .int v3), (4, .int v4)] [] (fW_firstShortOfBook_l25 sh R u1 u2 k0_0 n m v3 v4) := by
  intro n
  induction n with
  | zero => intros; exact S_none
  | succ n0 ih0 =>
    intro m v3 v4
    rw [fW_firstShortOfBook_l25]
    refine o_iload (pc := 25) 4 dX5_firstShortOfBook_25 rfl <| o_aload_n (pc := 27) 0 dX5_firstShortOfBook_27 rfl rfl <| o_getI (pc := 28) (ci := 5) (j := 13) (nn := 0) dX5_firstShortOfBook_28 (hF.1 _ _ rfl) rfl (Nat.le_of_ble_eq_true rfl) k_150 rfl <| ?_
    refine o_icmp_ge (pc := 31) (tgt := 86) dX5_firstShortOfBook_31 rfl (fun h1 => ?_) (fun h1 => ?_)
    · exact hk0_0 m v3 v4
    · refine o_aload_n (pc := 34) 0 dX5_firstShortOfBook_34 rfl rfl <| o_getRc (pc := 35) (a := 15) (ci := 5) (j := 14) (nn := 0) dX5_firstShortOfBook_35 (hF.1 _ _ rfl) rfl (Nat.le_of_ble_eq_true rfl) k_152 rfl (hF.2 _ _ _ rfl) <| o_iload (pc := 38) 4 dX5_firstShortOfBook_38 rfl <| ?_
      refine S_ck fun h2 => ?_
      refine o_iald (pc := 40) (nn := 8) dX5_firstShortOfBook_40 (hF.1 _ _ rfl) (ck_in h2) <| o_aload_n (pc := 41) 0 dX5_firstShortOfBook_41 rfl rfl <| o_aload_n (pc := 42) 0 dX5_firstShortOfBook_42 rfl rfl <| o_getRc (pc := 43) (a := 12) (ci := 5) (j := 5) (nn := 0) dX5_firstShortOfBook_43 (hF.1 _ _ rfl) rfl (Nat.le_of_ble_eq_true rfl) k_134 rfl (hF.2 _ _ _ rfl) <| o_iload_n (pc := 46) 3 dX5_firstShortOfBook_46 rfl rfl <| ?_
      refine S_ck fun h3 => ?_
      refine o_iald (pc := 47) (nn := 6) dX5_firstShortOfBook_47 (hF.1 _ _ rfl) (ck_in h3) <| o_iload_n (pc := 48) 3 dX5_firstShortOfBook_48 rfl rfl <| o_iload_n (pc := 49) 1 dX5_firstShortOfBook_49 rfl rfl <| o_iload_n (pc := 50) 2 dX5_firstShortOfBook_50 rfl rfl <| o_iload_n (pc := 51) 3 dX5_firstShortOfBook_51 rfl rfl <| o_isub (pc := 52) dX5_firstShortOfBook_52 <| ?_
      refine o_callVI (Y2 := YX5_chance) (pc := 53) (av := [.int (m.1 12 v3.toNatClampNeg), .int v3, .int u1, .int (u2 - v3)]) (rest := [.int (m.1 15 v4.toNatClampNeg)]) dX5_firstShortOfBook_53 k_612 cm_X5_chance (sW_chance hF m (m.1 12 v3.toNatClampNeg) v3 u1 (u2 - v3)) (hF.1 _ _ rfl) rfl rfl (Nat.le_of_ble_eq_true rfl) (Nat.le_of_ble_eq_true rfl) fun r4 => ?_
      refine o_icmp_ge (pc := 56) (tgt := 62) dX5_firstShortOfBook_56 rfl (fun h5 => ?_) (fun h5 => ?_)
      · refine o_iload_n (pc := 62) 3 dX5_firstShortOfBook_62 rfl rfl <| o_iconst (pc := 63) dX5_firstShortOfBook_63 lc_1 <| o_iadd (pc := 64) dX5_firstShortOfBook_64 <| o_aload_n (pc := 65) 0 dX5_firstShortOfBook_65 rfl rfl <| o_getI (pc := 66) (ci := 5) (j := 0) (nn := 0) dX5_firstShortOfBook_66 (hF.1 _ _ rfl) rfl (Nat.le_of_ble_eq_true rfl) k_123 rfl <| ?_
        refine o_icmp_ge (pc := 69) (tgt := 78) dX5_firstShortOfBook_69 rfl (fun h6 => ?_) (fun h6 => ?_)
        · refine o_iconst (pc := 78) dX5_firstShortOfBook_78 lc_0 <| o_istore_n (pc := 79) (ls' := [(3, .int 0), (0, .ref 1), (1, .int u1), (2, .int u2), (4, .int v4)]) dX5_firstShortOfBook_79 rfl (Nat.le_of_ble_eq_true rfl) rfl <| o_iinc (pc := 80) 4 (v := v4 + 1) (ls' := [(4, .int (v4 + 1)), (3, .int 0), (0, .ref 1), (1, .int u1), (2, .int u2)]) dX5_firstShortOfBook_80 rfl rfl (Nat.le_of_ble_eq_true rfl) rfl <| ?_
          refine o_ltL (ls := fun x7 => [(4, .int x7), (3, .int 0), (0, .ref 1), (1, .int u1), (2, .int u2)]) fun x7 => ?_
          refine o_goto (pc := 83) (tgt := 25) dX5_firstShortOfBook_83 rfl <| ?_
          refine o_sub [2, 3, 4, 1, 0] (ls' := [(0, .ref 1), (1, .int u1), (2, .int u2), (3, .int 0), (4, .int x7)]) rfl ?_
          exact ih0 r4.2 0 x7
        · refine o_iload_n (pc := 72) 3 dX5_firstShortOfBook_72 rfl rfl <| o_iconst (pc := 73) dX5_firstShortOfBook_73 lc_1 <| o_iadd (pc := 74) dX5_firstShortOfBook_74 <| o_goto (pc := 75) (tgt := 79) dX5_firstShortOfBook_75 rfl <| ?_
          refine o_lt fun x8 => ?_
          refine o_istore_n (pc := 79) (ls' := [(3, .int x8), (0, .ref 1), (1, .int u1), (2, .int u2), (4, .int v4)]) dX5_firstShortOfBook_79 rfl (Nat.le_of_ble_eq_true rfl) rfl <| o_iinc (pc := 80) 4 (v := v4 + 1) (ls' := [(4, .int (v4 + 1)), (3, .int x8), (0, .ref 1), (1, .int u1), (2, .int u2)]) dX5_firstShortOfBook_80 rfl rfl (Nat.le_of_ble_eq_true rfl) rfl <| ?_
          refine o_ltL (ls := fun x9 => [(4, .int x9), (3, .int x8), (0, .ref 1), (1, .int u1), (2, .int u2)]) fun x9 => ?_
          refine o_goto (pc := 83) (tgt := 25) dX5_firstShortOfBook_83 rfl <| ?_
          refine o_sub [2, 3, 4, 1, 0] (ls' := [(0, .ref 1), (1, .int u1), (2, .int u2), (3, .int x8), (4, .int x9)]) rfl ?_
          exact ih0 r4.2 x8 x9
      · refine o_iload (pc := 59) 4 dX5_firstShortOfBook_59 rfl <| ?_
        exact o_iret (pc := 61) dX5_firstShortOfBook_61 rfl rfl
def fW_firstShortOfBook (sh : Sh) (R : RR) (m : MI) : Option (Int32 × MI) :=
  if m.1 1 0 = 0 then
    some (-5, m)
  else
    (fW_wholeShorts sh R m).bind fun r2 =>
    (fW_wholeLongs sh R r2.2).bind fun r3 =>
    fW_firstShortOfBook_l25 sh R r2.1 r3.1
      (fun m6 z4 z5 =>
        some (-5, m6)
        )
      1000 r3.2 0 0
theorem sW_firstShortOfBook {sh : Sh} {R : RR} (hF : Fx sh R) (m : MI) : KS (eI sh R) false 4 0 0 YX5_firstShortOfBook sh R m [.ref 1] (fW_firstShortOfBook sh R m ) := by
  refine KS_of pn_X5 (fun _ => Nat.le_of_ble_eq_true rfl) ?_
  change S _ _ _ _ _ _ _ _ _ _ [(0, .ref 1)] [] _
  unfold fW_firstShortOfBook
  refine o_aload_n (pc := 0) 0 dX5_firstShortOfBook_0 rfl rfl <| o_getI (pc := 1) (ci := 5) (j := 0) (nn := 0) dX5_firstShortOfBook_1 (hF.1 _ _ rfl) rfl (Nat.le_of_ble_eq_true rfl) k_123 rfl <| ?_
  refine o_if_ne (pc := 4) (tgt := 10) dX5_firstShortOfBook_4 rfl (fun h1 => ?_) (fun h1 => ?_)
  · refine o_bipush (pc := 7) dX5_firstShortOfBook_7 lb_m5 <| ?_
    exact o_iret (pc := 9) dX5_firstShortOfBook_9 rfl rfl
  · refine o_aload_n (pc := 10) 0 dX5_firstShortOfBook_10 rfl rfl <| ?_
    refine o_callVI (Y2 := YX5_wholeShorts) (pc := 11) (av := []) (rest := []) dX5_firstShortOfBook_11 k_338 cm_X5_wholeShorts (sW_wholeShorts hF m ) (hF.1 _ _ rfl) rfl rfl (Nat.le_of_ble_eq_true rfl) (Nat.le_of_ble_eq_true rfl) fun r2 => ?_
    refine o_istore_n (pc := 14) (ls' := [(1, .int r2.1), (0, .ref 1)]) dX5_firstShortOfBook_14 rfl (Nat.le_of_ble_eq_true rfl) rfl <| o_aload_n (pc := 15) 1 dX5_firstShortOfBook_15 rfl rfl <| ?_
    refine o_callVI (Y2 := YX5_wholeLongs) (pc := 16) (av := []) (rest := []) dX5_firstShortOfBook_16 k_342 cm_X5_wholeLongs (sW_wholeLongs hF r2.2 ) (hF.1 _ _ rfl) rfl rfl (Nat.le_of_ble_eq_true rfl) (Nat.le_of_ble_eq_true rfl) fun r3 => ?_
    refine o_istore_n (pc := 19) (ls' := [(2, .int r3.1), (1, .int r2.1), (0, .ref 1)]) dX5_firstShortOfBook_19 rfl (Nat.le_of_ble_eq_true rfl) rfl <| o_iconst (pc := 20) dX5_firstShortOfBook_20 lc_0 <| o_istore_n (pc := 21) (ls' := [(3, .int 0), (2, .int r3.1), (1, .int r2.1), (0, .ref 1)]) dX5_firstShortOfBook_21 rfl (Nat.le_of_ble_eq_true rfl) rfl <| o_iconst (pc := 22) dX5_firstShortOfBook_22 lc_0 <| o_istore (pc := 23) (ls' := [(4, .int 0), (3, .int 0), (2, .int r3.1), (1, .int r2.1), (0, .ref 1)]) dX5_firstShortOfBook_23 (Nat.le_of_ble_eq_true rfl) rfl <| ?_
    refine o_sub [4, 3, 2, 1, 0] (ls' := [(0, .ref 1), (1, .int r2.1), (2, .int r3.1), (3, .int 0), (4, .int 0)]) rfl ?_
    refine sW_firstShortOfBook_l25 hF r2.1 r3.1 _ ?_ 1000 r3.2 0 0
    · intro m6 z4 z5
      refine o_bipush (pc := 86) dX5_firstShortOfBook_86 lb_m5 <| ?_
      exact o_iret (pc := 88) dX5_firstShortOfBook_88 rfl rfl
def fC_looked (sh : Sh) (R : RR) (m : MI) : Option (Int32 × MI) :=
  (fW_firstShortOfBook sh R m).bind fun r1 =>
  some (r1.1, r1.2)
theorem sC_looked {sh : Sh} {R : RR} (hF : Fx sh R) (m : MI) : KS (eI sh R) false 5 0 0 YX6_looked sh R m [.ref 0] (fC_looked sh R m ) := by
  refine KS_of pn_X6 (fun _ => Nat.le_of_ble_eq_true rfl) ?_
  change S _ _ _ _ _ _ _ _ _ _ [(0, .ref 0)] [] _
  unfold fC_looked
  refine o_aload_n (pc := 0) 0 dX6_looked_0 rfl rfl <| o_getRc (pc := 1) (a := 1) (ci := 6) (j := 0) (nn := 0) dX6_looked_1 (hF.1 _ _ rfl) rfl (Nat.le_of_ble_eq_true rfl) k_292 rfl (hF.2 _ _ _ rfl) <| ?_
  refine o_callVI (Y2 := YX5_firstShortOfBook) (pc := 4) (av := []) (rest := []) dX6_looked_4 k_752 cm_X5_firstShortOfBook (sW_firstShortOfBook hF m ) (hF.1 _ _ rfl) rfl rfl (Nat.le_of_ble_eq_true rfl) (Nat.le_of_ble_eq_true rfl) fun r1 => ?_
  exact o_iret (pc := 7) dX6_looked_7 rfl rfl
def fC_tapeAt (sh : Sh) (R : RR) (m : MI) (a : Int32) : Option (Option Nat × MI) :=
  if a < 0 then
    some (none, m)
  else
    if a < 6 then
      if ck a 6 = true then
        some (R 48 a.toNatClampNeg, m)
      else none
    else
      some (none, m)
theorem sC_tapeAt {sh : Sh} {R : RR} (hF : Fx sh R) (m : MI) (a : Int32) : KS (eQ sh R) false 0 0 0 YX6_tapeAt sh R m [.ref 0, .int a] (fC_tapeAt sh R m a) := by
  refine KS_of pn_X6 (fun _ => Nat.le_of_ble_eq_true rfl) ?_
  change S _ _ _ _ _ _ _ _ _ _ [(0, .ref 0), (1, .int a)] [] _
  unfold fC_tapeAt
  refine o_iload_n (pc := 0) 1 dX6_tapeAt_0 rfl rfl <| ?_
  refine o_if_lt (pc := 1) (tgt := 10) dX6_tapeAt_1 rfl (fun h1 => ?_) (fun h1 => ?_)
  · refine o_null (pc := 10) dX6_tapeAt_10 <| o_goto (pc := 11) (tgt := 20) dX6_tapeAt_11 rfl <| ?_
    exact o_aret (pc := 20) (q := none) dX6_tapeAt_20 rfl (Or.inl ⟨_, rfl⟩) rfl
  · refine o_iload_n (pc := 4) 1 dX6_tapeAt_4 rfl rfl <| o_bipush (pc := 5) dX6_tapeAt_5 lb_6 <| ?_
    refine o_icmp_lt (pc := 7) (tgt := 14) dX6_tapeAt_7 rfl (fun h2 => ?_) (fun h2 => ?_)
    · refine o_aload_n (pc := 14) 0 dX6_tapeAt_14 rfl rfl <| o_getRc (pc := 15) (a := 48) (ci := 6) (j := 9) (nn := 0) dX6_tapeAt_15 (hF.1 _ _ rfl) rfl (Nat.le_of_ble_eq_true rfl) k_301 rfl (hF.2 _ _ _ rfl) <| o_iload_n (pc := 18) 1 dX6_tapeAt_18 rfl rfl <| ?_
      refine S_ck fun h3 => ?_
      refine o_aald (pc := 19) (nn := 6) dX6_tapeAt_19 (hF.1 _ _ rfl) (ck_in h3) rfl <| ?_
      exact o_aret (pc := 20) (q := R 48 a.toNatClampNeg) dX6_tapeAt_20 rfl (Or.inl ⟨_, rfl⟩) rfl
    · refine o_null (pc := 10) dX6_tapeAt_10 <| o_goto (pc := 11) (tgt := 20) dX6_tapeAt_11 rfl <| ?_
      exact o_aret (pc := 20) (q := none) dX6_tapeAt_20 rfl (Or.inl ⟨_, rfl⟩) rfl
def fT_has (sh : Sh) (R : RR) (m : MI) (t : Nat) (a : Int32) : Option (Int32 × MI) :=
  if a < 0 then
    some (0, m)
  else
    if sh[t]? = some (14, 0) then
      if m.1 t 1 ≤ a then
        some (0, m)
      else
        some (1, m)
    else none
theorem sT_has {sh : Sh} {R : RR} (hF : Fx sh R) (m : MI) (t : Nat) (a : Int32) : KS (eI sh R) false 0 0 0 YX4_has sh R m [.ref t, .int a] (fT_has sh R m t a) := by
  refine KS_of pn_X4 (fun _ => Nat.le_of_ble_eq_true rfl) ?_
  change S _ _ _ _ _ _ _ _ _ _ [(0, .ref t), (1, .int a)] [] _
  unfold fT_has
  refine o_iload_n (pc := 0) 1 dX4_has_0 rfl rfl <| ?_
  refine o_if_lt (pc := 1) (tgt := 16) dX4_has_1 rfl (fun h1 => ?_) (fun h1 => ?_)
  · refine o_iconst (pc := 16) dX4_has_16 lc_0 <| ?_
    exact o_zret (pc := 17) dX4_has_17 rfl rfl rfl
  · refine o_iload_n (pc := 4) 1 dX4_has_4 rfl rfl <| o_aload_n (pc := 5) 0 dX4_has_5 rfl rfl <| ?_
    refine S_ck fun h2 => ?_
    refine o_getI (pc := 6) (ci := 4) (j := 1) (nn := 0) dX4_has_6 h2 rfl (Nat.le_of_ble_eq_true rfl) k_282 rfl <| ?_
    refine o_icmp_ge (pc := 9) (tgt := 16) dX4_has_9 rfl (fun h3 => ?_) (fun h3 => ?_)
    · refine o_iconst (pc := 16) dX4_has_16 lc_0 <| ?_
      exact o_zret (pc := 17) dX4_has_17 rfl rfl rfl
    · refine o_iconst (pc := 12) dX4_has_12 lc_1 <| o_goto (pc := 13) (tgt := 17) dX4_has_13 rfl <| ?_
      exact o_zret (pc := 17) dX4_has_17 rfl rfl rfl
def fC_judge_l34 (sh : Sh) (R : RR) (u1 : Int32) (u2 : Int32) (u3 : Nat) (k0_0 : MI → Int32 → Option (Int32 × MI)) : Nat → MI → Int32 → Option (Int32 × MI)
  | 0, _, _ => none
  | n0 + 1, m, v4 =>
    if m.1 1 0 ≤ v4 then
      k0_0 m v4
    else
      if sh[u3]? = some (14, 0) then
        (fT_has sh R m u3 (u2 + v4)).bind fun r2 =>
        if r2.1 = 0 then
          some ((100 : Int32) + v4, r2.2)
        else
          mq (R u3 2) fun q6 =>
          if kA sh q6 1 = true then
            if ck (u2 + v4) (lenA sh q6) = true then
              if ck v4 6 = true then
                if lg_cmp (r2.2.2 q6 (u2 + v4).toNatClampNeg) ((r2.2.1 4 v4.toNatClampNeg).toInt64) = 0 then
                  lt (v4 + 1) fun x11 =>
                  fC_judge_l34 sh R u1 u2 u3 k0_0 n0 r2.2 x11
                else
                  some (v4, r2.2)
              else none
            else none
          else none
      else none
theorem sC_judge_l34 {sh : Sh} {R : RR} (hF : Fx sh R) (u1 : Int32) (u2 : Int32) (u3 : Nat) (k0_0 : MI → Int32 → Option (Int32 × MI)) (hk0_0 : ∀ (m : MI) (v4 : Int32) , S (eI sh R) false 1 0 0 YX6_judge sh R m 96 [(0, .ref 0), (1, .int u1), (2, .int u2), (3, .ref u3), (4, .int v4)] [] (k0_0 m v4)) : ∀ (n : Nat) (m : MI) (v4 : Int32) , S (eI sh R) false 1 0 0 YX6_judge sh R m 34 [(0, .ref 0), (1, .int u1), (2, .int u2), (3, .ref u3), (4, .int v4)] [] (fC_judge_l34 sh R u1 u2 u3 k0_0 n m v4) := by
  intro n
  induction n with
  | zero => intros; exact S_none
  | succ n0 ih0 =>
    intro m v4
    rw [fC_judge_l34]
    refine o_iload (pc := 34) 4 dX6_judge_34 rfl <| o_aload_n (pc := 36) 0 dX6_judge_36 rfl rfl <| o_getRc (pc := 37) (a := 1) (ci := 6) (j := 0) (nn := 0) dX6_judge_37 (hF.1 _ _ rfl) rfl (Nat.le_of_ble_eq_true rfl) k_292 rfl (hF.2 _ _ _ rfl) <| o_getI (pc := 40) (ci := 5) (j := 0) (nn := 0) dX6_judge_40 (hF.1 _ _ rfl) rfl (Nat.le_of_ble_eq_true rfl) k_124 rfl <| ?_
    refine o_icmp_ge (pc := 43) (tgt := 96) dX6_judge_43 rfl (fun h1 => ?_) (fun h1 => ?_)
    · exact hk0_0 m v4
    · refine o_aload_n (pc := 46) 3 dX6_judge_46 rfl rfl <| o_iload_n (pc := 47) 2 dX6_judge_47 rfl rfl <| o_iload (pc := 48) 4 dX6_judge_48 rfl <| o_iadd (pc := 50) dX6_judge_50 <| ?_
      refine S_ck fun h3 => ?_
      refine o_callVI (Y2 := YX4_has) (pc := 51) (av := [.int (u2 + v4)]) (rest := []) dX6_judge_51 k_764 cm_X4_has (sT_has hF m u3 (u2 + v4)) h3 rfl rfl (Nat.le_of_ble_eq_true rfl) (Nat.le_of_ble_eq_true rfl) fun r2 => ?_
      refine o_if_ne (pc := 54) (tgt := 63) dX6_judge_54 rfl (fun h4 => ?_) (fun h4 => ?_)
      · refine o_bipush (pc := 57) dX6_judge_57 lb_100 <| o_iload (pc := 59) 4 dX6_judge_59 rfl <| o_iadd (pc := 61) dX6_judge_61 <| ?_
        exact o_iret (pc := 62) dX6_judge_62 rfl rfl
      · refine o_aload_n (pc := 63) 3 dX6_judge_63 rfl rfl <| ?_
        refine S_mq fun q6 h5 => ?_
        refine o_getRc (pc := 64) (a := q6) (ci := 4) (j := 2) (nn := 0) dX6_judge_64 h3 rfl (Nat.le_of_ble_eq_true rfl) k_284 rfl h5 <| o_iload_n (pc := 67) 2 dX6_judge_67 rfl rfl <| o_iload (pc := 68) 4 dX6_judge_68 rfl <| o_iadd (pc := 70) dX6_judge_70 <| ?_
        refine S_ck fun h7 => ?_
        refine S_ck fun h8 => ?_
        refine o_lald (pc := 71) (nn := lenA sh q6) dX6_judge_71 (kA_ok h7) (ck_in h8) <| o_aload_n (pc := 72) 0 dX6_judge_72 rfl rfl <| o_getRc (pc := 73) (a := 1) (ci := 6) (j := 0) (nn := 0) dX6_judge_73 (hF.1 _ _ rfl) rfl (Nat.le_of_ble_eq_true rfl) k_292 rfl (hF.2 _ _ _ rfl) <| o_getRc (pc := 76) (a := 4) (ci := 5) (j := 3) (nn := 0) dX6_judge_76 (hF.1 _ _ rfl) rfl (Nat.le_of_ble_eq_true rfl) k_131 rfl (hF.2 _ _ _ rfl) <| o_iload (pc := 79) 4 dX6_judge_79 rfl <| ?_
        refine S_ck fun h9 => ?_
        refine o_iald (pc := 81) (nn := 6) dX6_judge_81 (hF.1 _ _ rfl) (ck_in h9) <| o_i2l (pc := 82) dX6_judge_82 <| o_lcmp (pc := 83) dX6_judge_83 <| ?_
        refine o_if_eq (pc := 84) (tgt := 90) dX6_judge_84 rfl (fun h10 => ?_) (fun h10 => ?_)
        · refine o_iinc (pc := 90) 4 (v := v4 + 1) (ls' := [(4, .int (v4 + 1)), (0, .ref 0), (1, .int u1), (2, .int u2), (3, .ref u3)]) dX6_judge_90 rfl rfl (Nat.le_of_ble_eq_true rfl) rfl <| ?_
          refine o_ltL (ls := fun x11 => [(4, .int x11), (0, .ref 0), (1, .int u1), (2, .int u2), (3, .ref u3)]) fun x11 => ?_
          refine o_goto (pc := 93) (tgt := 34) dX6_judge_93 rfl <| ?_
          refine o_sub [1, 2, 3, 4, 0] (ls' := [(0, .ref 0), (1, .int u1), (2, .int u2), (3, .ref u3), (4, .int x11)]) rfl ?_
          exact ih0 r2.2 x11
        · refine o_iload (pc := 87) 4 dX6_judge_87 rfl <| ?_
          exact o_iret (pc := 89) dX6_judge_89 rfl rfl
def fC_judge (sh : Sh) (R : RR) (m : MI) (a : Int32) (b : Int32) : Option (Int32 × MI) :=
  (fC_tapeAt sh R m a).bind fun r1 =>
  mn r1.1 (
    some (-1, r1.2)
    ) fun a2 =>
    if sh[a2]? = some (14, 0) then
      if r1.2.1 a2 0 = -1 then
        fC_judge_l34 sh R a b a2
          (fun m7 z6 =>
            some (-5, m7)
            )
          1000 r1.2 0
      else
        if r1.2.1 a2 0 = 2 then
          fC_judge_l34 sh R a b a2
            (fun m10 z9 =>
              some (-5, m10)
              )
            1000 r1.2 0
        else
          some (-12, r1.2)
    else none
theorem sC_judge {sh : Sh} {R : RR} (hF : Fx sh R) (m : MI) (a : Int32) (b : Int32) : KS (eI sh R) false 1 0 0 YX6_judge sh R m [.ref 0, .int a, .int b] (fC_judge sh R m a b) := by
  refine KS_of pn_X6 (fun _ => Nat.le_of_ble_eq_true rfl) ?_
  change S _ _ _ _ _ _ _ _ _ _ [(0, .ref 0), (1, .int a), (2, .int b)] [] _
  unfold fC_judge
  refine o_aload_n (pc := 0) 0 dX6_judge_0 rfl rfl <| o_iload_n (pc := 1) 1 dX6_judge_1 rfl rfl <| ?_
  refine o_callVQ (Y2 := YX6_tapeAt) (pc := 2) (av := [.int a]) (rest := []) dX6_judge_2 k_760 cm_X6_tapeAt (sC_tapeAt hF m a) (hF.1 _ _ rfl) rfl rfl (Nat.le_of_ble_eq_true rfl) (Nat.le_of_ble_eq_true rfl) fun r1 => ?_
  refine o_mn (q := r1.1) (ls := fun q => [(0, .ref 0), (1, .int a), (2, .int b)]) (st := fun q => [va_rf q]) ?_ (fun a2 => ?_)
  · show S _ _ _ _ _ _ _ _ _ _ [(0, .ref 0), (1, .int a), (2, .int b)] [.null] _
    refine o_astore_nN (pc := 5) (ls' := [(3, .null), (0, .ref 0), (1, .int a), (2, .int b)]) dX6_judge_5 rfl (Nat.le_of_ble_eq_true rfl) rfl <| o_aload_nN (pc := 6) 0 dX6_judge_6 rfl rfl <| o_ifnonnull_f (pc := 7) dX6_judge_7 <| o_iconst (pc := 10) dX6_judge_10 lc_m1 <| ?_
    exact o_iret (pc := 11) dX6_judge_11 rfl rfl
  show S _ _ _ _ _ _ _ _ _ _ [(0, .ref 0), (1, .int a), (2, .int b)] [.ref a2] _
  refine o_astore_n (pc := 5) (ls' := [(3, .ref a2), (0, .ref 0), (1, .int a), (2, .int b)]) dX6_judge_5 rfl (Nat.le_of_ble_eq_true rfl) rfl <| o_aload_n (pc := 6) 0 dX6_judge_6 rfl rfl <| o_ifnonnull_t (pc := 7) (tgt := 12) dX6_judge_7 rfl <| o_aload_n (pc := 12) 0 dX6_judge_12 rfl rfl <| ?_
  refine S_ck fun h4 => ?_
  refine o_getI (pc := 13) (ci := 4) (j := 0) (nn := 0) dX6_judge_13 h4 rfl (Nat.le_of_ble_eq_true rfl) k_281 rfl <| o_iconst (pc := 16) dX6_judge_16 lc_m1 <| ?_
  refine o_icmp_eq (pc := 17) (tgt := 31) dX6_judge_17 rfl (fun h5 => ?_) (fun h5 => ?_)
  · refine o_iconst (pc := 31) dX6_judge_31 lc_0 <| o_istore (pc := 32) (ls' := [(4, .int 0), (3, .ref a2), (0, .ref 0), (1, .int a), (2, .int b)]) dX6_judge_32 (Nat.le_of_ble_eq_true rfl) rfl <| ?_
    refine o_sub [2, 3, 4, 1, 0] (ls' := [(0, .ref 0), (1, .int a), (2, .int b), (3, .ref a2), (4, .int 0)]) rfl ?_
    refine sC_judge_l34 hF a b a2 _ ?_ 1000 r1.2 0
    · intro m7 z6
      refine o_bipush (pc := 96) dX6_judge_96 lb_m5 <| ?_
      exact o_iret (pc := 98) dX6_judge_98 rfl rfl
  · refine o_aload_n (pc := 20) 0 dX6_judge_20 rfl rfl <| o_getI (pc := 21) (ci := 4) (j := 0) (nn := 0) dX6_judge_21 h4 rfl (Nat.le_of_ble_eq_true rfl) k_281 rfl <| o_iconst (pc := 24) dX6_judge_24 lc_2 <| ?_
    refine o_icmp_eq (pc := 25) (tgt := 31) dX6_judge_25 rfl (fun h8 => ?_) (fun h8 => ?_)
    · refine o_iconst (pc := 31) dX6_judge_31 lc_0 <| o_istore (pc := 32) (ls' := [(4, .int 0), (3, .ref a2), (0, .ref 0), (1, .int a), (2, .int b)]) dX6_judge_32 (Nat.le_of_ble_eq_true rfl) rfl <| ?_
      refine o_sub [2, 3, 4, 1, 0] (ls' := [(0, .ref 0), (1, .int a), (2, .int b), (3, .ref a2), (4, .int 0)]) rfl ?_
      refine sC_judge_l34 hF a b a2 _ ?_ 1000 r1.2 0
      · intro m10 z9
        refine o_bipush (pc := 96) dX6_judge_96 lb_m5 <| ?_
        exact o_iret (pc := 98) dX6_judge_98 rfl rfl
    · refine o_bipush (pc := 28) dX6_judge_28 lb_m12 <| ?_
      exact o_iret (pc := 30) dX6_judge_30 rfl rfl
def fC_act (m : MI) (a : Int32) (b : Int32) (c : Int32) : Option (Int32 × MI) :=
  lm (mI m 46 (upd (m.1 46) 0 0)) fun m1 =>
  (fW_has m1 a).bind fun r2 =>
  if r2.1 = 0 then
    some (0, r2.2)
  else
    if b < 0 then
      some (0, r2.2)
    else
      if b < 3 then
        if ck a 6 = true then
          if ck a 6 = true then
            (fA_begin r2.2 a (r2.2.1 2 a.toNatClampNeg) (r2.2.1 3 a.toNatClampNeg) b c).bind fun r8 =>
            some (r8.1, r8.2)
          else none
        else none
      else
        some (0, r2.2)
theorem sC_act {sh : Sh} {R : RR} (hF : Fx sh R) (m : MI) (a : Int32) (b : Int32) (c : Int32) : KS (eI sh R) false 22 0 0 YX6_act sh R m [.ref 0, .int a, .int b, .int c] (fC_act m a b c) := by
  refine KS_of pn_X6 (fun _ => Nat.le_of_ble_eq_true rfl) ?_
  change S _ _ _ _ _ _ _ _ _ _ [(0, .ref 0), (1, .int a), (2, .int b), (3, .int c)] [] _
  unfold fC_act
  refine o_aload_n (pc := 0) 0 dX6_act_0 rfl rfl <| o_getRc (pc := 1) (a := 46) (ci := 6) (j := 8) (nn := 0) dX6_act_1 (hF.1 _ _ rfl) rfl (Nat.le_of_ble_eq_true rfl) k_300 rfl (hF.2 _ _ _ rfl) <| o_iconst (pc := 4) dX6_act_4 lc_0 <| o_putI (pc := 5) (ci := 0) (j := 0) (nn := 0) dX6_act_5 (hF.1 _ _ rfl) rfl (Nat.le_of_ble_eq_true rfl) k_256 rfl rfl rfl rfl rfl <| ?_
  refine o_lm fun m1 => ?_
  refine o_aload_n (pc := 8) 0 dX6_act_8 rfl rfl <| o_getRc (pc := 9) (a := 1) (ci := 6) (j := 0) (nn := 0) dX6_act_9 (hF.1 _ _ rfl) rfl (Nat.le_of_ble_eq_true rfl) k_292 rfl (hF.2 _ _ _ rfl) <| o_iload_n (pc := 12) 1 dX6_act_12 rfl rfl <| ?_
  refine o_callVI (Y2 := YX5_has) (pc := 13) (av := [.int a]) (rest := []) dX6_act_13 k_353 cm_X5_has (sW_has hF m1 a) (hF.1 _ _ rfl) rfl rfl (Nat.le_of_ble_eq_true rfl) (Nat.le_of_ble_eq_true rfl) fun r2 => ?_
  refine o_if_eq (pc := 16) (tgt := 28) dX6_act_16 rfl (fun h3 => ?_) (fun h3 => ?_)
  · refine o_iconst (pc := 28) dX6_act_28 lc_0 <| ?_
    exact o_iret (pc := 29) dX6_act_29 rfl rfl
  · refine o_iload_n (pc := 19) 2 dX6_act_19 rfl rfl <| ?_
    refine o_if_lt (pc := 20) (tgt := 28) dX6_act_20 rfl (fun h4 => ?_) (fun h4 => ?_)
    · refine o_iconst (pc := 28) dX6_act_28 lc_0 <| ?_
      exact o_iret (pc := 29) dX6_act_29 rfl rfl
    · refine o_iload_n (pc := 23) 2 dX6_act_23 rfl rfl <| o_iconst (pc := 24) dX6_act_24 lc_3 <| ?_
      refine o_icmp_lt (pc := 25) (tgt := 30) dX6_act_25 rfl (fun h5 => ?_) (fun h5 => ?_)
      · refine o_aload_n (pc := 30) 0 dX6_act_30 rfl rfl <| o_getRc (pc := 31) (a := 46) (ci := 6) (j := 8) (nn := 0) dX6_act_31 (hF.1 _ _ rfl) rfl (Nat.le_of_ble_eq_true rfl) k_300 rfl (hF.2 _ _ _ rfl) <| o_iload_n (pc := 34) 1 dX6_act_34 rfl rfl <| o_aload_n (pc := 35) 0 dX6_act_35 rfl rfl <| o_getRc (pc := 36) (a := 1) (ci := 6) (j := 0) (nn := 0) dX6_act_36 (hF.1 _ _ rfl) rfl (Nat.le_of_ble_eq_true rfl) k_292 rfl (hF.2 _ _ _ rfl) <| o_getRc (pc := 39) (a := 2) (ci := 5) (j := 1) (nn := 0) dX6_act_39 (hF.1 _ _ rfl) rfl (Nat.le_of_ble_eq_true rfl) k_127 rfl (hF.2 _ _ _ rfl) <| o_iload_n (pc := 42) 1 dX6_act_42 rfl rfl <| ?_
        refine S_ck fun h6 => ?_
        refine o_iald (pc := 43) (nn := 6) dX6_act_43 (hF.1 _ _ rfl) (ck_in h6) <| o_aload_n (pc := 44) 0 dX6_act_44 rfl rfl <| o_getRc (pc := 45) (a := 1) (ci := 6) (j := 0) (nn := 0) dX6_act_45 (hF.1 _ _ rfl) rfl (Nat.le_of_ble_eq_true rfl) k_292 rfl (hF.2 _ _ _ rfl) <| o_getRc (pc := 48) (a := 3) (ci := 5) (j := 2) (nn := 0) dX6_act_48 (hF.1 _ _ rfl) rfl (Nat.le_of_ble_eq_true rfl) k_129 rfl (hF.2 _ _ _ rfl) <| o_iload_n (pc := 51) 1 dX6_act_51 rfl rfl <| ?_
        refine S_ck fun h7 => ?_
        refine o_iald (pc := 52) (nn := 6) dX6_act_52 (hF.1 _ _ rfl) (ck_in h7) <| o_iload_n (pc := 53) 2 dX6_act_53 rfl rfl <| o_iload_n (pc := 54) 3 dX6_act_54 rfl rfl <| ?_
        refine o_callVI (Y2 := YX0_begin) (pc := 55) (av := [.int a, .int (r2.2.1 2 a.toNatClampNeg), .int (r2.2.1 3 a.toNatClampNeg), .int b, .int c]) (rest := []) dX6_act_55 k_785 cm_X0_begin (sA_begin hF r2.2 a (r2.2.1 2 a.toNatClampNeg) (r2.2.1 3 a.toNatClampNeg) b c) (hF.1 _ _ rfl) rfl rfl (Nat.le_of_ble_eq_true rfl) (Nat.le_of_ble_eq_true rfl) fun r8 => ?_
        exact o_iret (pc := 58) dX6_act_58 rfl rfl
      · refine o_iconst (pc := 28) dX6_act_28 lc_0 <| ?_
        exact o_iret (pc := 29) dX6_act_29 rfl rfl
def fC_trace (m : MI) (a : Int32) : Option (Int32 × MI) :=
  if a < 0 then
    some (-1, m)
  else
    if m.1 46 0 ≤ a then
      some (-1, m)
    else
      if a < 20 then
        if ck a 20 = true then
          some (m.1 47 a.toNatClampNeg, m)
        else none
      else
        some (-1, m)
theorem sC_trace {sh : Sh} {R : RR} (hF : Fx sh R) (m : MI) (a : Int32) : KS (eI sh R) false 0 0 0 YX6_trace sh R m [.ref 0, .int a] (fC_trace m a) := by
  refine KS_of pn_X6 (fun _ => Nat.le_of_ble_eq_true rfl) ?_
  change S _ _ _ _ _ _ _ _ _ _ [(0, .ref 0), (1, .int a)] [] _
  unfold fC_trace
  refine o_iload_n (pc := 0) 1 dX6_trace_0 rfl rfl <| ?_
  refine o_if_lt (pc := 1) (tgt := 21) dX6_trace_1 rfl (fun h1 => ?_) (fun h1 => ?_)
  · refine o_iconst (pc := 21) dX6_trace_21 lc_m1 <| o_goto (pc := 22) (tgt := 34) dX6_trace_22 rfl <| ?_
    exact o_iret (pc := 34) dX6_trace_34 rfl rfl
  · refine o_iload_n (pc := 4) 1 dX6_trace_4 rfl rfl <| o_aload_n (pc := 5) 0 dX6_trace_5 rfl rfl <| o_getRc (pc := 6) (a := 46) (ci := 6) (j := 8) (nn := 0) dX6_trace_6 (hF.1 _ _ rfl) rfl (Nat.le_of_ble_eq_true rfl) k_300 rfl (hF.2 _ _ _ rfl) <| o_getI (pc := 9) (ci := 0) (j := 0) (nn := 0) dX6_trace_9 (hF.1 _ _ rfl) rfl (Nat.le_of_ble_eq_true rfl) k_256 rfl <| ?_
    refine o_icmp_ge (pc := 12) (tgt := 21) dX6_trace_12 rfl (fun h2 => ?_) (fun h2 => ?_)
    · refine o_iconst (pc := 21) dX6_trace_21 lc_m1 <| o_goto (pc := 22) (tgt := 34) dX6_trace_22 rfl <| ?_
      exact o_iret (pc := 34) dX6_trace_34 rfl rfl
    · refine o_iload_n (pc := 15) 1 dX6_trace_15 rfl rfl <| o_bipush (pc := 16) dX6_trace_16 lb_20 <| ?_
      refine o_icmp_lt (pc := 18) (tgt := 25) dX6_trace_18 rfl (fun h3 => ?_) (fun h3 => ?_)
      · refine o_aload_n (pc := 25) 0 dX6_trace_25 rfl rfl <| o_getRc (pc := 26) (a := 46) (ci := 6) (j := 8) (nn := 0) dX6_trace_26 (hF.1 _ _ rfl) rfl (Nat.le_of_ble_eq_true rfl) k_300 rfl (hF.2 _ _ _ rfl) <| o_getRc (pc := 29) (a := 47) (ci := 0) (j := 1) (nn := 0) dX6_trace_29 (hF.1 _ _ rfl) rfl (Nat.le_of_ble_eq_true rfl) k_258 rfl (hF.2 _ _ _ rfl) <| o_iload_n (pc := 32) 1 dX6_trace_32 rfl rfl <| ?_
        refine S_ck fun h4 => ?_
        refine o_iald (pc := 33) (nn := 20) dX6_trace_33 (hF.1 _ _ rfl) (ck_in h4) <| ?_
        exact o_iret (pc := 34) dX6_trace_34 rfl rfl
      · refine o_iconst (pc := 21) dX6_trace_21 lc_m1 <| o_goto (pc := 22) (tgt := 34) dX6_trace_22 rfl <| ?_
        exact o_iret (pc := 34) dX6_trace_34 rfl rfl
def fC_isKindOf_l4 (u0 : Int32) (u1 : Int32) (k0_0 : MI → Int32 → Int32 → Option (Int32 × MI)) : Nat → MI → Int32 → Int32 → Option (Int32 × MI)
  | 0, _, _, _ => none
  | n0 + 1, m, v2, v3 =>
    if 7 ≤ v3 then
      k0_0 m v2 v3
    else
      if v2 < 0 then
        k0_0 m v2 v3
      else
        if v2 = u1 then
          some (1, m)
        else
          if ck v2 7 = true then
            lt (tabA v2.toNatClampNeg) fun x5 =>
            lt (v3 + 1) fun x6 =>
            fC_isKindOf_l4 u0 u1 k0_0 n0 m x5 x6
          else none
theorem sC_isKindOf_l4 {sh : Sh} {R : RR} (hF : Fx sh R) (u0 : Int32) (u1 : Int32) (k0_0 : MI → Int32 → Int32 → Option (Int32 × MI)) (hk0_0 : ∀ (m : MI) (v2 : Int32) (v3 : Int32) , S (eI sh R) false 0 0 0 YX6_isKindOf sh R m 33 [(0, .int u0), (1, .int u1), (2, .int v2), (3, .int v3)] [] (k0_0 m v2 v3)) : ∀ (n : Nat) (m : MI) (v2 : Int32) (v3 : Int32) , S (eI sh R) false 0 0 0 YX6_isKindOf sh R m 4 [(0, .int u0), (1, .int u1), (2, .int v2), (3, .int v3)] [] (fC_isKindOf_l4 u0 u1 k0_0 n m v2 v3) := by
  intro n
  induction n with
  | zero => intros; exact S_none
  | succ n0 ih0 =>
    intro m v2 v3
    rw [fC_isKindOf_l4]
    refine o_iload_n (pc := 4) 3 dX6_isKindOf_4 rfl rfl <| o_bipush (pc := 5) dX6_isKindOf_5 lb_7 <| ?_
    refine o_icmp_ge (pc := 7) (tgt := 33) dX6_isKindOf_7 rfl (fun h1 => ?_) (fun h1 => ?_)
    · exact hk0_0 m v2 v3
    · refine o_iload_n (pc := 10) 2 dX6_isKindOf_10 rfl rfl <| ?_
      refine o_if_lt (pc := 11) (tgt := 33) dX6_isKindOf_11 rfl (fun h2 => ?_) (fun h2 => ?_)
      · exact hk0_0 m v2 v3
      · refine o_iload_n (pc := 14) 2 dX6_isKindOf_14 rfl rfl <| o_iload_n (pc := 15) 1 dX6_isKindOf_15 rfl rfl <| ?_
        refine o_icmp_ne (pc := 16) (tgt := 21) dX6_isKindOf_16 rfl (fun h3 => ?_) (fun h3 => ?_)
        · refine o_iconst (pc := 19) dX6_isKindOf_19 lc_1 <| ?_
          exact o_zret (pc := 20) dX6_isKindOf_20 rfl rfl rfl
        · refine o_getsA (pc := 21) dX6_isKindOf_21 k_819 <| o_iload_n (pc := 24) 2 dX6_isKindOf_24 rfl rfl <| ?_
          refine S_ck fun h4 => ?_
          refine o_tabA (pc := 25) dX6_isKindOf_25 (ck_in h4) <| ?_
          refine o_lt fun x5 => ?_
          refine o_istore_n (pc := 26) (ls' := [(2, .int x5), (0, .int u0), (1, .int u1), (3, .int v3)]) dX6_isKindOf_26 rfl (Nat.le_of_ble_eq_true rfl) rfl <| o_iinc (pc := 27) 3 (v := v3 + 1) (ls' := [(3, .int (v3 + 1)), (2, .int x5), (0, .int u0), (1, .int u1)]) dX6_isKindOf_27 rfl rfl (Nat.le_of_ble_eq_true rfl) rfl <| ?_
          refine o_ltL (ls := fun x6 => [(3, .int x6), (2, .int x5), (0, .int u0), (1, .int u1)]) fun x6 => ?_
          refine o_goto (pc := 30) (tgt := 4) dX6_isKindOf_30 rfl <| ?_
          refine o_sub [2, 3, 1, 0] (ls' := [(0, .int u0), (1, .int u1), (2, .int x5), (3, .int x6)]) rfl ?_
          exact ih0 m x5 x6
def fC_isKindOf (m : MI) (a : Int32) (b : Int32) : Option (Int32 × MI) :=
  fC_isKindOf_l4 a b
    (fun m3 z1 z2 =>
      some (0, m3)
      )
    1000 m a 0
theorem sC_isKindOf {sh : Sh} {R : RR} (hF : Fx sh R) (m : MI) (a : Int32) (b : Int32) : KS (eI sh R) false 0 0 0 YX6_isKindOf sh R m [.int a, .int b] (fC_isKindOf m a b) := by
  refine KS_of pn_X6 (fun _ => Nat.le_of_ble_eq_true rfl) ?_
  change S _ _ _ _ _ _ _ _ _ _ [(0, .int a), (1, .int b)] [] _
  unfold fC_isKindOf
  refine o_iload_n (pc := 0) 0 dX6_isKindOf_0 rfl rfl <| o_istore_n (pc := 1) (ls' := [(2, .int a), (0, .int a), (1, .int b)]) dX6_isKindOf_1 rfl (Nat.le_of_ble_eq_true rfl) rfl <| o_iconst (pc := 2) dX6_isKindOf_2 lc_0 <| o_istore_n (pc := 3) (ls' := [(3, .int 0), (2, .int a), (0, .int a), (1, .int b)]) dX6_isKindOf_3 rfl (Nat.le_of_ble_eq_true rfl) rfl <| ?_
  refine o_sub [2, 3, 1, 0] (ls' := [(0, .int a), (1, .int b), (2, .int a), (3, .int 0)]) rfl ?_
  refine sC_isKindOf_l4 hF a b _ ?_ 1000 m a 0
  · intro m3 z1 z2
    refine o_iconst (pc := 33) dX6_isKindOf_33 lc_0 <| ?_
    exact o_zret (pc := 34) dX6_isKindOf_34 rfl rfl rfl
def fC_taken (m : MI) (a : Int32) (b : Int32) : Option (Int32 × MI) :=
  if b < 0 then
    some (-2, m)
  else
    if b < 7 then
      (fW_has m a).bind fun r3 =>
      if r3.1 = 0 then
        some (-11, r3.2)
      else
        if ck a 6 = true then
          (fC_isKindOf r3.2 (r3.2.1 2 a.toNatClampNeg) b).bind fun r6 =>
          if r6.1 = 0 then
            some (-12, r6.2)
          else
            if ck a 6 = true then
              some (r6.2.1 2 a.toNatClampNeg, r6.2)
            else none
        else none
    else
      some (-2, m)
theorem sC_taken {sh : Sh} {R : RR} (hF : Fx sh R) (m : MI) (a : Int32) (b : Int32) : KS (eI sh R) false 1 0 0 YX6_taken sh R m [.ref 0, .int a, .int b] (fC_taken m a b) := by
  refine KS_of pn_X6 (fun _ => Nat.le_of_ble_eq_true rfl) ?_
  change S _ _ _ _ _ _ _ _ _ _ [(0, .ref 0), (1, .int a), (2, .int b)] [] _
  unfold fC_taken
  refine o_iload_n (pc := 0) 2 dX6_taken_0 rfl rfl <| ?_
  refine o_if_lt (pc := 1) (tgt := 10) dX6_taken_1 rfl (fun h1 => ?_) (fun h1 => ?_)
  · refine o_bipush (pc := 10) dX6_taken_10 lb_m2 <| ?_
    exact o_iret (pc := 12) dX6_taken_12 rfl rfl
  · refine o_iload_n (pc := 4) 2 dX6_taken_4 rfl rfl <| o_bipush (pc := 5) dX6_taken_5 lb_7 <| ?_
    refine o_icmp_lt (pc := 7) (tgt := 13) dX6_taken_7 rfl (fun h2 => ?_) (fun h2 => ?_)
    · refine o_aload_n (pc := 13) 0 dX6_taken_13 rfl rfl <| o_getRc (pc := 14) (a := 1) (ci := 6) (j := 0) (nn := 0) dX6_taken_14 (hF.1 _ _ rfl) rfl (Nat.le_of_ble_eq_true rfl) k_292 rfl (hF.2 _ _ _ rfl) <| o_iload_n (pc := 17) 1 dX6_taken_17 rfl rfl <| ?_
      refine o_callVI (Y2 := YX5_has) (pc := 18) (av := [.int a]) (rest := []) dX6_taken_18 k_353 cm_X5_has (sW_has hF m a) (hF.1 _ _ rfl) rfl rfl (Nat.le_of_ble_eq_true rfl) (Nat.le_of_ble_eq_true rfl) fun r3 => ?_
      refine o_if_ne (pc := 21) (tgt := 27) dX6_taken_21 rfl (fun h4 => ?_) (fun h4 => ?_)
      · refine o_bipush (pc := 24) dX6_taken_24 lb_m11 <| ?_
        exact o_iret (pc := 26) dX6_taken_26 rfl rfl
      · refine o_aload_n (pc := 27) 0 dX6_taken_27 rfl rfl <| o_getRc (pc := 28) (a := 1) (ci := 6) (j := 0) (nn := 0) dX6_taken_28 (hF.1 _ _ rfl) rfl (Nat.le_of_ble_eq_true rfl) k_292 rfl (hF.2 _ _ _ rfl) <| o_getRc (pc := 31) (a := 2) (ci := 5) (j := 1) (nn := 0) dX6_taken_31 (hF.1 _ _ rfl) rfl (Nat.le_of_ble_eq_true rfl) k_127 rfl (hF.2 _ _ _ rfl) <| o_iload_n (pc := 34) 1 dX6_taken_34 rfl rfl <| ?_
        refine S_ck fun h5 => ?_
        refine o_iald (pc := 35) (nn := 6) dX6_taken_35 (hF.1 _ _ rfl) (ck_in h5) <| o_iload_n (pc := 36) 2 dX6_taken_36 rfl rfl <| ?_
        refine o_callSI (Y2 := YX6_isKindOf) (pc := 37) (av := [.int (r3.2.1 2 a.toNatClampNeg), .int b]) (rest := []) dX6_taken_37 k_816 cs_X6_isKindOf (sC_isKindOf hF r3.2 (r3.2.1 2 a.toNatClampNeg) b) rfl rfl (Nat.le_of_ble_eq_true rfl) (Nat.le_of_ble_eq_true rfl) fun r6 => ?_
        refine o_if_eq (pc := 40) (tgt := 55) dX6_taken_40 rfl (fun h7 => ?_) (fun h7 => ?_)
        · refine o_bipush (pc := 55) dX6_taken_55 lb_m12 <| ?_
          exact o_iret (pc := 57) dX6_taken_57 rfl rfl
        · refine o_aload_n (pc := 43) 0 dX6_taken_43 rfl rfl <| o_getRc (pc := 44) (a := 1) (ci := 6) (j := 0) (nn := 0) dX6_taken_44 (hF.1 _ _ rfl) rfl (Nat.le_of_ble_eq_true rfl) k_292 rfl (hF.2 _ _ _ rfl) <| o_getRc (pc := 47) (a := 2) (ci := 5) (j := 1) (nn := 0) dX6_taken_47 (hF.1 _ _ rfl) rfl (Nat.le_of_ble_eq_true rfl) k_127 rfl (hF.2 _ _ _ rfl) <| o_iload_n (pc := 50) 1 dX6_taken_50 rfl rfl <| ?_
          refine S_ck fun h8 => ?_
          refine o_iald (pc := 51) (nn := 6) dX6_taken_51 (hF.1 _ _ rfl) (ck_in h8) <| o_goto (pc := 52) (tgt := 57) dX6_taken_52 rfl <| ?_
          exact o_iret (pc := 57) dX6_taken_57 rfl rfl
    · refine o_bipush (pc := 10) dX6_taken_10 lb_m2 <| ?_
      exact o_iret (pc := 12) dX6_taken_12 rfl rfl
def fC_count (m : MI) (a : Int32) : Option (Int32 × MI) :=
  if a = 0 then
    some (m.1 1 0, m)
  else
    if a = 1 then
      some (m.1 0 7, m)
    else
      if a = 2 then
        some (m.1 1 10, m)
      else
        if a = 3 then
          some (m.1 1 13, m)
        else
          if a = 4 then
            some (m.1 43 0, m)
          else
            if a = 5 then
              some (m.1 46 0, m)
            else
              some (-2, m)
theorem sC_count {sh : Sh} {R : RR} (hF : Fx sh R) (m : MI) (a : Int32) : KS (eI sh R) false 0 0 0 YX6_count sh R m [.ref 0, .int a] (fC_count m a) := by
  refine KS_of pn_X6 (fun _ => Nat.le_of_ble_eq_true rfl) ?_
  change S _ _ _ _ _ _ _ _ _ _ [(0, .ref 0), (1, .int a)] [] _
  unfold fC_count
  refine o_iload_n (pc := 0) 1 dX6_count_0 rfl rfl <| ?_
  refine S_ite (fun h1 => ?_) (fun h1 => ?_)
  · refine o_ts_in (pc := 1) (tgt := 40) 0 h1 dX6_count_1 (by decide) (by decide) rfl rfl ?_
    refine o_aload_n (pc := 40) 0 dX6_count_40 rfl rfl <| o_getRc (pc := 41) (a := 1) (ci := 6) (j := 0) (nn := 0) dX6_count_41 (hF.1 _ _ rfl) rfl (Nat.le_of_ble_eq_true rfl) k_292 rfl (hF.2 _ _ _ rfl) <| o_getI (pc := 44) (ci := 5) (j := 0) (nn := 0) dX6_count_44 (hF.1 _ _ rfl) rfl (Nat.le_of_ble_eq_true rfl) k_124 rfl <| ?_
    exact o_iret (pc := 47) dX6_count_47 rfl rfl
  refine S_ite (fun h2 => ?_) (fun h2 => ?_)
  · refine o_ts_in (pc := 1) (tgt := 48) 1 h2 dX6_count_1 (by decide) (by decide) rfl rfl ?_
    refine o_aload_n (pc := 48) 0 dX6_count_48 rfl rfl <| o_getI (pc := 49) (ci := 6) (j := 7) (nn := 0) dX6_count_49 (hF.1 _ _ rfl) rfl (Nat.le_of_ble_eq_true rfl) k_299 rfl <| ?_
    exact o_iret (pc := 52) dX6_count_52 rfl rfl
  refine S_ite (fun h3 => ?_) (fun h3 => ?_)
  · refine o_ts_in (pc := 1) (tgt := 53) 2 h3 dX6_count_1 (by decide) (by decide) rfl rfl ?_
    refine o_aload_n (pc := 53) 0 dX6_count_53 rfl rfl <| o_getRc (pc := 54) (a := 1) (ci := 6) (j := 0) (nn := 0) dX6_count_54 (hF.1 _ _ rfl) rfl (Nat.le_of_ble_eq_true rfl) k_292 rfl (hF.2 _ _ _ rfl) <| o_getI (pc := 57) (ci := 5) (j := 10) (nn := 0) dX6_count_57 (hF.1 _ _ rfl) rfl (Nat.le_of_ble_eq_true rfl) k_145 rfl <| ?_
    exact o_iret (pc := 60) dX6_count_60 rfl rfl
  refine S_ite (fun h4 => ?_) (fun h4 => ?_)
  · refine o_ts_in (pc := 1) (tgt := 61) 3 h4 dX6_count_1 (by decide) (by decide) rfl rfl ?_
    refine o_aload_n (pc := 61) 0 dX6_count_61 rfl rfl <| o_getRc (pc := 62) (a := 1) (ci := 6) (j := 0) (nn := 0) dX6_count_62 (hF.1 _ _ rfl) rfl (Nat.le_of_ble_eq_true rfl) k_292 rfl (hF.2 _ _ _ rfl) <| o_getI (pc := 65) (ci := 5) (j := 13) (nn := 0) dX6_count_65 (hF.1 _ _ rfl) rfl (Nat.le_of_ble_eq_true rfl) k_151 rfl <| ?_
    exact o_iret (pc := 68) dX6_count_68 rfl rfl
  refine S_ite (fun h5 => ?_) (fun h5 => ?_)
  · refine o_ts_in (pc := 1) (tgt := 69) 4 h5 dX6_count_1 (by decide) (by decide) rfl rfl ?_
    refine o_aload_n (pc := 69) 0 dX6_count_69 rfl rfl <| o_getRc (pc := 70) (a := 43) (ci := 6) (j := 6) (nn := 0) dX6_count_70 (hF.1 _ _ rfl) rfl (Nat.le_of_ble_eq_true rfl) k_298 rfl (hF.2 _ _ _ rfl) <| o_getI (pc := 73) (ci := 2) (j := 0) (nn := 0) dX6_count_73 (hF.1 _ _ rfl) rfl (Nat.le_of_ble_eq_true rfl) k_226 rfl <| ?_
    exact o_iret (pc := 76) dX6_count_76 rfl rfl
  refine S_ite (fun h6 => ?_) (fun h6 => ?_)
  · refine o_ts_in (pc := 1) (tgt := 77) 5 h6 dX6_count_1 (by decide) (by decide) rfl rfl ?_
    refine o_aload_n (pc := 77) 0 dX6_count_77 rfl rfl <| o_getRc (pc := 78) (a := 46) (ci := 6) (j := 8) (nn := 0) dX6_count_78 (hF.1 _ _ rfl) rfl (Nat.le_of_ble_eq_true rfl) k_300 rfl (hF.2 _ _ _ rfl) <| o_getI (pc := 81) (ci := 0) (j := 0) (nn := 0) dX6_count_81 (hF.1 _ _ rfl) rfl (Nat.le_of_ble_eq_true rfl) k_256 rfl <| ?_
    exact o_iret (pc := 84) dX6_count_84 rfl rfl
  refine o_ts_out (pc := 1) (tgt := 85) (ts_out (lo := 0) (hi := 5) [0, 1, 2, 3, 4, 5] (by decide) (by decide) (fun c hc => by
      simp only [List.mem_cons, List.not_mem_nil, or_false] at hc
      rcases hc with rfl | rfl | rfl | rfl | rfl | rfl
      · exact h1
      · exact h2
      · exact h3
      · exact h4
      · exact h5
      · exact h6)) dX6_count_1 rfl ?_
  refine o_bipush (pc := 85) dX6_count_85 lb_m2 <| ?_
  exact o_iret (pc := 87) dX6_count_87 rfl rfl
def fT_become (sh : Sh) (R : RR) (m : MI) (t : Nat) (a : Int32) (b : Int32) : Option (MI) :=
  if sh[t]? = some (14, 0) then
    lm (mI m t (upd (m.1 t) 0 a)) fun m2 =>
    lm (mI m2 t (upd (m2.1 t) 1 b)) fun m3 =>
    mq (R t 2) fun q5 =>
    (fJA_fill_d0a16 sh R m3 q5 0).bind fun r6 =>
    some r6
  else none
theorem sT_become {sh : Sh} {R : RR} (hF : Fx sh R) (m : MI) (t : Nat) (a : Int32) (b : Int32) : KS (eV sh R) false 1 0 0 YX4_become sh R m [.ref t, .int a, .int b] (fT_become sh R m t a b) := by
  refine KS_of pn_X4 (fun _ => Nat.le_of_ble_eq_true rfl) ?_
  change S _ _ _ _ _ _ _ _ _ _ [(0, .ref t), (1, .int a), (2, .int b)] [] _
  unfold fT_become
  refine o_aload_n (pc := 0) 0 dX4_become_0 rfl rfl <| o_iload_n (pc := 1) 1 dX4_become_1 rfl rfl <| ?_
  refine S_ck fun h1 => ?_
  refine o_putI (pc := 2) (ci := 4) (j := 0) (nn := 0) dX4_become_2 h1 rfl (Nat.le_of_ble_eq_true rfl) k_280 rfl rfl rfl rfl rfl <| ?_
  refine o_lm fun m2 => ?_
  refine o_aload_n (pc := 5) 0 dX4_become_5 rfl rfl <| o_iload_n (pc := 6) 2 dX4_become_6 rfl rfl <| o_putI (pc := 7) (ci := 4) (j := 1) (nn := 0) dX4_become_7 h1 rfl (Nat.le_of_ble_eq_true rfl) k_282 rfl rfl rfl rfl rfl <| ?_
  refine o_lm fun m3 => ?_
  refine o_aload_n (pc := 10) 0 dX4_become_10 rfl rfl <| ?_
  refine S_mq fun q5 h4 => ?_
  refine o_getRc (pc := 11) (a := q5) (ci := 4) (j := 2) (nn := 0) dX4_become_11 h1 rfl (Nat.le_of_ble_eq_true rfl) k_283 rfl h4 <| o_lconst (pc := 14) (x := 0) dX4_become_14 rfl <| ?_
  refine o_callSV (Y2 := YJ7_fill_d0a16) (pc := 15) (av := [.ref q5, .long 0]) (rest := []) dX4_become_15 k_832 cs_J7_fill_d0a16 (sJA_fill_d0a16 hF m3 q5 0) rfl rfl (Nat.le_of_ble_eq_true rfl) (Nat.le_of_ble_eq_true rfl) fun r6 => ?_
  exact o_vret (pc := 18) dX4_become_18 rfl rfl
