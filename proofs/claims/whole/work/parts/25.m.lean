def fM_mean_l30 (u1 : Int32) (k0_0 : MI → Int64 → Int32 → Option (Int64 × MI)) : Nat → MI → Int64 → Int32 → Option (Int64 × MI)
  | 0, _, _, _ => none
  | n0 + 1, m, v2, v4 =>
    if m.1 61 0 ≤ v4 then
      k0_0 m v2 v4
    else
      if ck v4 6 = true then
        ltl (v2 + ((m.1 77 v4.toNatClampNeg).toInt64)) fun y3 =>
        lt (v4 + 1) fun x4 =>
        fM_mean_l30 u1 k0_0 n0 m y3 x4
      else none
theorem sM_mean_l30 {sh : Sh} {R : RR} (hF : Fx sh R) (u1 : Int32) (k0_0 : MI → Int64 → Int32 → Option (Int64 × MI)) (hk0_0 : ∀ (m : MI) (v2 : Int64) (v4 : Int32) , S (eL sh R) false 7 0 0 YX7_mean sh R m 56 [(0, .ref 61), (1, .int u1), (2, .long v2), (4, .int v4)] [] (k0_0 m v2 v4)) : ∀ (n : Nat) (m : MI) (v2 : Int64) (v4 : Int32) , S (eL sh R) false 7 0 0 YX7_mean sh R m 30 [(0, .ref 61), (1, .int u1), (2, .long v2), (4, .int v4)] [] (fM_mean_l30 u1 k0_0 n m v2 v4) := by
  intro n
  induction n with
  | zero => intros; exact S_none
  | succ n0 ih0 =>
    intro m v2 v4
    rw [fM_mean_l30]
    refine o_iload (pc := 30) 3 dX7_mean_30 rfl <| o_aload_n (pc := 32) 0 dX7_mean_32 rfl rfl <| o_getI (pc := 33) (ci := 7) (j := 0) (nn := 0) dX7_mean_33 (hF.1 _ _ rfl) rfl (Nat.le_of_ble_eq_true rfl) k_883 rfl <| ?_
    refine o_icmp_ge (pc := 36) (tgt := 56) dX7_mean_36 rfl (fun h1 => ?_) (fun h1 => ?_)
    · exact hk0_0 m v2 v4
    · refine o_lload_n (pc := 39) 2 dX7_mean_39 rfl rfl <| o_aload_n (pc := 40) 0 dX7_mean_40 rfl rfl <| o_getRc (pc := 41) (a := 77) (ci := 7) (j := 31) (nn := 0) dX7_mean_41 (hF.1 _ _ rfl) rfl (Nat.le_of_ble_eq_true rfl) k_914 rfl (hF.2 _ _ _ rfl) <| o_iload (pc := 44) 3 dX7_mean_44 rfl <| ?_
      refine S_ck fun h2 => ?_
      refine o_iald (pc := 46) (nn := 6) dX7_mean_46 (hF.1 _ _ rfl) (ck_in h2) <| o_i2l (pc := 47) dX7_mean_47 <| o_ladd (pc := 48) dX7_mean_48 <| ?_
      refine o_ltl fun y3 => ?_
      refine o_lstore_n (pc := 49) (ls' := [(2, .long y3), (0, .ref 61), (1, .int u1), (4, .int v4)]) dX7_mean_49 rfl (Nat.le_of_ble_eq_true rfl) rfl <| o_iinc (pc := 50) 3 (v := v4 + 1) (ls' := [(4, .int (v4 + 1)), (2, .long y3), (0, .ref 61), (1, .int u1)]) dX7_mean_50 rfl rfl (Nat.le_of_ble_eq_true rfl) rfl <| ?_
      refine o_ltL (ls := fun x4 => [(4, .int x4), (2, .long y3), (0, .ref 61), (1, .int u1)]) fun x4 => ?_
      refine o_goto (pc := 53) (tgt := 30) dX7_mean_53 rfl <| ?_
      refine o_sub [2, 3, 1, 0] (ls' := [(0, .ref 61), (1, .int u1), (2, .long y3), (4, .int x4)]) rfl ?_
      exact ih0 m y3 x4
def fM_mean (m : MI) (a : Int32) : Option (Int64 × MI) :=
  (fM_in m a 0 1).bind fun r1 =>
  if r1.1 = 0 then
    some (-9223372036854775808, r1.2)
  else
    if r1.2.1 61 0 = 0 then
      some (-9223372036854775808, r1.2)
    else
      (fM_layLikely r1.2).bind fun r4 =>
      fM_mean_l30 a
        (fun m7 z5 z6 =>
          (fM_lowest m7 z5 1000000 a).bind fun r8 =>
          some (r8.1, r8.2)
          )
        1000 r4 0 0
theorem sM_mean {sh : Sh} {R : RR} (hF : Fx sh R) (m : MI) (a : Int32) : KS (eL sh R) false 7 0 0 YX7_mean sh R m [.ref 61, .int a] (fM_mean m a) := by
  refine KS_of pn_X7 (fun _ => Nat.le_of_ble_eq_true rfl) ?_
  change S _ _ _ _ _ _ _ _ _ _ [(0, .ref 61), (1, .int a)] [] _
  unfold fM_mean
  refine o_aload_n (pc := 0) 0 dX7_mean_0 rfl rfl <| o_iload_n (pc := 1) 1 dX7_mean_1 rfl rfl <| o_iconst (pc := 2) dX7_mean_2 lc_0 <| o_iconst (pc := 3) dX7_mean_3 lc_1 <| ?_
  refine o_callVI (Y2 := YX7_in) (pc := 4) (av := [.int a, .int 0, .int 1]) (rest := []) dX7_mean_4 k_1096 cm_X7_in (sM_in hF m a 0 1) (hF.1 _ _ rfl) rfl rfl (Nat.le_of_ble_eq_true rfl) (Nat.le_of_ble_eq_true rfl) fun r1 => ?_
  refine o_if_eq (pc := 7) (tgt := 17) dX7_mean_7 rfl (fun h2 => ?_) (fun h2 => ?_)
  · refine o_ldc2 (pc := 17) dX7_mean_17 k_1301 <| ?_
    exact o_lret (pc := 20) dX7_mean_20 rfl rfl
  · refine o_aload_n (pc := 10) 0 dX7_mean_10 rfl rfl <| o_getI (pc := 11) (ci := 7) (j := 0) (nn := 0) dX7_mean_11 (hF.1 _ _ rfl) rfl (Nat.le_of_ble_eq_true rfl) k_883 rfl <| ?_
    refine o_if_ne (pc := 14) (tgt := 21) dX7_mean_14 rfl (fun h3 => ?_) (fun h3 => ?_)
    · refine o_ldc2 (pc := 17) dX7_mean_17 k_1301 <| ?_
      exact o_lret (pc := 20) dX7_mean_20 rfl rfl
    · refine o_aload_n (pc := 21) 0 dX7_mean_21 rfl rfl <| ?_
      refine o_callVV (Y2 := YX7_layLikely) (pc := 22) (av := []) (rest := []) dX7_mean_22 k_1252 cm_X7_layLikely (sM_layLikely hF r1.2 ) (hF.1 _ _ rfl) rfl rfl (Nat.le_of_ble_eq_true rfl) (Nat.le_of_ble_eq_true rfl) fun r4 => ?_
      refine o_lconst (pc := 25) (x := 0) dX7_mean_25 rfl <| o_lstore_n (pc := 26) (ls' := [(2, .long 0), (0, .ref 61), (1, .int a)]) dX7_mean_26 rfl (Nat.le_of_ble_eq_true rfl) rfl <| o_iconst (pc := 27) dX7_mean_27 lc_0 <| o_istore (pc := 28) (ls' := [(4, .int 0), (2, .long 0), (0, .ref 61), (1, .int a)]) dX7_mean_28 (Nat.le_of_ble_eq_true rfl) rfl <| ?_
      refine o_sub [2, 3, 1, 0] (ls' := [(0, .ref 61), (1, .int a), (2, .long 0), (4, .int 0)]) rfl ?_
      refine sM_mean_l30 hF a _ ?_ 1000 r4 0 0
      · intro m7 z5 z6
        refine o_aload_n (pc := 56) 0 dX7_mean_56 rfl rfl <| o_lload_n (pc := 57) 2 dX7_mean_57 rfl rfl <| o_ldc2 (pc := 58) dX7_mean_58 k_1225 <| o_iload_n (pc := 61) 1 dX7_mean_61 rfl rfl <| ?_
        refine o_callVL (Y2 := YX7_lowest) (pc := 62) (av := [.long z5, .long 1000000, .int a]) (rest := []) dX7_mean_62 k_1303 cm_X7_lowest (sM_lowest hF m7 z5 1000000 a) (hF.1 _ _ rfl) rfl rfl (Nat.le_of_ble_eq_true rfl) (Nat.le_of_ble_eq_true rfl) fun r8 => ?_
        exact o_lret (pc := 65) dX7_mean_65 rfl rfl
def fM_book (m : MI) (a : Int32) : Option (Int32 × MI) :=
  if a = -1 then
    lm (mI m 61 (upd (m.1 61) 44 0)) fun m2 =>
    some (0, m2)
  else
    (fM_isDraw m a).bind fun r3 =>
    if r3.1 = 0 then
      some (-2, r3.2)
    else
      if r3.2.1 61 44 = 8 then
        some (-4, r3.2)
      else
        if ck (r3.2.1 61 44) 8 = true then
          lm (mI r3.2 85 (upd (r3.2.1 85) (r3.2.1 61 44).toNatClampNeg a)) fun m7 =>
          lm (mI m7 61 (upd (m7.1 61) 44 ((m7.1 61 44) + 1))) fun m8 =>
          some (m8.1 61 44, m8)
        else none
theorem sM_book {sh : Sh} {R : RR} (hF : Fx sh R) (m : MI) (a : Int32) : KS (eI sh R) false 2 0 0 YX7_book sh R m [.ref 61, .int a] (fM_book m a) := by
  refine KS_of pn_X7 (fun _ => Nat.le_of_ble_eq_true rfl) ?_
  change S _ _ _ _ _ _ _ _ _ _ [(0, .ref 61), (1, .int a)] [] _
  unfold fM_book
  refine o_iload_n (pc := 0) 1 dX7_book_0 rfl rfl <| o_iconst (pc := 1) dX7_book_1 lc_m1 <| ?_
  refine o_icmp_ne (pc := 2) (tgt := 12) dX7_book_2 rfl (fun h1 => ?_) (fun h1 => ?_)
  · refine o_aload_n (pc := 5) 0 dX7_book_5 rfl rfl <| o_iconst (pc := 6) dX7_book_6 lc_0 <| o_putI (pc := 7) (ci := 7) (j := 44) (nn := 0) dX7_book_7 (hF.1 _ _ rfl) rfl (Nat.le_of_ble_eq_true rfl) k_927 rfl rfl rfl rfl rfl <| ?_
    refine o_lm fun m2 => ?_
    refine o_iconst (pc := 10) dX7_book_10 lc_0 <| ?_
    exact o_iret (pc := 11) dX7_book_11 rfl rfl
  · refine o_aload_n (pc := 12) 0 dX7_book_12 rfl rfl <| o_iload_n (pc := 13) 1 dX7_book_13 rfl rfl <| ?_
    refine o_callVI (Y2 := YX7_isDraw) (pc := 14) (av := [.int a]) (rest := []) dX7_book_14 k_1235 cm_X7_isDraw (sM_isDraw hF m a) (hF.1 _ _ rfl) rfl rfl (Nat.le_of_ble_eq_true rfl) (Nat.le_of_ble_eq_true rfl) fun r3 => ?_
    refine o_if_ne (pc := 17) (tgt := 23) dX7_book_17 rfl (fun h4 => ?_) (fun h4 => ?_)
    · refine o_bipush (pc := 20) dX7_book_20 lb_m2 <| ?_
      exact o_iret (pc := 22) dX7_book_22 rfl rfl
    · refine o_aload_n (pc := 23) 0 dX7_book_23 rfl rfl <| o_getI (pc := 24) (ci := 7) (j := 44) (nn := 0) dX7_book_24 (hF.1 _ _ rfl) rfl (Nat.le_of_ble_eq_true rfl) k_927 rfl <| o_bipush (pc := 27) dX7_book_27 lb_8 <| ?_
      refine o_icmp_ne (pc := 29) (tgt := 35) dX7_book_29 rfl (fun h5 => ?_) (fun h5 => ?_)
      · refine o_bipush (pc := 32) dX7_book_32 lb_m4 <| ?_
        exact o_iret (pc := 34) dX7_book_34 rfl rfl
      · refine o_aload_n (pc := 35) 0 dX7_book_35 rfl rfl <| o_getRc (pc := 36) (a := 85) (ci := 7) (j := 45) (nn := 0) dX7_book_36 (hF.1 _ _ rfl) rfl (Nat.le_of_ble_eq_true rfl) k_928 rfl (hF.2 _ _ _ rfl) <| o_aload_n (pc := 39) 0 dX7_book_39 rfl rfl <| o_getI (pc := 40) (ci := 7) (j := 44) (nn := 0) dX7_book_40 (hF.1 _ _ rfl) rfl (Nat.le_of_ble_eq_true rfl) k_927 rfl <| o_iload_n (pc := 43) 1 dX7_book_43 rfl rfl <| ?_
        refine S_ck fun h6 => ?_
        refine o_iast (pc := 44) (nn := 8) dX7_book_44 (hF.1 _ _ rfl) (ck_in h6) <| ?_
        refine o_lm fun m7 => ?_
        refine o_aload_n (pc := 45) 0 dX7_book_45 rfl rfl <| o_dup (pc := 46) dX7_book_46 rfl <| o_getI (pc := 47) (ci := 7) (j := 44) (nn := 0) dX7_book_47 (hF.1 _ _ rfl) rfl (Nat.le_of_ble_eq_true rfl) k_927 rfl <| o_iconst (pc := 50) dX7_book_50 lc_1 <| o_iadd (pc := 51) dX7_book_51 <| o_putI (pc := 52) (ci := 7) (j := 44) (nn := 0) dX7_book_52 (hF.1 _ _ rfl) rfl (Nat.le_of_ble_eq_true rfl) k_927 rfl rfl rfl rfl rfl <| ?_
        refine o_lm fun m8 => ?_
        refine o_aload_n (pc := 55) 0 dX7_book_55 rfl rfl <| o_getI (pc := 56) (ci := 7) (j := 44) (nn := 0) dX7_book_56 (hF.1 _ _ rfl) rfl (Nat.le_of_ble_eq_true rfl) k_927 rfl <| ?_
        exact o_iret (pc := 59) dX7_book_59 rfl rfl
def fM_looked_l13 (k0_0 : MI → Int32 → Int32 → Option (Int32 × MI)) : Nat → MI → Int32 → Int32 → Option (Int32 × MI)
  | 0, _, _, _ => none
  | n0 + 1, m, v1, v2 =>
    if m.1 61 44 ≤ v2 then
      k0_0 m v1 v2
    else
      if m.1 61 0 ≤ 0 then
        k0_0 m v1 v2
      else
        if 0 ≤ v1 then
          k0_0 m v1 v2
        else
          if ck v2 8 = true then
            (fM_goDraw m (m.1 85 v2.toNatClampNeg)).bind fun r5 =>
            if r5.1 = 0 then
              (fM_isEnd r5.2).bind fun r7 =>
              if r7.1 = 0 then
                lt (v2 + 1) fun x9 =>
                fM_looked_l13 k0_0 n0 r7.2 (-5) x9
              else
                (fM_layFist r7.2).bind fun r10 =>
                lt (v2 + 1) fun x11 =>
                fM_looked_l13 k0_0 n0 r10 (-5) x11
            else
              (fM_isEnd r5.2).bind fun r12 =>
              if r12.1 = 0 then
                lt (v2 + 1) fun x14 =>
                fM_looked_l13 k0_0 n0 r12.2 v2 x14
              else
                (fM_layFist r12.2).bind fun r15 =>
                lt (v2 + 1) fun x16 =>
                fM_looked_l13 k0_0 n0 r15 v2 x16
          else none
theorem sM_looked_l13 {sh : Sh} {R : RR} (hF : Fx sh R) (k0_0 : MI → Int32 → Int32 → Option (Int32 × MI)) (hk0_0 : ∀ (m : MI) (v1 : Int32) (v2 : Int32) , S (eI sh R) false 7 0 0 YX7_looked sh R m 69 [(0, .ref 61), (1, .int v1), (2, .int v2)] [] (k0_0 m v1 v2)) : ∀ (n : Nat) (m : MI) (v1 : Int32) (v2 : Int32) , S (eI sh R) false 7 0 0 YX7_looked sh R m 13 [(0, .ref 61), (1, .int v1), (2, .int v2)] [] (fM_looked_l13 k0_0 n m v1 v2) := by
  intro n
  induction n with
  | zero => intros; exact S_none
  | succ n0 ih0 =>
    intro m v1 v2
    rw [fM_looked_l13]
    refine o_iload_n (pc := 13) 2 dX7_looked_13 rfl rfl <| o_aload_n (pc := 14) 0 dX7_looked_14 rfl rfl <| o_getI (pc := 15) (ci := 7) (j := 44) (nn := 0) dX7_looked_15 (hF.1 _ _ rfl) rfl (Nat.le_of_ble_eq_true rfl) k_927 rfl <| ?_
    refine o_icmp_ge (pc := 18) (tgt := 69) dX7_looked_18 rfl (fun h1 => ?_) (fun h1 => ?_)
    · exact hk0_0 m v1 v2
    · refine o_aload_n (pc := 21) 0 dX7_looked_21 rfl rfl <| o_getI (pc := 22) (ci := 7) (j := 0) (nn := 0) dX7_looked_22 (hF.1 _ _ rfl) rfl (Nat.le_of_ble_eq_true rfl) k_883 rfl <| ?_
      refine o_if_le (pc := 25) (tgt := 69) dX7_looked_25 rfl (fun h2 => ?_) (fun h2 => ?_)
      · exact hk0_0 m v1 v2
      · refine o_iload_n (pc := 28) 1 dX7_looked_28 rfl rfl <| ?_
        refine o_if_ge (pc := 29) (tgt := 69) dX7_looked_29 rfl (fun h3 => ?_) (fun h3 => ?_)
        · exact hk0_0 m v1 v2
        · refine o_aload_n (pc := 32) 0 dX7_looked_32 rfl rfl <| o_aload_n (pc := 33) 0 dX7_looked_33 rfl rfl <| o_getRc (pc := 34) (a := 85) (ci := 7) (j := 45) (nn := 0) dX7_looked_34 (hF.1 _ _ rfl) rfl (Nat.le_of_ble_eq_true rfl) k_928 rfl (hF.2 _ _ _ rfl) <| o_iload_n (pc := 37) 2 dX7_looked_37 rfl rfl <| ?_
          refine S_ck fun h4 => ?_
          refine o_iald (pc := 38) (nn := 8) dX7_looked_38 (hF.1 _ _ rfl) (ck_in h4) <| ?_
          refine o_callVI (Y2 := YX7_goDraw) (pc := 39) (av := [.int (m.1 85 v2.toNatClampNeg)]) (rest := []) dX7_looked_39 k_1240 cm_X7_goDraw (sM_goDraw hF m (m.1 85 v2.toNatClampNeg)) (hF.1 _ _ rfl) rfl rfl (Nat.le_of_ble_eq_true rfl) (Nat.le_of_ble_eq_true rfl) fun r5 => ?_
          refine o_if_eq (pc := 42) (tgt := 49) dX7_looked_42 rfl (fun h6 => ?_) (fun h6 => ?_)
          · refine o_bipush (pc := 49) dX7_looked_49 lb_m5 <| o_istore_n (pc := 51) (ls' := [(1, .int (-5)), (0, .ref 61), (2, .int v2)]) dX7_looked_51 rfl (Nat.le_of_ble_eq_true rfl) rfl <| o_aload_n (pc := 52) 1 dX7_looked_52 rfl rfl <| ?_
            refine o_callVI (Y2 := YX7_isEnd) (pc := 53) (av := []) (rest := []) dX7_looked_53 k_1244 cm_X7_isEnd (sM_isEnd hF r5.2 ) (hF.1 _ _ rfl) rfl rfl (Nat.le_of_ble_eq_true rfl) (Nat.le_of_ble_eq_true rfl) fun r7 => ?_
            refine o_if_eq (pc := 56) (tgt := 63) dX7_looked_56 rfl (fun h8 => ?_) (fun h8 => ?_)
            · refine o_iinc (pc := 63) 2 (v := v2 + 1) (ls' := [(2, .int (v2 + 1)), (1, .int (-5)), (0, .ref 61)]) dX7_looked_63 rfl rfl (Nat.le_of_ble_eq_true rfl) rfl <| ?_
              refine o_ltL (ls := fun x9 => [(2, .int x9), (1, .int (-5)), (0, .ref 61)]) fun x9 => ?_
              refine o_goto (pc := 66) (tgt := 13) dX7_looked_66 rfl <| ?_
              refine o_sub [2, 1, 0] (ls' := [(0, .ref 61), (1, .int (-5)), (2, .int x9)]) rfl ?_
              exact ih0 r7.2 (-5) x9
            · refine o_aload_n (pc := 59) 1 dX7_looked_59 rfl rfl <| ?_
              refine o_callVV (Y2 := YX7_layFist) (pc := 60) (av := []) (rest := []) dX7_looked_60 k_859 cm_X7_layFist (sM_layFist hF r7.2 ) (hF.1 _ _ rfl) rfl rfl (Nat.le_of_ble_eq_true rfl) (Nat.le_of_ble_eq_true rfl) fun r10 => ?_
              refine o_iinc (pc := 63) 2 (v := v2 + 1) (ls' := [(2, .int (v2 + 1)), (1, .int (-5)), (0, .ref 61)]) dX7_looked_63 rfl rfl (Nat.le_of_ble_eq_true rfl) rfl <| ?_
              refine o_ltL (ls := fun x11 => [(2, .int x11), (1, .int (-5)), (0, .ref 61)]) fun x11 => ?_
              refine o_goto (pc := 66) (tgt := 13) dX7_looked_66 rfl <| ?_
              refine o_sub [2, 1, 0] (ls' := [(0, .ref 61), (1, .int (-5)), (2, .int x11)]) rfl ?_
              exact ih0 r10 (-5) x11
          · refine o_iload_n (pc := 45) 2 dX7_looked_45 rfl rfl <| o_goto (pc := 46) (tgt := 51) dX7_looked_46 rfl <| o_istore_n (pc := 51) (ls' := [(1, .int v2), (0, .ref 61), (2, .int v2)]) dX7_looked_51 rfl (Nat.le_of_ble_eq_true rfl) rfl <| o_aload_n (pc := 52) 1 dX7_looked_52 rfl rfl <| ?_
            refine o_callVI (Y2 := YX7_isEnd) (pc := 53) (av := []) (rest := []) dX7_looked_53 k_1244 cm_X7_isEnd (sM_isEnd hF r5.2 ) (hF.1 _ _ rfl) rfl rfl (Nat.le_of_ble_eq_true rfl) (Nat.le_of_ble_eq_true rfl) fun r12 => ?_
            refine o_if_eq (pc := 56) (tgt := 63) dX7_looked_56 rfl (fun h13 => ?_) (fun h13 => ?_)
            · refine o_iinc (pc := 63) 2 (v := v2 + 1) (ls' := [(2, .int (v2 + 1)), (1, .int v2), (0, .ref 61)]) dX7_looked_63 rfl rfl (Nat.le_of_ble_eq_true rfl) rfl <| ?_
              refine o_ltL (ls := fun x14 => [(2, .int x14), (1, .int v2), (0, .ref 61)]) fun x14 => ?_
              refine o_goto (pc := 66) (tgt := 13) dX7_looked_66 rfl <| ?_
              refine o_sub [2, 1, 0] (ls' := [(0, .ref 61), (1, .int v2), (2, .int x14)]) rfl ?_
              exact ih0 r12.2 v2 x14
            · refine o_aload_n (pc := 59) 1 dX7_looked_59 rfl rfl <| ?_
              refine o_callVV (Y2 := YX7_layFist) (pc := 60) (av := []) (rest := []) dX7_looked_60 k_859 cm_X7_layFist (sM_layFist hF r12.2 ) (hF.1 _ _ rfl) rfl rfl (Nat.le_of_ble_eq_true rfl) (Nat.le_of_ble_eq_true rfl) fun r15 => ?_
              refine o_iinc (pc := 63) 2 (v := v2 + 1) (ls' := [(2, .int (v2 + 1)), (1, .int v2), (0, .ref 61)]) dX7_looked_63 rfl rfl (Nat.le_of_ble_eq_true rfl) rfl <| ?_
              refine o_ltL (ls := fun x16 => [(2, .int x16), (1, .int v2), (0, .ref 61)]) fun x16 => ?_
              refine o_goto (pc := 66) (tgt := 13) dX7_looked_66 rfl <| ?_
              refine o_sub [2, 1, 0] (ls' := [(0, .ref 61), (1, .int v2), (2, .int x16)]) rfl ?_
              exact ih0 r15 v2 x16
def fM_looked (m : MI) : Option (Int32 × MI) :=
  (fM_save m).bind fun r1 =>
  (fM_layFist r1).bind fun r2 =>
  fM_looked_l13 
    (fun m5 z3 z4 =>
      (fM_putBack m5).bind fun r6 =>
      some (z3, r6)
      )
    1000 r2 (-5) 0
theorem sM_looked {sh : Sh} {R : RR} (hF : Fx sh R) (m : MI) : KS (eI sh R) false 7 0 0 YX7_looked sh R m [.ref 61] (fM_looked m ) := by
  refine KS_of pn_X7 (fun _ => Nat.le_of_ble_eq_true rfl) ?_
  change S _ _ _ _ _ _ _ _ _ _ [(0, .ref 61)] [] _
  unfold fM_looked
  refine o_aload_n (pc := 0) 0 dX7_looked_0 rfl rfl <| ?_
  refine o_callVV (Y2 := YX7_save) (pc := 1) (av := []) (rest := []) dX7_looked_1 k_1340 cm_X7_save (sM_save hF m ) (hF.1 _ _ rfl) rfl rfl (Nat.le_of_ble_eq_true rfl) (Nat.le_of_ble_eq_true rfl) fun r1 => ?_
  refine o_aload_n (pc := 4) 0 dX7_looked_4 rfl rfl <| ?_
  refine o_callVV (Y2 := YX7_layFist) (pc := 5) (av := []) (rest := []) dX7_looked_5 k_859 cm_X7_layFist (sM_layFist hF r1 ) (hF.1 _ _ rfl) rfl rfl (Nat.le_of_ble_eq_true rfl) (Nat.le_of_ble_eq_true rfl) fun r2 => ?_
  refine o_bipush (pc := 8) dX7_looked_8 lb_m5 <| o_istore_n (pc := 10) (ls' := [(1, .int (-5)), (0, .ref 61)]) dX7_looked_10 rfl (Nat.le_of_ble_eq_true rfl) rfl <| o_iconst (pc := 11) dX7_looked_11 lc_0 <| o_istore_n (pc := 12) (ls' := [(2, .int 0), (1, .int (-5)), (0, .ref 61)]) dX7_looked_12 rfl (Nat.le_of_ble_eq_true rfl) rfl <| ?_
  refine o_sub [2, 1, 0] (ls' := [(0, .ref 61), (1, .int (-5)), (2, .int 0)]) rfl ?_
  refine sM_looked_l13 hF  _ ?_ 1000 r2 (-5) 0
  · intro m5 z3 z4
    refine o_aload_n (pc := 69) 0 dX7_looked_69 rfl rfl <| ?_
    refine o_callVV (Y2 := YX7_putBack) (pc := 70) (av := []) (rest := []) dX7_looked_70 k_1344 cm_X7_putBack (sM_putBack hF m5 ) (hF.1 _ _ rfl) rfl rfl (Nat.le_of_ble_eq_true rfl) (Nat.le_of_ble_eq_true rfl) fun r6 => ?_
    refine o_iload_n (pc := 73) 1 dX7_looked_73 rfl rfl <| ?_
    exact o_iret (pc := 74) dX7_looked_74 rfl rfl
def fM_isTape (m : MI) (a : Int32) : Option (Int32 × MI) :=
  (fM_in m a 0 5).bind fun r1 =>
  if zb r1.1 = true then some (r1.1, r1.2) else none
theorem sM_isTape {sh : Sh} {R : RR} (hF : Fx sh R) (m : MI) (a : Int32) : KS (eI sh R) false 1 0 0 YX7_isTape sh R m [.ref 61, .int a] (fM_isTape m a) := by
  refine KS_of pn_X7 (fun _ => Nat.le_of_ble_eq_true rfl) ?_
  change S _ _ _ _ _ _ _ _ _ _ [(0, .ref 61), (1, .int a)] [] _
  unfold fM_isTape
  refine o_aload_n (pc := 0) 0 dX7_isTape_0 rfl rfl <| o_iload_n (pc := 1) 1 dX7_isTape_1 rfl rfl <| o_iconst (pc := 2) dX7_isTape_2 lc_0 <| o_iconst (pc := 3) dX7_isTape_3 lc_5 <| ?_
  refine o_callVI (Y2 := YX7_in) (pc := 4) (av := [.int a, .int 0, .int 5]) (rest := []) dX7_isTape_4 k_1096 cm_X7_in (sM_in hF m a 0 5) (hF.1 _ _ rfl) rfl rfl (Nat.le_of_ble_eq_true rfl) (Nat.le_of_ble_eq_true rfl) fun r1 => ?_
  refine S_ck fun h2 => ?_
  exact o_zret (pc := 7) dX7_isTape_7 rfl (zb_ok h2) rfl
def fM_judge_l34 (u1 : Int32) (u2 : Int32) (k0_0 : MI → Int32 → Option (Int32 × MI)) : Nat → MI → Int32 → Option (Int32 × MI)
  | 0, _, _ => none
  | n0 + 1, m, v3 =>
    if m.1 61 0 ≤ v3 then
      k0_0 m v3
    else
      if ck u1 6 = true then
        if m.1 95 u1.toNatClampNeg < 0 then
          some ((100 : Int32) + v3, m)
        else
          if u2 < 0 then
            some ((100 : Int32) + v3, m)
          else
            if ck u1 6 = true then
              if u2 ≤ ((m.1 96 u1.toNatClampNeg) - v3) - 1 then
                if ck ((((60 : Int32) * u1) + u2) + v3) 360 = true then
                  if ck v3 6 = true then
                    if lg_cmp (m.2 97 ((((60 : Int32) * u1) + u2) + v3).toNatClampNeg) ((m.1 64 v3.toNatClampNeg).toInt64) = 0 then
                      lt (v3 + 1) fun x10 =>
                      fM_judge_l34 u1 u2 k0_0 n0 m x10
                    else
                      some (v3, m)
                  else none
                else none
              else
                some ((100 : Int32) + v3, m)
            else none
      else none
theorem sM_judge_l34 {sh : Sh} {R : RR} (hF : Fx sh R) (u1 : Int32) (u2 : Int32) (k0_0 : MI → Int32 → Option (Int32 × MI)) (hk0_0 : ∀ (m : MI) (v3 : Int32) , S (eI sh R) false 2 0 0 YX7_judge sh R m 106 [(0, .ref 61), (1, .int u1), (2, .int u2), (3, .int v3)] [] (k0_0 m v3)) : ∀ (n : Nat) (m : MI) (v3 : Int32) , S (eI sh R) false 2 0 0 YX7_judge sh R m 34 [(0, .ref 61), (1, .int u1), (2, .int u2), (3, .int v3)] [] (fM_judge_l34 u1 u2 k0_0 n m v3) := by
  intro n
  induction n with
  | zero => intros; exact S_none
  | succ n0 ih0 =>
    intro m v3
    rw [fM_judge_l34]
    refine o_iload_n (pc := 34) 3 dX7_judge_34 rfl rfl <| o_aload_n (pc := 35) 0 dX7_judge_35 rfl rfl <| o_getI (pc := 36) (ci := 7) (j := 0) (nn := 0) dX7_judge_36 (hF.1 _ _ rfl) rfl (Nat.le_of_ble_eq_true rfl) k_883 rfl <| ?_
    refine o_icmp_ge (pc := 39) (tgt := 106) dX7_judge_39 rfl (fun h1 => ?_) (fun h1 => ?_)
    · exact hk0_0 m v3
    · refine o_aload_n (pc := 42) 0 dX7_judge_42 rfl rfl <| o_getRc (pc := 43) (a := 95) (ci := 7) (j := 65) (nn := 0) dX7_judge_43 (hF.1 _ _ rfl) rfl (Nat.le_of_ble_eq_true rfl) k_948 rfl (hF.2 _ _ _ rfl) <| o_iload_n (pc := 46) 1 dX7_judge_46 rfl rfl <| ?_
      refine S_ck fun h2 => ?_
      refine o_iald (pc := 47) (nn := 6) dX7_judge_47 (hF.1 _ _ rfl) (ck_in h2) <| ?_
      refine o_if_lt (pc := 48) (tgt := 69) dX7_judge_48 rfl (fun h3 => ?_) (fun h3 => ?_)
      · refine o_bipush (pc := 69) dX7_judge_69 lb_100 <| o_iload_n (pc := 71) 3 dX7_judge_71 rfl rfl <| o_iadd (pc := 72) dX7_judge_72 <| ?_
        exact o_iret (pc := 73) dX7_judge_73 rfl rfl
      · refine o_iload_n (pc := 51) 2 dX7_judge_51 rfl rfl <| ?_
        refine o_if_lt (pc := 52) (tgt := 69) dX7_judge_52 rfl (fun h4 => ?_) (fun h4 => ?_)
        · refine o_bipush (pc := 69) dX7_judge_69 lb_100 <| o_iload_n (pc := 71) 3 dX7_judge_71 rfl rfl <| o_iadd (pc := 72) dX7_judge_72 <| ?_
          exact o_iret (pc := 73) dX7_judge_73 rfl rfl
        · refine o_iload_n (pc := 55) 2 dX7_judge_55 rfl rfl <| o_aload_n (pc := 56) 0 dX7_judge_56 rfl rfl <| o_getRc (pc := 57) (a := 96) (ci := 7) (j := 66) (nn := 0) dX7_judge_57 (hF.1 _ _ rfl) rfl (Nat.le_of_ble_eq_true rfl) k_949 rfl (hF.2 _ _ _ rfl) <| o_iload_n (pc := 60) 1 dX7_judge_60 rfl rfl <| ?_
          refine S_ck fun h5 => ?_
          refine o_iald (pc := 61) (nn := 6) dX7_judge_61 (hF.1 _ _ rfl) (ck_in h5) <| o_iload_n (pc := 62) 3 dX7_judge_62 rfl rfl <| o_isub (pc := 63) dX7_judge_63 <| o_iconst (pc := 64) dX7_judge_64 lc_1 <| o_isub (pc := 65) dX7_judge_65 <| ?_
          refine o_icmp_le (pc := 66) (tgt := 74) dX7_judge_66 rfl (fun h6 => ?_) (fun h6 => ?_)
          · refine o_aload_n (pc := 74) 0 dX7_judge_74 rfl rfl <| o_getRc (pc := 75) (a := 97) (ci := 7) (j := 67) (nn := 0) dX7_judge_75 (hF.1 _ _ rfl) rfl (Nat.le_of_ble_eq_true rfl) k_950 rfl (hF.2 _ _ _ rfl) <| o_bipush (pc := 78) dX7_judge_78 lb_60 <| o_iload_n (pc := 80) 1 dX7_judge_80 rfl rfl <| o_imul (pc := 81) dX7_judge_81 <| o_iload_n (pc := 82) 2 dX7_judge_82 rfl rfl <| o_iadd (pc := 83) dX7_judge_83 <| o_iload_n (pc := 84) 3 dX7_judge_84 rfl rfl <| o_iadd (pc := 85) dX7_judge_85 <| ?_
            refine S_ck fun h7 => ?_
            refine o_lald (pc := 86) (nn := 360) dX7_judge_86 (hF.1 _ _ rfl) (ck_in h7) <| o_aload_n (pc := 87) 0 dX7_judge_87 rfl rfl <| o_getRc (pc := 88) (a := 64) (ci := 7) (j := 7) (nn := 0) dX7_judge_88 (hF.1 _ _ rfl) rfl (Nat.le_of_ble_eq_true rfl) k_890 rfl (hF.2 _ _ _ rfl) <| o_iload_n (pc := 91) 3 dX7_judge_91 rfl rfl <| ?_
            refine S_ck fun h8 => ?_
            refine o_iald (pc := 92) (nn := 6) dX7_judge_92 (hF.1 _ _ rfl) (ck_in h8) <| o_i2l (pc := 93) dX7_judge_93 <| o_lcmp (pc := 94) dX7_judge_94 <| ?_
            refine o_if_eq (pc := 95) (tgt := 100) dX7_judge_95 rfl (fun h9 => ?_) (fun h9 => ?_)
            · refine o_iinc (pc := 100) 3 (v := v3 + 1) (ls' := [(3, .int (v3 + 1)), (0, .ref 61), (1, .int u1), (2, .int u2)]) dX7_judge_100 rfl rfl (Nat.le_of_ble_eq_true rfl) rfl <| ?_
              refine o_ltL (ls := fun x10 => [(3, .int x10), (0, .ref 61), (1, .int u1), (2, .int u2)]) fun x10 => ?_
              refine o_goto (pc := 103) (tgt := 34) dX7_judge_103 rfl <| ?_
              refine o_sub [1, 2, 3, 0] (ls' := [(0, .ref 61), (1, .int u1), (2, .int u2), (3, .int x10)]) rfl ?_
              exact ih0 m x10
            · refine o_iload_n (pc := 98) 3 dX7_judge_98 rfl rfl <| ?_
              exact o_iret (pc := 99) dX7_judge_99 rfl rfl
          · refine o_bipush (pc := 69) dX7_judge_69 lb_100 <| o_iload_n (pc := 71) 3 dX7_judge_71 rfl rfl <| o_iadd (pc := 72) dX7_judge_72 <| ?_
            exact o_iret (pc := 73) dX7_judge_73 rfl rfl
def fM_judge (m : MI) (a : Int32) (b : Int32) : Option (Int32 × MI) :=
  (fM_isTape m a).bind fun r1 =>
  if r1.1 = 0 then
    some (-1, r1.2)
  else
    if ck a 6 = true then
      if r1.2.1 95 a.toNatClampNeg < 0 then
        fM_judge_l34 a b
          (fun m6 z5 =>
            some (-5, m6)
            )
          1000 r1.2 0
      else
        if ck a 6 = true then
          if r1.2.1 95 a.toNatClampNeg = 2 then
            fM_judge_l34 a b
              (fun m10 z9 =>
                some (-5, m10)
                )
              1000 r1.2 0
          else
            some (-12, r1.2)
        else none
    else none
theorem sM_judge {sh : Sh} {R : RR} (hF : Fx sh R) (m : MI) (a : Int32) (b : Int32) : KS (eI sh R) false 2 0 0 YX7_judge sh R m [.ref 61, .int a, .int b] (fM_judge m a b) := by
  refine KS_of pn_X7 (fun _ => Nat.le_of_ble_eq_true rfl) ?_
  change S _ _ _ _ _ _ _ _ _ _ [(0, .ref 61), (1, .int a), (2, .int b)] [] _
  unfold fM_judge
  refine o_aload_n (pc := 0) 0 dX7_judge_0 rfl rfl <| o_iload_n (pc := 1) 1 dX7_judge_1 rfl rfl <| ?_
  refine o_callVI (Y2 := YX7_isTape) (pc := 2) (av := [.int a]) (rest := []) dX7_judge_2 k_1368 cm_X7_isTape (sM_isTape hF m a) (hF.1 _ _ rfl) rfl rfl (Nat.le_of_ble_eq_true rfl) (Nat.le_of_ble_eq_true rfl) fun r1 => ?_
  refine o_if_ne (pc := 5) (tgt := 10) dX7_judge_5 rfl (fun h2 => ?_) (fun h2 => ?_)
  · refine o_iconst (pc := 8) dX7_judge_8 lc_m1 <| ?_
    exact o_iret (pc := 9) dX7_judge_9 rfl rfl
  · refine o_aload_n (pc := 10) 0 dX7_judge_10 rfl rfl <| o_getRc (pc := 11) (a := 95) (ci := 7) (j := 65) (nn := 0) dX7_judge_11 (hF.1 _ _ rfl) rfl (Nat.le_of_ble_eq_true rfl) k_948 rfl (hF.2 _ _ _ rfl) <| o_iload_n (pc := 14) 1 dX7_judge_14 rfl rfl <| ?_
    refine S_ck fun h3 => ?_
    refine o_iald (pc := 15) (nn := 6) dX7_judge_15 (hF.1 _ _ rfl) (ck_in h3) <| ?_
    refine o_if_lt (pc := 16) (tgt := 32) dX7_judge_16 rfl (fun h4 => ?_) (fun h4 => ?_)
    · refine o_iconst (pc := 32) dX7_judge_32 lc_0 <| o_istore_n (pc := 33) (ls' := [(3, .int 0), (0, .ref 61), (1, .int a), (2, .int b)]) dX7_judge_33 rfl (Nat.le_of_ble_eq_true rfl) rfl <| ?_
      refine o_sub [1, 2, 3, 0] (ls' := [(0, .ref 61), (1, .int a), (2, .int b), (3, .int 0)]) rfl ?_
      refine sM_judge_l34 hF a b _ ?_ 1000 r1.2 0
      · intro m6 z5
        refine o_bipush (pc := 106) dX7_judge_106 lb_m5 <| ?_
        exact o_iret (pc := 108) dX7_judge_108 rfl rfl
    · refine o_aload_n (pc := 19) 0 dX7_judge_19 rfl rfl <| o_getRc (pc := 20) (a := 95) (ci := 7) (j := 65) (nn := 0) dX7_judge_20 (hF.1 _ _ rfl) rfl (Nat.le_of_ble_eq_true rfl) k_948 rfl (hF.2 _ _ _ rfl) <| o_iload_n (pc := 23) 1 dX7_judge_23 rfl rfl <| ?_
      refine S_ck fun h7 => ?_
      refine o_iald (pc := 24) (nn := 6) dX7_judge_24 (hF.1 _ _ rfl) (ck_in h7) <| o_iconst (pc := 25) dX7_judge_25 lc_2 <| ?_
      refine o_icmp_eq (pc := 26) (tgt := 32) dX7_judge_26 rfl (fun h8 => ?_) (fun h8 => ?_)
      · refine o_iconst (pc := 32) dX7_judge_32 lc_0 <| o_istore_n (pc := 33) (ls' := [(3, .int 0), (0, .ref 61), (1, .int a), (2, .int b)]) dX7_judge_33 rfl (Nat.le_of_ble_eq_true rfl) rfl <| ?_
        refine o_sub [1, 2, 3, 0] (ls' := [(0, .ref 61), (1, .int a), (2, .int b), (3, .int 0)]) rfl ?_
        refine sM_judge_l34 hF a b _ ?_ 1000 r1.2 0
        · intro m10 z9
          refine o_bipush (pc := 106) dX7_judge_106 lb_m5 <| ?_
          exact o_iret (pc := 108) dX7_judge_108 rfl rfl
      · refine o_bipush (pc := 29) dX7_judge_29 lb_m12 <| ?_
        exact o_iret (pc := 31) dX7_judge_31 rfl rfl
def fM_image_l71 (k0_0 : MI → Int32 → Option (Int32 × MI)) : Nat → MI → Int32 → Option (Int32 × MI)
  | 0, _, _ => none
  | n0 + 1, m, v1 =>
    if 6 ≤ v1 then
      k0_0 m v1
    else
      if ck v1 6 = true then
        if ck v1 6 = true then
          lm (mI m 86 (upd (m.1 86) v1.toNatClampNeg (m.1 62 v1.toNatClampNeg))) fun m4 =>
          if ck v1 6 = true then
            if ck v1 6 = true then
              lm (mI m4 87 (upd (m4.1 87) v1.toNatClampNeg (m4.1 63 v1.toNatClampNeg))) fun m7 =>
              if ck v1 6 = true then
                if ck v1 6 = true then
                  lm (mI m7 88 (upd (m7.1 88) v1.toNatClampNeg (m7.1 64 v1.toNatClampNeg))) fun m10 =>
                  if ck v1 6 = true then
                    if ck v1 6 = true then
                      lm (mI m10 89 (upd (m10.1 89) v1.toNatClampNeg (m10.1 66 v1.toNatClampNeg))) fun m13 =>
                      if ck v1 6 = true then
                        if ck v1 6 = true then
                          lm (mI m13 91 (upd (m13.1 91) v1.toNatClampNeg (m13.1 83 v1.toNatClampNeg))) fun m16 =>
                          if ck v1 6 = true then
                            if ck v1 6 = true then
                              lm (mI m16 93 (upd (m16.1 93) v1.toNatClampNeg (vp_nar .boolean (m16.1 84 v1.toNatClampNeg)))) fun m19 =>
                              lt (v1 + 1) fun x20 =>
                              fM_image_l71 k0_0 n0 m19 x20
                            else none
                          else none
                        else none
                      else none
                    else none
                  else none
                else none
              else none
            else none
          else none
        else none
      else none
theorem sM_image_l71 {sh : Sh} {R : RR} (hF : Fx sh R) (k0_0 : MI → Int32 → Option (Int32 × MI)) (hk0_0 : ∀ (m : MI) (v1 : Int32) , S (eI sh R) false 0 0 0 YX7_image sh R m 155 [(0, .ref 61), (1, .int v1)] [] (k0_0 m v1)) : ∀ (n : Nat) (m : MI) (v1 : Int32) , S (eI sh R) false 0 0 0 YX7_image sh R m 71 [(0, .ref 61), (1, .int v1)] [] (fM_image_l71 k0_0 n m v1) := by
  intro n
  induction n with
  | zero => intros; exact S_none
  | succ n0 ih0 =>
    intro m v1
    rw [fM_image_l71]
    refine o_iload_n (pc := 71) 1 dX7_image_71 rfl rfl <| o_bipush (pc := 72) dX7_image_72 lb_6 <| ?_
    refine o_icmp_ge (pc := 74) (tgt := 155) dX7_image_74 rfl (fun h1 => ?_) (fun h1 => ?_)
    · exact hk0_0 m v1
    · refine o_aload_n (pc := 77) 0 dX7_image_77 rfl rfl <| o_getRc (pc := 78) (a := 86) (ci := 7) (j := 55) (nn := 0) dX7_image_78 (hF.1 _ _ rfl) rfl (Nat.le_of_ble_eq_true rfl) k_938 rfl (hF.2 _ _ _ rfl) <| o_iload_n (pc := 81) 1 dX7_image_81 rfl rfl <| o_aload_n (pc := 82) 0 dX7_image_82 rfl rfl <| o_getRc (pc := 83) (a := 62) (ci := 7) (j := 5) (nn := 0) dX7_image_83 (hF.1 _ _ rfl) rfl (Nat.le_of_ble_eq_true rfl) k_888 rfl (hF.2 _ _ _ rfl) <| o_iload_n (pc := 86) 1 dX7_image_86 rfl rfl <| ?_
      refine S_ck fun h2 => ?_
      refine o_iald (pc := 87) (nn := 6) dX7_image_87 (hF.1 _ _ rfl) (ck_in h2) <| ?_
      refine S_ck fun h3 => ?_
      refine o_iast (pc := 88) (nn := 6) dX7_image_88 (hF.1 _ _ rfl) (ck_in h3) <| ?_
      refine o_lm fun m4 => ?_
      refine o_aload_n (pc := 89) 0 dX7_image_89 rfl rfl <| o_getRc (pc := 90) (a := 87) (ci := 7) (j := 56) (nn := 0) dX7_image_90 (hF.1 _ _ rfl) rfl (Nat.le_of_ble_eq_true rfl) k_939 rfl (hF.2 _ _ _ rfl) <| o_iload_n (pc := 93) 1 dX7_image_93 rfl rfl <| o_aload_n (pc := 94) 0 dX7_image_94 rfl rfl <| o_getRc (pc := 95) (a := 63) (ci := 7) (j := 6) (nn := 0) dX7_image_95 (hF.1 _ _ rfl) rfl (Nat.le_of_ble_eq_true rfl) k_889 rfl (hF.2 _ _ _ rfl) <| o_iload_n (pc := 98) 1 dX7_image_98 rfl rfl <| ?_
      refine S_ck fun h5 => ?_
      refine o_iald (pc := 99) (nn := 6) dX7_image_99 (hF.1 _ _ rfl) (ck_in h5) <| ?_
      refine S_ck fun h6 => ?_
      refine o_iast (pc := 100) (nn := 6) dX7_image_100 (hF.1 _ _ rfl) (ck_in h6) <| ?_
      refine o_lm fun m7 => ?_
      refine o_aload_n (pc := 101) 0 dX7_image_101 rfl rfl <| o_getRc (pc := 102) (a := 88) (ci := 7) (j := 57) (nn := 0) dX7_image_102 (hF.1 _ _ rfl) rfl (Nat.le_of_ble_eq_true rfl) k_940 rfl (hF.2 _ _ _ rfl) <| o_iload_n (pc := 105) 1 dX7_image_105 rfl rfl <| o_aload_n (pc := 106) 0 dX7_image_106 rfl rfl <| o_getRc (pc := 107) (a := 64) (ci := 7) (j := 7) (nn := 0) dX7_image_107 (hF.1 _ _ rfl) rfl (Nat.le_of_ble_eq_true rfl) k_890 rfl (hF.2 _ _ _ rfl) <| o_iload_n (pc := 110) 1 dX7_image_110 rfl rfl <| ?_
      refine S_ck fun h8 => ?_
      refine o_iald (pc := 111) (nn := 6) dX7_image_111 (hF.1 _ _ rfl) (ck_in h8) <| ?_
      refine S_ck fun h9 => ?_
      refine o_iast (pc := 112) (nn := 6) dX7_image_112 (hF.1 _ _ rfl) (ck_in h9) <| ?_
      refine o_lm fun m10 => ?_
      refine o_aload_n (pc := 113) 0 dX7_image_113 rfl rfl <| o_getRc (pc := 114) (a := 89) (ci := 7) (j := 58) (nn := 0) dX7_image_114 (hF.1 _ _ rfl) rfl (Nat.le_of_ble_eq_true rfl) k_941 rfl (hF.2 _ _ _ rfl) <| o_iload_n (pc := 117) 1 dX7_image_117 rfl rfl <| o_aload_n (pc := 118) 0 dX7_image_118 rfl rfl <| o_getRc (pc := 119) (a := 66) (ci := 7) (j := 9) (nn := 0) dX7_image_119 (hF.1 _ _ rfl) rfl (Nat.le_of_ble_eq_true rfl) k_892 rfl (hF.2 _ _ _ rfl) <| o_iload_n (pc := 122) 1 dX7_image_122 rfl rfl <| ?_
      refine S_ck fun h11 => ?_
      refine o_iald (pc := 123) (nn := 6) dX7_image_123 (hF.1 _ _ rfl) (ck_in h11) <| ?_
      refine S_ck fun h12 => ?_
      refine o_iast (pc := 124) (nn := 6) dX7_image_124 (hF.1 _ _ rfl) (ck_in h12) <| ?_
      refine o_lm fun m13 => ?_
      refine o_aload_n (pc := 125) 0 dX7_image_125 rfl rfl <| o_getRc (pc := 126) (a := 91) (ci := 7) (j := 60) (nn := 0) dX7_image_126 (hF.1 _ _ rfl) rfl (Nat.le_of_ble_eq_true rfl) k_943 rfl (hF.2 _ _ _ rfl) <| o_iload_n (pc := 129) 1 dX7_image_129 rfl rfl <| o_aload_n (pc := 130) 0 dX7_image_130 rfl rfl <| o_getRc (pc := 131) (a := 83) (ci := 7) (j := 42) (nn := 0) dX7_image_131 (hF.1 _ _ rfl) rfl (Nat.le_of_ble_eq_true rfl) k_925 rfl (hF.2 _ _ _ rfl) <| o_iload_n (pc := 134) 1 dX7_image_134 rfl rfl <| ?_
      refine S_ck fun h14 => ?_
      refine o_iald (pc := 135) (nn := 6) dX7_image_135 (hF.1 _ _ rfl) (ck_in h14) <| ?_
      refine S_ck fun h15 => ?_
      refine o_iast (pc := 136) (nn := 6) dX7_image_136 (hF.1 _ _ rfl) (ck_in h15) <| ?_
      refine o_lm fun m16 => ?_
      refine o_aload_n (pc := 137) 0 dX7_image_137 rfl rfl <| o_getRc (pc := 138) (a := 93) (ci := 7) (j := 62) (nn := 0) dX7_image_138 (hF.1 _ _ rfl) rfl (Nat.le_of_ble_eq_true rfl) k_945 rfl (hF.2 _ _ _ rfl) <| o_iload_n (pc := 141) 1 dX7_image_141 rfl rfl <| o_aload_n (pc := 142) 0 dX7_image_142 rfl rfl <| o_getRc (pc := 143) (a := 84) (ci := 7) (j := 43) (nn := 0) dX7_image_143 (hF.1 _ _ rfl) rfl (Nat.le_of_ble_eq_true rfl) k_926 rfl (hF.2 _ _ _ rfl) <| o_iload_n (pc := 146) 1 dX7_image_146 rfl rfl <| ?_
      refine S_ck fun h17 => ?_
      refine o_zald (pc := 147) (nn := 6) dX7_image_147 (hF.1 _ _ rfl) (ck_in h17) <| ?_
      refine S_ck fun h18 => ?_
      refine o_zast (pc := 148) (nn := 6) dX7_image_148 (hF.1 _ _ rfl) (ck_in h18) <| ?_
      refine o_lm fun m19 => ?_
      refine o_iinc (pc := 149) 1 (v := v1 + 1) (ls' := [(1, .int (v1 + 1)), (0, .ref 61)]) dX7_image_149 rfl rfl (Nat.le_of_ble_eq_true rfl) rfl <| ?_
      refine o_ltL (ls := fun x20 => [(1, .int x20), (0, .ref 61)]) fun x20 => ?_
      refine o_goto (pc := 152) (tgt := 71) dX7_image_152 rfl <| ?_
      refine o_sub [1, 0] (ls' := [(0, .ref 61), (1, .int x20)]) rfl ?_
      exact ih0 m19 x20
def fM_image_l157 (k0_0 : MI → Int32 → Option (Int32 × MI)) : Nat → MI → Int32 → Option (Int32 × MI)
  | 0, _, _ => none
  | n0 + 1, m, v1 =>
    if 24 ≤ v1 then
      k0_0 m v1
    else
      if ck v1 24 = true then
        if ck v1 24 = true then
          lm (mI m 90 (upd (m.1 90) v1.toNatClampNeg (m.1 65 v1.toNatClampNeg))) fun m4 =>
          lt (v1 + 1) fun x5 =>
          fM_image_l157 k0_0 n0 m4 x5
        else none
      else none
theorem sM_image_l157 {sh : Sh} {R : RR} (hF : Fx sh R) (k0_0 : MI → Int32 → Option (Int32 × MI)) (hk0_0 : ∀ (m : MI) (v1 : Int32) , S (eI sh R) false 0 0 0 YX7_image sh R m 181 [(0, .ref 61), (1, .int v1)] [] (k0_0 m v1)) : ∀ (n : Nat) (m : MI) (v1 : Int32) , S (eI sh R) false 0 0 0 YX7_image sh R m 157 [(0, .ref 61), (1, .int v1)] [] (fM_image_l157 k0_0 n m v1) := by
  intro n
  induction n with
  | zero => intros; exact S_none
  | succ n0 ih0 =>
    intro m v1
    rw [fM_image_l157]
    refine o_iload_n (pc := 157) 1 dX7_image_157 rfl rfl <| o_bipush (pc := 158) dX7_image_158 lb_24 <| ?_
    refine o_icmp_ge (pc := 160) (tgt := 181) dX7_image_160 rfl (fun h1 => ?_) (fun h1 => ?_)
    · exact hk0_0 m v1
    · refine o_aload_n (pc := 163) 0 dX7_image_163 rfl rfl <| o_getRc (pc := 164) (a := 90) (ci := 7) (j := 59) (nn := 0) dX7_image_164 (hF.1 _ _ rfl) rfl (Nat.le_of_ble_eq_true rfl) k_942 rfl (hF.2 _ _ _ rfl) <| o_iload_n (pc := 167) 1 dX7_image_167 rfl rfl <| o_aload_n (pc := 168) 0 dX7_image_168 rfl rfl <| o_getRc (pc := 169) (a := 65) (ci := 7) (j := 8) (nn := 0) dX7_image_169 (hF.1 _ _ rfl) rfl (Nat.le_of_ble_eq_true rfl) k_891 rfl (hF.2 _ _ _ rfl) <| o_iload_n (pc := 172) 1 dX7_image_172 rfl rfl <| ?_
      refine S_ck fun h2 => ?_
      refine o_iald (pc := 173) (nn := 24) dX7_image_173 (hF.1 _ _ rfl) (ck_in h2) <| ?_
      refine S_ck fun h3 => ?_
      refine o_iast (pc := 174) (nn := 24) dX7_image_174 (hF.1 _ _ rfl) (ck_in h3) <| ?_
      refine o_lm fun m4 => ?_
      refine o_iinc (pc := 175) 1 (v := v1 + 1) (ls' := [(1, .int (v1 + 1)), (0, .ref 61)]) dX7_image_175 rfl rfl (Nat.le_of_ble_eq_true rfl) rfl <| ?_
      refine o_ltL (ls := fun x5 => [(1, .int x5), (0, .ref 61)]) fun x5 => ?_
      refine o_goto (pc := 178) (tgt := 157) dX7_image_178 rfl <| ?_
      refine o_sub [1, 0] (ls' := [(0, .ref 61), (1, .int x5)]) rfl ?_
      exact ih0 m4 x5
def fM_image_l183 (k0_0 : MI → Int32 → Option (Int32 × MI)) : Nat → MI → Int32 → Option (Int32 × MI)
  | 0, _, _ => none
  | n0 + 1, m, v1 =>
    if 8 ≤ v1 then
      k0_0 m v1
    else
      if ck v1 8 = true then
        if ck v1 8 = true then
          lm (mI m 92 (upd (m.1 92) v1.toNatClampNeg (m.1 85 v1.toNatClampNeg))) fun m4 =>
          lt (v1 + 1) fun x5 =>
          fM_image_l183 k0_0 n0 m4 x5
        else none
      else none
theorem sM_image_l183 {sh : Sh} {R : RR} (hF : Fx sh R) (k0_0 : MI → Int32 → Option (Int32 × MI)) (hk0_0 : ∀ (m : MI) (v1 : Int32) , S (eI sh R) false 0 0 0 YX7_image sh R m 207 [(0, .ref 61), (1, .int v1)] [] (k0_0 m v1)) : ∀ (n : Nat) (m : MI) (v1 : Int32) , S (eI sh R) false 0 0 0 YX7_image sh R m 183 [(0, .ref 61), (1, .int v1)] [] (fM_image_l183 k0_0 n m v1) := by
  intro n
  induction n with
  | zero => intros; exact S_none
  | succ n0 ih0 =>
    intro m v1
    rw [fM_image_l183]
    refine o_iload_n (pc := 183) 1 dX7_image_183 rfl rfl <| o_bipush (pc := 184) dX7_image_184 lb_8 <| ?_
    refine o_icmp_ge (pc := 186) (tgt := 207) dX7_image_186 rfl (fun h1 => ?_) (fun h1 => ?_)
    · exact hk0_0 m v1
    · refine o_aload_n (pc := 189) 0 dX7_image_189 rfl rfl <| o_getRc (pc := 190) (a := 92) (ci := 7) (j := 61) (nn := 0) dX7_image_190 (hF.1 _ _ rfl) rfl (Nat.le_of_ble_eq_true rfl) k_944 rfl (hF.2 _ _ _ rfl) <| o_iload_n (pc := 193) 1 dX7_image_193 rfl rfl <| o_aload_n (pc := 194) 0 dX7_image_194 rfl rfl <| o_getRc (pc := 195) (a := 85) (ci := 7) (j := 45) (nn := 0) dX7_image_195 (hF.1 _ _ rfl) rfl (Nat.le_of_ble_eq_true rfl) k_928 rfl (hF.2 _ _ _ rfl) <| o_iload_n (pc := 198) 1 dX7_image_198 rfl rfl <| ?_
      refine S_ck fun h2 => ?_
      refine o_iald (pc := 199) (nn := 8) dX7_image_199 (hF.1 _ _ rfl) (ck_in h2) <| ?_
      refine S_ck fun h3 => ?_
      refine o_iast (pc := 200) (nn := 8) dX7_image_200 (hF.1 _ _ rfl) (ck_in h3) <| ?_
      refine o_lm fun m4 => ?_
      refine o_iinc (pc := 201) 1 (v := v1 + 1) (ls' := [(1, .int (v1 + 1)), (0, .ref 61)]) dX7_image_201 rfl rfl (Nat.le_of_ble_eq_true rfl) rfl <| ?_
      refine o_ltL (ls := fun x5 => [(1, .int x5), (0, .ref 61)]) fun x5 => ?_
      refine o_goto (pc := 204) (tgt := 183) dX7_image_204 rfl <| ?_
      refine o_sub [1, 0] (ls' := [(0, .ref 61), (1, .int x5)]) rfl ?_
      exact ih0 m4 x5
def fM_image (m : MI) : Option (Int32 × MI) :=
  lm (mI m 61 (upd (m.1 61) 46 1)) fun m1 =>
  lm (mI m1 61 (upd (m1.1 61) 47 (m1.1 61 11))) fun m2 =>
  lm (mI m2 61 (upd (m2.1 61) 48 (m2.1 61 0))) fun m3 =>
  lm (mI m3 61 (upd (m3.1 61) 49 (m3.1 61 1))) fun m4 =>
  lm (mI m4 61 (upd (m4.1 61) 50 (m4.1 61 2))) fun m5 =>
  lm (mI m5 61 (upd (m5.1 61) 51 (m5.1 61 3))) fun m6 =>
  lm (mI m6 61 (upd (m6.1 61) 52 (m6.1 61 4))) fun m7 =>
  lm (mI m7 61 (upd (m7.1 61) 53 (m7.1 61 41))) fun m8 =>
  lm (mI m8 61 (upd (m8.1 61) 54 (m8.1 61 44))) fun m9 =>
  fM_image_l71 
    (fun m11 z10 =>
      fM_image_l157 
        (fun m13 z12 =>
          fM_image_l183 
            (fun m15 z14 =>
              some (m15.1 61 0, m15)
              )
            1000 m13 0
          )
        1000 m11 0
      )
    1000 m9 0
theorem sM_image {sh : Sh} {R : RR} (hF : Fx sh R) (m : MI) : KS (eI sh R) false 0 0 0 YX7_image sh R m [.ref 61] (fM_image m ) := by
  refine KS_of pn_X7 (fun _ => Nat.le_of_ble_eq_true rfl) ?_
  change S _ _ _ _ _ _ _ _ _ _ [(0, .ref 61)] [] _
  unfold fM_image
  refine o_aload_n (pc := 0) 0 dX7_image_0 rfl rfl <| o_iconst (pc := 1) dX7_image_1 lc_1 <| o_putI (pc := 2) (ci := 7) (j := 46) (nn := 0) dX7_image_2 (hF.1 _ _ rfl) rfl (Nat.le_of_ble_eq_true rfl) k_929 rfl rfl rfl rfl rfl <| ?_
  refine o_lm fun m1 => ?_
  refine o_aload_n (pc := 5) 0 dX7_image_5 rfl rfl <| o_aload_n (pc := 6) 0 dX7_image_6 rfl rfl <| o_getI (pc := 7) (ci := 7) (j := 11) (nn := 0) dX7_image_7 (hF.1 _ _ rfl) rfl (Nat.le_of_ble_eq_true rfl) k_894 rfl <| o_putI (pc := 10) (ci := 7) (j := 47) (nn := 0) dX7_image_10 (hF.1 _ _ rfl) rfl (Nat.le_of_ble_eq_true rfl) k_930 rfl rfl rfl rfl rfl <| ?_
  refine o_lm fun m2 => ?_
  refine o_aload_n (pc := 13) 0 dX7_image_13 rfl rfl <| o_aload_n (pc := 14) 0 dX7_image_14 rfl rfl <| o_getI (pc := 15) (ci := 7) (j := 0) (nn := 0) dX7_image_15 (hF.1 _ _ rfl) rfl (Nat.le_of_ble_eq_true rfl) k_883 rfl <| o_putI (pc := 18) (ci := 7) (j := 48) (nn := 0) dX7_image_18 (hF.1 _ _ rfl) rfl (Nat.le_of_ble_eq_true rfl) k_931 rfl rfl rfl rfl rfl <| ?_
  refine o_lm fun m3 => ?_
  refine o_aload_n (pc := 21) 0 dX7_image_21 rfl rfl <| o_aload_n (pc := 22) 0 dX7_image_22 rfl rfl <| o_getI (pc := 23) (ci := 7) (j := 1) (nn := 0) dX7_image_23 (hF.1 _ _ rfl) rfl (Nat.le_of_ble_eq_true rfl) k_884 rfl <| o_putI (pc := 26) (ci := 7) (j := 49) (nn := 0) dX7_image_26 (hF.1 _ _ rfl) rfl (Nat.le_of_ble_eq_true rfl) k_932 rfl rfl rfl rfl rfl <| ?_
  refine o_lm fun m4 => ?_
  refine o_aload_n (pc := 29) 0 dX7_image_29 rfl rfl <| o_aload_n (pc := 30) 0 dX7_image_30 rfl rfl <| o_getI (pc := 31) (ci := 7) (j := 2) (nn := 0) dX7_image_31 (hF.1 _ _ rfl) rfl (Nat.le_of_ble_eq_true rfl) k_885 rfl <| o_putI (pc := 34) (ci := 7) (j := 50) (nn := 0) dX7_image_34 (hF.1 _ _ rfl) rfl (Nat.le_of_ble_eq_true rfl) k_933 rfl rfl rfl rfl rfl <| ?_
  refine o_lm fun m5 => ?_
  refine o_aload_n (pc := 37) 0 dX7_image_37 rfl rfl <| o_aload_n (pc := 38) 0 dX7_image_38 rfl rfl <| o_getI (pc := 39) (ci := 7) (j := 3) (nn := 0) dX7_image_39 (hF.1 _ _ rfl) rfl (Nat.le_of_ble_eq_true rfl) k_886 rfl <| o_putI (pc := 42) (ci := 7) (j := 51) (nn := 0) dX7_image_42 (hF.1 _ _ rfl) rfl (Nat.le_of_ble_eq_true rfl) k_934 rfl rfl rfl rfl rfl <| ?_
  refine o_lm fun m6 => ?_
  refine o_aload_n (pc := 45) 0 dX7_image_45 rfl rfl <| o_aload_n (pc := 46) 0 dX7_image_46 rfl rfl <| o_getI (pc := 47) (ci := 7) (j := 4) (nn := 0) dX7_image_47 (hF.1 _ _ rfl) rfl (Nat.le_of_ble_eq_true rfl) k_887 rfl <| o_putI (pc := 50) (ci := 7) (j := 52) (nn := 0) dX7_image_50 (hF.1 _ _ rfl) rfl (Nat.le_of_ble_eq_true rfl) k_935 rfl rfl rfl rfl rfl <| ?_
  refine o_lm fun m7 => ?_
  refine o_aload_n (pc := 53) 0 dX7_image_53 rfl rfl <| o_aload_n (pc := 54) 0 dX7_image_54 rfl rfl <| o_getI (pc := 55) (ci := 7) (j := 41) (nn := 0) dX7_image_55 (hF.1 _ _ rfl) rfl (Nat.le_of_ble_eq_true rfl) k_924 rfl <| o_putI (pc := 58) (ci := 7) (j := 53) (nn := 0) dX7_image_58 (hF.1 _ _ rfl) rfl (Nat.le_of_ble_eq_true rfl) k_936 rfl rfl rfl rfl rfl <| ?_
  refine o_lm fun m8 => ?_
  refine o_aload_n (pc := 61) 0 dX7_image_61 rfl rfl <| o_aload_n (pc := 62) 0 dX7_image_62 rfl rfl <| o_getI (pc := 63) (ci := 7) (j := 44) (nn := 0) dX7_image_63 (hF.1 _ _ rfl) rfl (Nat.le_of_ble_eq_true rfl) k_927 rfl <| o_putI (pc := 66) (ci := 7) (j := 54) (nn := 0) dX7_image_66 (hF.1 _ _ rfl) rfl (Nat.le_of_ble_eq_true rfl) k_937 rfl rfl rfl rfl rfl <| ?_
  refine o_lm fun m9 => ?_
  refine o_iconst (pc := 69) dX7_image_69 lc_0 <| o_istore_n (pc := 70) (ls' := [(1, .int 0), (0, .ref 61)]) dX7_image_70 rfl (Nat.le_of_ble_eq_true rfl) rfl <| ?_
  refine o_sub [1, 0] (ls' := [(0, .ref 61), (1, .int 0)]) rfl ?_
  refine sM_image_l71 hF  _ ?_ 1000 m9 0
  · intro m11 z10
    refine o_iconst (pc := 155) dX7_image_155 lc_0 <| o_istore_n (pc := 156) (ls' := [(1, .int 0), (0, .ref 61)]) dX7_image_156 rfl (Nat.le_of_ble_eq_true rfl) rfl <| ?_
    refine o_sub [1, 0] (ls' := [(0, .ref 61), (1, .int 0)]) rfl ?_
    refine sM_image_l157 hF  _ ?_ 1000 m11 0
    · intro m13 z12
      refine o_iconst (pc := 181) dX7_image_181 lc_0 <| o_istore_n (pc := 182) (ls' := [(1, .int 0), (0, .ref 61)]) dX7_image_182 rfl (Nat.le_of_ble_eq_true rfl) rfl <| ?_
      refine o_sub [1, 0] (ls' := [(0, .ref 61), (1, .int 0)]) rfl ?_
      refine sM_image_l183 hF  _ ?_ 1000 m13 0
      · intro m15 z14
        refine o_aload_n (pc := 207) 0 dX7_image_207 rfl rfl <| o_getI (pc := 208) (ci := 7) (j := 0) (nn := 0) dX7_image_208 (hF.1 _ _ rfl) rfl (Nat.le_of_ble_eq_true rfl) k_883 rfl <| ?_
        exact o_iret (pc := 211) dX7_image_211 rfl rfl
def fM_undo_l76 (k0_0 : MI → Int32 → Option (Int32 × MI)) : Nat → MI → Int32 → Option (Int32 × MI)
  | 0, _, _ => none
  | n0 + 1, m, v1 =>
    if 6 ≤ v1 then
      k0_0 m v1
    else
      if ck v1 6 = true then
        if ck v1 6 = true then
          lm (mI m 62 (upd (m.1 62) v1.toNatClampNeg (m.1 86 v1.toNatClampNeg))) fun m4 =>
          if ck v1 6 = true then
            if ck v1 6 = true then
              lm (mI m4 63 (upd (m4.1 63) v1.toNatClampNeg (m4.1 87 v1.toNatClampNeg))) fun m7 =>
              if ck v1 6 = true then
                if ck v1 6 = true then
                  lm (mI m7 64 (upd (m7.1 64) v1.toNatClampNeg (m7.1 88 v1.toNatClampNeg))) fun m10 =>
                  if ck v1 6 = true then
                    if ck v1 6 = true then
                      lm (mI m10 66 (upd (m10.1 66) v1.toNatClampNeg (m10.1 89 v1.toNatClampNeg))) fun m13 =>
                      if ck v1 6 = true then
                        if ck v1 6 = true then
                          lm (mI m13 83 (upd (m13.1 83) v1.toNatClampNeg (m13.1 91 v1.toNatClampNeg))) fun m16 =>
                          if ck v1 6 = true then
                            if ck v1 6 = true then
                              lm (mI m16 84 (upd (m16.1 84) v1.toNatClampNeg (vp_nar .boolean (m16.1 93 v1.toNatClampNeg)))) fun m19 =>
                              lt (v1 + 1) fun x20 =>
                              fM_undo_l76 k0_0 n0 m19 x20
                            else none
                          else none
                        else none
                      else none
                    else none
                  else none
                else none
              else none
            else none
          else none
        else none
      else none
theorem sM_undo_l76 {sh : Sh} {R : RR} (hF : Fx sh R) (k0_0 : MI → Int32 → Option (Int32 × MI)) (hk0_0 : ∀ (m : MI) (v1 : Int32) , S (eI sh R) false 0 0 0 YX7_undo sh R m 160 [(0, .ref 61), (1, .int v1)] [] (k0_0 m v1)) : ∀ (n : Nat) (m : MI) (v1 : Int32) , S (eI sh R) false 0 0 0 YX7_undo sh R m 76 [(0, .ref 61), (1, .int v1)] [] (fM_undo_l76 k0_0 n m v1) := by
  intro n
  induction n with
  | zero => intros; exact S_none
  | succ n0 ih0 =>
    intro m v1
    rw [fM_undo_l76]
    refine o_iload_n (pc := 76) 1 dX7_undo_76 rfl rfl <| o_bipush (pc := 77) dX7_undo_77 lb_6 <| ?_
    refine o_icmp_ge (pc := 79) (tgt := 160) dX7_undo_79 rfl (fun h1 => ?_) (fun h1 => ?_)
    · exact hk0_0 m v1
    · refine o_aload_n (pc := 82) 0 dX7_undo_82 rfl rfl <| o_getRc (pc := 83) (a := 62) (ci := 7) (j := 5) (nn := 0) dX7_undo_83 (hF.1 _ _ rfl) rfl (Nat.le_of_ble_eq_true rfl) k_888 rfl (hF.2 _ _ _ rfl) <| o_iload_n (pc := 86) 1 dX7_undo_86 rfl rfl <| o_aload_n (pc := 87) 0 dX7_undo_87 rfl rfl <| o_getRc (pc := 88) (a := 86) (ci := 7) (j := 55) (nn := 0) dX7_undo_88 (hF.1 _ _ rfl) rfl (Nat.le_of_ble_eq_true rfl) k_938 rfl (hF.2 _ _ _ rfl) <| o_iload_n (pc := 91) 1 dX7_undo_91 rfl rfl <| ?_
      refine S_ck fun h2 => ?_
      refine o_iald (pc := 92) (nn := 6) dX7_undo_92 (hF.1 _ _ rfl) (ck_in h2) <| ?_
      refine S_ck fun h3 => ?_
      refine o_iast (pc := 93) (nn := 6) dX7_undo_93 (hF.1 _ _ rfl) (ck_in h3) <| ?_
      refine o_lm fun m4 => ?_
      refine o_aload_n (pc := 94) 0 dX7_undo_94 rfl rfl <| o_getRc (pc := 95) (a := 63) (ci := 7) (j := 6) (nn := 0) dX7_undo_95 (hF.1 _ _ rfl) rfl (Nat.le_of_ble_eq_true rfl) k_889 rfl (hF.2 _ _ _ rfl) <| o_iload_n (pc := 98) 1 dX7_undo_98 rfl rfl <| o_aload_n (pc := 99) 0 dX7_undo_99 rfl rfl <| o_getRc (pc := 100) (a := 87) (ci := 7) (j := 56) (nn := 0) dX7_undo_100 (hF.1 _ _ rfl) rfl (Nat.le_of_ble_eq_true rfl) k_939 rfl (hF.2 _ _ _ rfl) <| o_iload_n (pc := 103) 1 dX7_undo_103 rfl rfl <| ?_
      refine S_ck fun h5 => ?_
      refine o_iald (pc := 104) (nn := 6) dX7_undo_104 (hF.1 _ _ rfl) (ck_in h5) <| ?_
      refine S_ck fun h6 => ?_
      refine o_iast (pc := 105) (nn := 6) dX7_undo_105 (hF.1 _ _ rfl) (ck_in h6) <| ?_
      refine o_lm fun m7 => ?_
      refine o_aload_n (pc := 106) 0 dX7_undo_106 rfl rfl <| o_getRc (pc := 107) (a := 64) (ci := 7) (j := 7) (nn := 0) dX7_undo_107 (hF.1 _ _ rfl) rfl (Nat.le_of_ble_eq_true rfl) k_890 rfl (hF.2 _ _ _ rfl) <| o_iload_n (pc := 110) 1 dX7_undo_110 rfl rfl <| o_aload_n (pc := 111) 0 dX7_undo_111 rfl rfl <| o_getRc (pc := 112) (a := 88) (ci := 7) (j := 57) (nn := 0) dX7_undo_112 (hF.1 _ _ rfl) rfl (Nat.le_of_ble_eq_true rfl) k_940 rfl (hF.2 _ _ _ rfl) <| o_iload_n (pc := 115) 1 dX7_undo_115 rfl rfl <| ?_
      refine S_ck fun h8 => ?_
      refine o_iald (pc := 116) (nn := 6) dX7_undo_116 (hF.1 _ _ rfl) (ck_in h8) <| ?_
      refine S_ck fun h9 => ?_
      refine o_iast (pc := 117) (nn := 6) dX7_undo_117 (hF.1 _ _ rfl) (ck_in h9) <| ?_
      refine o_lm fun m10 => ?_
      refine o_aload_n (pc := 118) 0 dX7_undo_118 rfl rfl <| o_getRc (pc := 119) (a := 66) (ci := 7) (j := 9) (nn := 0) dX7_undo_119 (hF.1 _ _ rfl) rfl (Nat.le_of_ble_eq_true rfl) k_892 rfl (hF.2 _ _ _ rfl) <| o_iload_n (pc := 122) 1 dX7_undo_122 rfl rfl <| o_aload_n (pc := 123) 0 dX7_undo_123 rfl rfl <| o_getRc (pc := 124) (a := 89) (ci := 7) (j := 58) (nn := 0) dX7_undo_124 (hF.1 _ _ rfl) rfl (Nat.le_of_ble_eq_true rfl) k_941 rfl (hF.2 _ _ _ rfl) <| o_iload_n (pc := 127) 1 dX7_undo_127 rfl rfl <| ?_
      refine S_ck fun h11 => ?_
      refine o_iald (pc := 128) (nn := 6) dX7_undo_128 (hF.1 _ _ rfl) (ck_in h11) <| ?_
      refine S_ck fun h12 => ?_
      refine o_iast (pc := 129) (nn := 6) dX7_undo_129 (hF.1 _ _ rfl) (ck_in h12) <| ?_
      refine o_lm fun m13 => ?_
      refine o_aload_n (pc := 130) 0 dX7_undo_130 rfl rfl <| o_getRc (pc := 131) (a := 83) (ci := 7) (j := 42) (nn := 0) dX7_undo_131 (hF.1 _ _ rfl) rfl (Nat.le_of_ble_eq_true rfl) k_925 rfl (hF.2 _ _ _ rfl) <| o_iload_n (pc := 134) 1 dX7_undo_134 rfl rfl <| o_aload_n (pc := 135) 0 dX7_undo_135 rfl rfl <| o_getRc (pc := 136) (a := 91) (ci := 7) (j := 60) (nn := 0) dX7_undo_136 (hF.1 _ _ rfl) rfl (Nat.le_of_ble_eq_true rfl) k_943 rfl (hF.2 _ _ _ rfl) <| o_iload_n (pc := 139) 1 dX7_undo_139 rfl rfl <| ?_
      refine S_ck fun h14 => ?_
      refine o_iald (pc := 140) (nn := 6) dX7_undo_140 (hF.1 _ _ rfl) (ck_in h14) <| ?_
      refine S_ck fun h15 => ?_
      refine o_iast (pc := 141) (nn := 6) dX7_undo_141 (hF.1 _ _ rfl) (ck_in h15) <| ?_
      refine o_lm fun m16 => ?_
      refine o_aload_n (pc := 142) 0 dX7_undo_142 rfl rfl <| o_getRc (pc := 143) (a := 84) (ci := 7) (j := 43) (nn := 0) dX7_undo_143 (hF.1 _ _ rfl) rfl (Nat.le_of_ble_eq_true rfl) k_926 rfl (hF.2 _ _ _ rfl) <| o_iload_n (pc := 146) 1 dX7_undo_146 rfl rfl <| o_aload_n (pc := 147) 0 dX7_undo_147 rfl rfl <| o_getRc (pc := 148) (a := 93) (ci := 7) (j := 62) (nn := 0) dX7_undo_148 (hF.1 _ _ rfl) rfl (Nat.le_of_ble_eq_true rfl) k_945 rfl (hF.2 _ _ _ rfl) <| o_iload_n (pc := 151) 1 dX7_undo_151 rfl rfl <| ?_
      refine S_ck fun h17 => ?_
      refine o_zald (pc := 152) (nn := 6) dX7_undo_152 (hF.1 _ _ rfl) (ck_in h17) <| ?_
      refine S_ck fun h18 => ?_
      refine o_zast (pc := 153) (nn := 6) dX7_undo_153 (hF.1 _ _ rfl) (ck_in h18) <| ?_
      refine o_lm fun m19 => ?_
      refine o_iinc (pc := 154) 1 (v := v1 + 1) (ls' := [(1, .int (v1 + 1)), (0, .ref 61)]) dX7_undo_154 rfl rfl (Nat.le_of_ble_eq_true rfl) rfl <| ?_
      refine o_ltL (ls := fun x20 => [(1, .int x20), (0, .ref 61)]) fun x20 => ?_
      refine o_goto (pc := 157) (tgt := 76) dX7_undo_157 rfl <| ?_
      refine o_sub [1, 0] (ls' := [(0, .ref 61), (1, .int x20)]) rfl ?_
      exact ih0 m19 x20
def fM_undo_l162 (k0_0 : MI → Int32 → Option (Int32 × MI)) : Nat → MI → Int32 → Option (Int32 × MI)
  | 0, _, _ => none
  | n0 + 1, m, v1 =>
    if 24 ≤ v1 then
      k0_0 m v1
    else
      if ck v1 24 = true then
        if ck v1 24 = true then
          lm (mI m 65 (upd (m.1 65) v1.toNatClampNeg (m.1 90 v1.toNatClampNeg))) fun m4 =>
          lt (v1 + 1) fun x5 =>
          fM_undo_l162 k0_0 n0 m4 x5
        else none
      else none
theorem sM_undo_l162 {sh : Sh} {R : RR} (hF : Fx sh R) (k0_0 : MI → Int32 → Option (Int32 × MI)) (hk0_0 : ∀ (m : MI) (v1 : Int32) , S (eI sh R) false 0 0 0 YX7_undo sh R m 186 [(0, .ref 61), (1, .int v1)] [] (k0_0 m v1)) : ∀ (n : Nat) (m : MI) (v1 : Int32) , S (eI sh R) false 0 0 0 YX7_undo sh R m 162 [(0, .ref 61), (1, .int v1)] [] (fM_undo_l162 k0_0 n m v1) := by
  intro n
  induction n with
  | zero => intros; exact S_none
  | succ n0 ih0 =>
    intro m v1
    rw [fM_undo_l162]
    refine o_iload_n (pc := 162) 1 dX7_undo_162 rfl rfl <| o_bipush (pc := 163) dX7_undo_163 lb_24 <| ?_
    refine o_icmp_ge (pc := 165) (tgt := 186) dX7_undo_165 rfl (fun h1 => ?_) (fun h1 => ?_)
    · exact hk0_0 m v1
    · refine o_aload_n (pc := 168) 0 dX7_undo_168 rfl rfl <| o_getRc (pc := 169) (a := 65) (ci := 7) (j := 8) (nn := 0) dX7_undo_169 (hF.1 _ _ rfl) rfl (Nat.le_of_ble_eq_true rfl) k_891 rfl (hF.2 _ _ _ rfl) <| o_iload_n (pc := 172) 1 dX7_undo_172 rfl rfl <| o_aload_n (pc := 173) 0 dX7_undo_173 rfl rfl <| o_getRc (pc := 174) (a := 90) (ci := 7) (j := 59) (nn := 0) dX7_undo_174 (hF.1 _ _ rfl) rfl (Nat.le_of_ble_eq_true rfl) k_942 rfl (hF.2 _ _ _ rfl) <| o_iload_n (pc := 177) 1 dX7_undo_177 rfl rfl <| ?_
      refine S_ck fun h2 => ?_
      refine o_iald (pc := 178) (nn := 24) dX7_undo_178 (hF.1 _ _ rfl) (ck_in h2) <| ?_
      refine S_ck fun h3 => ?_
      refine o_iast (pc := 179) (nn := 24) dX7_undo_179 (hF.1 _ _ rfl) (ck_in h3) <| ?_
      refine o_lm fun m4 => ?_
      refine o_iinc (pc := 180) 1 (v := v1 + 1) (ls' := [(1, .int (v1 + 1)), (0, .ref 61)]) dX7_undo_180 rfl rfl (Nat.le_of_ble_eq_true rfl) rfl <| ?_
      refine o_ltL (ls := fun x5 => [(1, .int x5), (0, .ref 61)]) fun x5 => ?_
      refine o_goto (pc := 183) (tgt := 162) dX7_undo_183 rfl <| ?_
      refine o_sub [1, 0] (ls' := [(0, .ref 61), (1, .int x5)]) rfl ?_
      exact ih0 m4 x5
def fM_undo_l188 (k0_0 : MI → Int32 → Option (Int32 × MI)) : Nat → MI → Int32 → Option (Int32 × MI)
  | 0, _, _ => none
  | n0 + 1, m, v1 =>
    if 8 ≤ v1 then
      k0_0 m v1
    else
      if ck v1 8 = true then
        if ck v1 8 = true then
          lm (mI m 85 (upd (m.1 85) v1.toNatClampNeg (m.1 92 v1.toNatClampNeg))) fun m4 =>
          lt (v1 + 1) fun x5 =>
          fM_undo_l188 k0_0 n0 m4 x5
        else none
      else none
theorem sM_undo_l188 {sh : Sh} {R : RR} (hF : Fx sh R) (k0_0 : MI → Int32 → Option (Int32 × MI)) (hk0_0 : ∀ (m : MI) (v1 : Int32) , S (eI sh R) false 0 0 0 YX7_undo sh R m 212 [(0, .ref 61), (1, .int v1)] [] (k0_0 m v1)) : ∀ (n : Nat) (m : MI) (v1 : Int32) , S (eI sh R) false 0 0 0 YX7_undo sh R m 188 [(0, .ref 61), (1, .int v1)] [] (fM_undo_l188 k0_0 n m v1) := by
  intro n
  induction n with
  | zero => intros; exact S_none
  | succ n0 ih0 =>
    intro m v1
    rw [fM_undo_l188]
    refine o_iload_n (pc := 188) 1 dX7_undo_188 rfl rfl <| o_bipush (pc := 189) dX7_undo_189 lb_8 <| ?_
    refine o_icmp_ge (pc := 191) (tgt := 212) dX7_undo_191 rfl (fun h1 => ?_) (fun h1 => ?_)
    · exact hk0_0 m v1
    · refine o_aload_n (pc := 194) 0 dX7_undo_194 rfl rfl <| o_getRc (pc := 195) (a := 85) (ci := 7) (j := 45) (nn := 0) dX7_undo_195 (hF.1 _ _ rfl) rfl (Nat.le_of_ble_eq_true rfl) k_928 rfl (hF.2 _ _ _ rfl) <| o_iload_n (pc := 198) 1 dX7_undo_198 rfl rfl <| o_aload_n (pc := 199) 0 dX7_undo_199 rfl rfl <| o_getRc (pc := 200) (a := 92) (ci := 7) (j := 61) (nn := 0) dX7_undo_200 (hF.1 _ _ rfl) rfl (Nat.le_of_ble_eq_true rfl) k_944 rfl (hF.2 _ _ _ rfl) <| o_iload_n (pc := 203) 1 dX7_undo_203 rfl rfl <| ?_
      refine S_ck fun h2 => ?_
      refine o_iald (pc := 204) (nn := 8) dX7_undo_204 (hF.1 _ _ rfl) (ck_in h2) <| ?_
      refine S_ck fun h3 => ?_
      refine o_iast (pc := 205) (nn := 8) dX7_undo_205 (hF.1 _ _ rfl) (ck_in h3) <| ?_
      refine o_lm fun m4 => ?_
      refine o_iinc (pc := 206) 1 (v := v1 + 1) (ls' := [(1, .int (v1 + 1)), (0, .ref 61)]) dX7_undo_206 rfl rfl (Nat.le_of_ble_eq_true rfl) rfl <| ?_
      refine o_ltL (ls := fun x5 => [(1, .int x5), (0, .ref 61)]) fun x5 => ?_
      refine o_goto (pc := 209) (tgt := 188) dX7_undo_209 rfl <| ?_
      refine o_sub [1, 0] (ls' := [(0, .ref 61), (1, .int x5)]) rfl ?_
      exact ih0 m4 x5
def fM_undo (m : MI) : Option (Int32 × MI) :=
  if m.1 61 46 = 0 then
    some (-3, m)
  else
    lm (mI m 61 (upd (m.1 61) 11 (m.1 61 47))) fun m2 =>
    lm (mI m2 61 (upd (m2.1 61) 0 (m2.1 61 48))) fun m3 =>
    lm (mI m3 61 (upd (m3.1 61) 1 (m3.1 61 49))) fun m4 =>
    lm (mI m4 61 (upd (m4.1 61) 2 (m4.1 61 50))) fun m5 =>
    lm (mI m5 61 (upd (m5.1 61) 3 (m5.1 61 51))) fun m6 =>
    lm (mI m6 61 (upd (m6.1 61) 4 (m6.1 61 52))) fun m7 =>
    lm (mI m7 61 (upd (m7.1 61) 41 (m7.1 61 53))) fun m8 =>
    lm (mI m8 61 (upd (m8.1 61) 44 (m8.1 61 54))) fun m9 =>
    fM_undo_l76 
      (fun m11 z10 =>
        fM_undo_l162 
          (fun m13 z12 =>
            fM_undo_l188 
              (fun m15 z14 =>
                some (m15.1 61 0, m15)
                )
              1000 m13 0
            )
          1000 m11 0
        )
      1000 m9 0
theorem sM_undo {sh : Sh} {R : RR} (hF : Fx sh R) (m : MI) : KS (eI sh R) false 0 0 0 YX7_undo sh R m [.ref 61] (fM_undo m ) := by
  refine KS_of pn_X7 (fun _ => Nat.le_of_ble_eq_true rfl) ?_
  change S _ _ _ _ _ _ _ _ _ _ [(0, .ref 61)] [] _
  unfold fM_undo
  refine o_aload_n (pc := 0) 0 dX7_undo_0 rfl rfl <| o_getI (pc := 1) (ci := 7) (j := 46) (nn := 0) dX7_undo_1 (hF.1 _ _ rfl) rfl (Nat.le_of_ble_eq_true rfl) k_929 rfl <| ?_
  refine o_if_ne (pc := 4) (tgt := 10) dX7_undo_4 rfl (fun h1 => ?_) (fun h1 => ?_)
  · refine o_bipush (pc := 7) dX7_undo_7 lb_m3 <| ?_
    exact o_iret (pc := 9) dX7_undo_9 rfl rfl
  · refine o_aload_n (pc := 10) 0 dX7_undo_10 rfl rfl <| o_aload_n (pc := 11) 0 dX7_undo_11 rfl rfl <| o_getI (pc := 12) (ci := 7) (j := 47) (nn := 0) dX7_undo_12 (hF.1 _ _ rfl) rfl (Nat.le_of_ble_eq_true rfl) k_930 rfl <| o_putI (pc := 15) (ci := 7) (j := 11) (nn := 0) dX7_undo_15 (hF.1 _ _ rfl) rfl (Nat.le_of_ble_eq_true rfl) k_894 rfl rfl rfl rfl rfl <| ?_
    refine o_lm fun m2 => ?_
    refine o_aload_n (pc := 18) 0 dX7_undo_18 rfl rfl <| o_aload_n (pc := 19) 0 dX7_undo_19 rfl rfl <| o_getI (pc := 20) (ci := 7) (j := 48) (nn := 0) dX7_undo_20 (hF.1 _ _ rfl) rfl (Nat.le_of_ble_eq_true rfl) k_931 rfl <| o_putI (pc := 23) (ci := 7) (j := 0) (nn := 0) dX7_undo_23 (hF.1 _ _ rfl) rfl (Nat.le_of_ble_eq_true rfl) k_883 rfl rfl rfl rfl rfl <| ?_
    refine o_lm fun m3 => ?_
    refine o_aload_n (pc := 26) 0 dX7_undo_26 rfl rfl <| o_aload_n (pc := 27) 0 dX7_undo_27 rfl rfl <| o_getI (pc := 28) (ci := 7) (j := 49) (nn := 0) dX7_undo_28 (hF.1 _ _ rfl) rfl (Nat.le_of_ble_eq_true rfl) k_932 rfl <| o_putI (pc := 31) (ci := 7) (j := 1) (nn := 0) dX7_undo_31 (hF.1 _ _ rfl) rfl (Nat.le_of_ble_eq_true rfl) k_884 rfl rfl rfl rfl rfl <| ?_
    refine o_lm fun m4 => ?_
    refine o_aload_n (pc := 34) 0 dX7_undo_34 rfl rfl <| o_aload_n (pc := 35) 0 dX7_undo_35 rfl rfl <| o_getI (pc := 36) (ci := 7) (j := 50) (nn := 0) dX7_undo_36 (hF.1 _ _ rfl) rfl (Nat.le_of_ble_eq_true rfl) k_933 rfl <| o_putI (pc := 39) (ci := 7) (j := 2) (nn := 0) dX7_undo_39 (hF.1 _ _ rfl) rfl (Nat.le_of_ble_eq_true rfl) k_885 rfl rfl rfl rfl rfl <| ?_
    refine o_lm fun m5 => ?_
    refine o_aload_n (pc := 42) 0 dX7_undo_42 rfl rfl <| o_aload_n (pc := 43) 0 dX7_undo_43 rfl rfl <| o_getI (pc := 44) (ci := 7) (j := 51) (nn := 0) dX7_undo_44 (hF.1 _ _ rfl) rfl (Nat.le_of_ble_eq_true rfl) k_934 rfl <| o_putI (pc := 47) (ci := 7) (j := 3) (nn := 0) dX7_undo_47 (hF.1 _ _ rfl) rfl (Nat.le_of_ble_eq_true rfl) k_886 rfl rfl rfl rfl rfl <| ?_
    refine o_lm fun m6 => ?_
    refine o_aload_n (pc := 50) 0 dX7_undo_50 rfl rfl <| o_aload_n (pc := 51) 0 dX7_undo_51 rfl rfl <| o_getI (pc := 52) (ci := 7) (j := 52) (nn := 0) dX7_undo_52 (hF.1 _ _ rfl) rfl (Nat.le_of_ble_eq_true rfl) k_935 rfl <| o_putI (pc := 55) (ci := 7) (j := 4) (nn := 0) dX7_undo_55 (hF.1 _ _ rfl) rfl (Nat.le_of_ble_eq_true rfl) k_887 rfl rfl rfl rfl rfl <| ?_
    refine o_lm fun m7 => ?_
    refine o_aload_n (pc := 58) 0 dX7_undo_58 rfl rfl <| o_aload_n (pc := 59) 0 dX7_undo_59 rfl rfl <| o_getI (pc := 60) (ci := 7) (j := 53) (nn := 0) dX7_undo_60 (hF.1 _ _ rfl) rfl (Nat.le_of_ble_eq_true rfl) k_936 rfl <| o_putI (pc := 63) (ci := 7) (j := 41) (nn := 0) dX7_undo_63 (hF.1 _ _ rfl) rfl (Nat.le_of_ble_eq_true rfl) k_924 rfl rfl rfl rfl rfl <| ?_
    refine o_lm fun m8 => ?_
    refine o_aload_n (pc := 66) 0 dX7_undo_66 rfl rfl <| o_aload_n (pc := 67) 0 dX7_undo_67 rfl rfl <| o_getI (pc := 68) (ci := 7) (j := 54) (nn := 0) dX7_undo_68 (hF.1 _ _ rfl) rfl (Nat.le_of_ble_eq_true rfl) k_937 rfl <| o_putI (pc := 71) (ci := 7) (j := 44) (nn := 0) dX7_undo_71 (hF.1 _ _ rfl) rfl (Nat.le_of_ble_eq_true rfl) k_927 rfl rfl rfl rfl rfl <| ?_
    refine o_lm fun m9 => ?_
    refine o_iconst (pc := 74) dX7_undo_74 lc_0 <| o_istore_n (pc := 75) (ls' := [(1, .int 0), (0, .ref 61)]) dX7_undo_75 rfl (Nat.le_of_ble_eq_true rfl) rfl <| ?_
    refine o_sub [1, 0] (ls' := [(0, .ref 61), (1, .int 0)]) rfl ?_
    refine sM_undo_l76 hF  _ ?_ 1000 m9 0
    · intro m11 z10
      refine o_iconst (pc := 160) dX7_undo_160 lc_0 <| o_istore_n (pc := 161) (ls' := [(1, .int 0), (0, .ref 61)]) dX7_undo_161 rfl (Nat.le_of_ble_eq_true rfl) rfl <| ?_
      refine o_sub [1, 0] (ls' := [(0, .ref 61), (1, .int 0)]) rfl ?_
      refine sM_undo_l162 hF  _ ?_ 1000 m11 0
      · intro m13 z12
        refine o_iconst (pc := 186) dX7_undo_186 lc_0 <| o_istore_n (pc := 187) (ls' := [(1, .int 0), (0, .ref 61)]) dX7_undo_187 rfl (Nat.le_of_ble_eq_true rfl) rfl <| ?_
        refine o_sub [1, 0] (ls' := [(0, .ref 61), (1, .int 0)]) rfl ?_
        refine sM_undo_l188 hF  _ ?_ 1000 m13 0
        · intro m15 z14
          refine o_aload_n (pc := 212) 0 dX7_undo_212 rfl rfl <| o_getI (pc := 213) (ci := 7) (j := 0) (nn := 0) dX7_undo_213 (hF.1 _ _ rfl) rfl (Nat.le_of_ble_eq_true rfl) k_883 rfl <| ?_
          exact o_iret (pc := 216) dX7_undo_216 rfl rfl
def fM_body (m : MI) (a : Int32) : Option (MI) :=
  if 20 ≤ m.1 61 63 then
    lm (mI m 61 (upd (m.1 61) 63 ((m.1 61 63) + 1))) fun m2 =>
    some m2
  else
    if ck (m.1 61 63) 20 = true then
      lm (mI m 94 (upd (m.1 94) (m.1 61 63).toNatClampNeg a)) fun m4 =>
      lm (mI m4 61 (upd (m4.1 61) 63 ((m4.1 61 63) + 1))) fun m5 =>
      some m5
    else none
theorem sM_body {sh : Sh} {R : RR} (hF : Fx sh R) (m : MI) (a : Int32) : KS (eV sh R) false 0 0 0 YX7_body sh R m [.ref 61, .int a] (fM_body m a) := by
  refine KS_of pn_X7 (fun _ => Nat.le_of_ble_eq_true rfl) ?_
  change S _ _ _ _ _ _ _ _ _ _ [(0, .ref 61), (1, .int a)] [] _
  unfold fM_body
  refine o_aload_n (pc := 0) 0 dX7_body_0 rfl rfl <| o_getI (pc := 1) (ci := 7) (j := 63) (nn := 0) dX7_body_1 (hF.1 _ _ rfl) rfl (Nat.le_of_ble_eq_true rfl) k_946 rfl <| o_bipush (pc := 4) dX7_body_4 lb_20 <| ?_
  refine o_icmp_ge (pc := 6) (tgt := 19) dX7_body_6 rfl (fun h1 => ?_) (fun h1 => ?_)
  · refine o_aload_n (pc := 19) 0 dX7_body_19 rfl rfl <| o_dup (pc := 20) dX7_body_20 rfl <| o_getI (pc := 21) (ci := 7) (j := 63) (nn := 0) dX7_body_21 (hF.1 _ _ rfl) rfl (Nat.le_of_ble_eq_true rfl) k_946 rfl <| o_iconst (pc := 24) dX7_body_24 lc_1 <| o_iadd (pc := 25) dX7_body_25 <| o_putI (pc := 26) (ci := 7) (j := 63) (nn := 0) dX7_body_26 (hF.1 _ _ rfl) rfl (Nat.le_of_ble_eq_true rfl) k_946 rfl rfl rfl rfl rfl <| ?_
    refine o_lm fun m2 => ?_
    exact o_vret (pc := 29) dX7_body_29 rfl rfl
  · refine o_aload_n (pc := 9) 0 dX7_body_9 rfl rfl <| o_getRc (pc := 10) (a := 94) (ci := 7) (j := 64) (nn := 0) dX7_body_10 (hF.1 _ _ rfl) rfl (Nat.le_of_ble_eq_true rfl) k_947 rfl (hF.2 _ _ _ rfl) <| o_aload_n (pc := 13) 0 dX7_body_13 rfl rfl <| o_getI (pc := 14) (ci := 7) (j := 63) (nn := 0) dX7_body_14 (hF.1 _ _ rfl) rfl (Nat.le_of_ble_eq_true rfl) k_946 rfl <| o_iload_n (pc := 17) 1 dX7_body_17 rfl rfl <| ?_
    refine S_ck fun h3 => ?_
    refine o_iast (pc := 18) (nn := 20) dX7_body_18 (hF.1 _ _ rfl) (ck_in h3) <| ?_
    refine o_lm fun m4 => ?_
    refine o_aload_n (pc := 19) 0 dX7_body_19 rfl rfl <| o_dup (pc := 20) dX7_body_20 rfl <| o_getI (pc := 21) (ci := 7) (j := 63) (nn := 0) dX7_body_21 (hF.1 _ _ rfl) rfl (Nat.le_of_ble_eq_true rfl) k_946 rfl <| o_iconst (pc := 24) dX7_body_24 lc_1 <| o_iadd (pc := 25) dX7_body_25 <| o_putI (pc := 26) (ci := 7) (j := 63) (nn := 0) dX7_body_26 (hF.1 _ _ rfl) rfl (Nat.le_of_ble_eq_true rfl) k_946 rfl rfl rfl rfl rfl <| ?_
    refine o_lm fun m5 => ?_
    exact o_vret (pc := 29) dX7_body_29 rfl rfl
def fM_drawerDraws (m : MI) (a : Int32) (b : Int32) : Option (Int32 × MI) :=
  (fM_body m 10).bind fun r1 =>
  some (b + a, r1)
theorem sM_drawerDraws {sh : Sh} {R : RR} (hF : Fx sh R) (m : MI) (a : Int32) (b : Int32) : KS (eI sh R) false 1 0 0 YX7_drawerDraws sh R m [.ref 61, .int a, .int b] (fM_drawerDraws m a b) := by
  refine KS_of pn_X7 (fun _ => Nat.le_of_ble_eq_true rfl) ?_
  change S _ _ _ _ _ _ _ _ _ _ [(0, .ref 61), (1, .int a), (2, .int b)] [] _
  unfold fM_drawerDraws
  refine o_aload_n (pc := 0) 0 dX7_drawerDraws_0 rfl rfl <| o_bipush (pc := 1) dX7_drawerDraws_1 lb_10 <| ?_
  refine o_callVV (Y2 := YX7_body) (pc := 3) (av := [.int 10]) (rest := []) dX7_drawerDraws_3 k_1388 cm_X7_body (sM_body hF m 10) (hF.1 _ _ rfl) rfl rfl (Nat.le_of_ble_eq_true rfl) (Nat.le_of_ble_eq_true rfl) fun r1 => ?_
  refine o_iload_n (pc := 6) 2 dX7_drawerDraws_6 rfl rfl <| o_iload_n (pc := 7) 1 dX7_drawerDraws_7 rfl rfl <| o_iadd (pc := 8) dX7_drawerDraws_8 <| ?_
  exact o_iret (pc := 9) dX7_drawerDraws_9 rfl rfl
def fM_drawsAct (m : MI) (a : Int32) (b : Int32) : Option (Int32 × MI) :=
  if ck a 6 = true then
    if m.1 62 a.toNatClampNeg = 2 then
      (fM_body m 30).bind fun r3 =>
      (fM_drawerDraws r3 a (b * 3)).bind fun r4 =>
      some (r4.1, r4.2)
    else
      if m.1 62 a.toNatClampNeg = 3 then
        (fM_drawerDraws m a b).bind fun r6 =>
        some (r6.1, r6.2)
      else
        if m.1 62 a.toNatClampNeg = 4 then
          (fM_body m 50).bind fun r8 =>
          (fM_drawerDraws r8 a b).bind fun r9 =>
          some (-r9.1, r9.2)
        else
          if m.1 62 a.toNatClampNeg = 5 then
            (fM_body m 30).bind fun r11 =>
            (fM_drawerDraws r11 a (b * 3)).bind fun r12 =>
            some (r12.1, r12.2)
          else
            if m.1 62 a.toNatClampNeg = 6 then
              (fM_body m 71).bind fun r14 =>
              (fM_drawerDraws r14 a b).bind fun r15 =>
              if ck a 6 = true then
                some (r15.1 ^^^ (r15.2.1 63 a.toNatClampNeg), r15.2)
              else none
            else
              (fM_drawerDraws m a b).bind fun r17 =>
              some (r17.1, r17.2)
  else none
theorem sM_drawsAct {sh : Sh} {R : RR} (hF : Fx sh R) (m : MI) (a : Int32) (b : Int32) : KS (eI sh R) false 2 0 0 YX7_drawsAct sh R m [.ref 61, .int a, .int b] (fM_drawsAct m a b) := by
  refine KS_of pn_X7 (fun _ => Nat.le_of_ble_eq_true rfl) ?_
  change S _ _ _ _ _ _ _ _ _ _ [(0, .ref 61), (1, .int a), (2, .int b)] [] _
  unfold fM_drawsAct
  refine o_aload_n (pc := 0) 0 dX7_drawsAct_0 rfl rfl <| o_getRc (pc := 1) (a := 62) (ci := 7) (j := 5) (nn := 0) dX7_drawsAct_1 (hF.1 _ _ rfl) rfl (Nat.le_of_ble_eq_true rfl) k_888 rfl (hF.2 _ _ _ rfl) <| o_iload_n (pc := 4) 1 dX7_drawsAct_4 rfl rfl <| ?_
  refine S_ck fun h1 => ?_
  refine o_iald (pc := 5) (nn := 6) dX7_drawsAct_5 (hF.1 _ _ rfl) (ck_in h1) <| ?_
  refine S_ite (fun h2 => ?_) (fun h2 => ?_)
  · refine o_ts_in (pc := 6) (tgt := 40) 2 h2 dX7_drawsAct_6 (by decide) (by decide) rfl rfl ?_
    refine o_aload_n (pc := 40) 0 dX7_drawsAct_40 rfl rfl <| o_bipush (pc := 41) dX7_drawsAct_41 lb_30 <| ?_
    refine o_callVV (Y2 := YX7_body) (pc := 43) (av := [.int 30]) (rest := []) dX7_drawsAct_43 k_1388 cm_X7_body (sM_body hF m 30) (hF.1 _ _ rfl) rfl rfl (Nat.le_of_ble_eq_true rfl) (Nat.le_of_ble_eq_true rfl) fun r3 => ?_
    refine o_aload_n (pc := 46) 0 dX7_drawsAct_46 rfl rfl <| o_iload_n (pc := 47) 1 dX7_drawsAct_47 rfl rfl <| o_iload_n (pc := 48) 2 dX7_drawsAct_48 rfl rfl <| o_iconst (pc := 49) dX7_drawsAct_49 lc_3 <| o_imul (pc := 50) dX7_drawsAct_50 <| ?_
    refine o_callVI (Y2 := YX7_drawerDraws) (pc := 51) (av := [.int a, .int (b * 3)]) (rest := []) dX7_drawsAct_51 k_1392 cm_X7_drawerDraws (sM_drawerDraws hF r3 a (b * 3)) (hF.1 _ _ rfl) rfl rfl (Nat.le_of_ble_eq_true rfl) (Nat.le_of_ble_eq_true rfl) fun r4 => ?_
    exact o_iret (pc := 54) dX7_drawsAct_54 rfl rfl
  refine S_ite (fun h5 => ?_) (fun h5 => ?_)
  · refine o_ts_in (pc := 6) (tgt := 89) 3 h5 dX7_drawsAct_6 (by decide) (by decide) rfl rfl ?_
    refine o_aload_n (pc := 89) 0 dX7_drawsAct_89 rfl rfl <| o_iload_n (pc := 90) 1 dX7_drawsAct_90 rfl rfl <| o_iload_n (pc := 91) 2 dX7_drawsAct_91 rfl rfl <| ?_
    refine o_callVI (Y2 := YX7_drawerDraws) (pc := 92) (av := [.int a, .int b]) (rest := []) dX7_drawsAct_92 k_1392 cm_X7_drawerDraws (sM_drawerDraws hF m a b) (hF.1 _ _ rfl) rfl rfl (Nat.le_of_ble_eq_true rfl) (Nat.le_of_ble_eq_true rfl) fun r6 => ?_
    exact o_iret (pc := 95) dX7_drawsAct_95 rfl rfl
  refine S_ite (fun h7 => ?_) (fun h7 => ?_)
  · refine o_ts_in (pc := 6) (tgt := 55) 4 h7 dX7_drawsAct_6 (by decide) (by decide) rfl rfl ?_
    refine o_aload_n (pc := 55) 0 dX7_drawsAct_55 rfl rfl <| o_bipush (pc := 56) dX7_drawsAct_56 lb_50 <| ?_
    refine o_callVV (Y2 := YX7_body) (pc := 58) (av := [.int 50]) (rest := []) dX7_drawsAct_58 k_1388 cm_X7_body (sM_body hF m 50) (hF.1 _ _ rfl) rfl rfl (Nat.le_of_ble_eq_true rfl) (Nat.le_of_ble_eq_true rfl) fun r8 => ?_
    refine o_aload_n (pc := 61) 0 dX7_drawsAct_61 rfl rfl <| o_iload_n (pc := 62) 1 dX7_drawsAct_62 rfl rfl <| o_iload_n (pc := 63) 2 dX7_drawsAct_63 rfl rfl <| ?_
    refine o_callVI (Y2 := YX7_drawerDraws) (pc := 64) (av := [.int a, .int b]) (rest := []) dX7_drawsAct_64 k_1392 cm_X7_drawerDraws (sM_drawerDraws hF r8 a b) (hF.1 _ _ rfl) rfl rfl (Nat.le_of_ble_eq_true rfl) (Nat.le_of_ble_eq_true rfl) fun r9 => ?_
    refine o_ineg (pc := 67) dX7_drawsAct_67 <| ?_
    exact o_iret (pc := 68) dX7_drawsAct_68 rfl rfl
  refine S_ite (fun h10 => ?_) (fun h10 => ?_)
  · refine o_ts_in (pc := 6) (tgt := 40) 5 h10 dX7_drawsAct_6 (by decide) (by decide) rfl rfl ?_
    refine o_aload_n (pc := 40) 0 dX7_drawsAct_40 rfl rfl <| o_bipush (pc := 41) dX7_drawsAct_41 lb_30 <| ?_
    refine o_callVV (Y2 := YX7_body) (pc := 43) (av := [.int 30]) (rest := []) dX7_drawsAct_43 k_1388 cm_X7_body (sM_body hF m 30) (hF.1 _ _ rfl) rfl rfl (Nat.le_of_ble_eq_true rfl) (Nat.le_of_ble_eq_true rfl) fun r11 => ?_
    refine o_aload_n (pc := 46) 0 dX7_drawsAct_46 rfl rfl <| o_iload_n (pc := 47) 1 dX7_drawsAct_47 rfl rfl <| o_iload_n (pc := 48) 2 dX7_drawsAct_48 rfl rfl <| o_iconst (pc := 49) dX7_drawsAct_49 lc_3 <| o_imul (pc := 50) dX7_drawsAct_50 <| ?_
    refine o_callVI (Y2 := YX7_drawerDraws) (pc := 51) (av := [.int a, .int (b * 3)]) (rest := []) dX7_drawsAct_51 k_1392 cm_X7_drawerDraws (sM_drawerDraws hF r11 a (b * 3)) (hF.1 _ _ rfl) rfl rfl (Nat.le_of_ble_eq_true rfl) (Nat.le_of_ble_eq_true rfl) fun r12 => ?_
    exact o_iret (pc := 54) dX7_drawsAct_54 rfl rfl
  refine S_ite (fun h13 => ?_) (fun h13 => ?_)
  · refine o_ts_in (pc := 6) (tgt := 69) 6 h13 dX7_drawsAct_6 (by decide) (by decide) rfl rfl ?_
    refine o_aload_n (pc := 69) 0 dX7_drawsAct_69 rfl rfl <| o_bipush (pc := 70) dX7_drawsAct_70 lb_71 <| ?_
    refine o_callVV (Y2 := YX7_body) (pc := 72) (av := [.int 71]) (rest := []) dX7_drawsAct_72 k_1388 cm_X7_body (sM_body hF m 71) (hF.1 _ _ rfl) rfl rfl (Nat.le_of_ble_eq_true rfl) (Nat.le_of_ble_eq_true rfl) fun r14 => ?_
    refine o_aload_n (pc := 75) 0 dX7_drawsAct_75 rfl rfl <| o_iload_n (pc := 76) 1 dX7_drawsAct_76 rfl rfl <| o_iload_n (pc := 77) 2 dX7_drawsAct_77 rfl rfl <| ?_
    refine o_callVI (Y2 := YX7_drawerDraws) (pc := 78) (av := [.int a, .int b]) (rest := []) dX7_drawsAct_78 k_1392 cm_X7_drawerDraws (sM_drawerDraws hF r14 a b) (hF.1 _ _ rfl) rfl rfl (Nat.le_of_ble_eq_true rfl) (Nat.le_of_ble_eq_true rfl) fun r15 => ?_
    refine o_aload_n (pc := 81) 0 dX7_drawsAct_81 rfl rfl <| o_getRc (pc := 82) (a := 63) (ci := 7) (j := 6) (nn := 0) dX7_drawsAct_82 (hF.1 _ _ rfl) rfl (Nat.le_of_ble_eq_true rfl) k_889 rfl (hF.2 _ _ _ rfl) <| o_iload_n (pc := 85) 1 dX7_drawsAct_85 rfl rfl <| ?_
    refine S_ck fun h16 => ?_
    refine o_iald (pc := 86) (nn := 6) dX7_drawsAct_86 (hF.1 _ _ rfl) (ck_in h16) <| o_ixor (pc := 87) dX7_drawsAct_87 <| ?_
    exact o_iret (pc := 88) dX7_drawsAct_88 rfl rfl
  refine o_ts_out (pc := 6) (tgt := 89) (ts_out (lo := 2) (hi := 6) [2, 3, 4, 5, 6] (by decide) (by decide) (fun c hc => by
      simp only [List.mem_cons, List.not_mem_nil, or_false] at hc
      rcases hc with rfl | rfl | rfl | rfl | rfl
      · exact h2
      · exact h5
      · exact h7
      · exact h10
      · exact h13)) dX7_drawsAct_6 rfl ?_
  refine o_aload_n (pc := 89) 0 dX7_drawsAct_89 rfl rfl <| o_iload_n (pc := 90) 1 dX7_drawsAct_90 rfl rfl <| o_iload_n (pc := 91) 2 dX7_drawsAct_91 rfl rfl <| ?_
  refine o_callVI (Y2 := YX7_drawerDraws) (pc := 92) (av := [.int a, .int b]) (rest := []) dX7_drawsAct_92 k_1392 cm_X7_drawerDraws (sM_drawerDraws hF m a b) (hF.1 _ _ rfl) rfl rfl (Nat.le_of_ble_eq_true rfl) (Nat.le_of_ble_eq_true rfl) fun r17 => ?_
  exact o_iret (pc := 95) dX7_drawsAct_95 rfl rfl
def fM_drawerShows (m : MI) (a : Int32) (b : Int32) : Option (Int32 × MI) :=
  (fM_body m 11).bind fun r1 =>
  (fM_drawsAct r1 a b).bind fun r2 =>
  if ck a 6 = true then
    some (r2.1 - (r2.2.1 63 a.toNatClampNeg), r2.2)
  else none
theorem sM_drawerShows {sh : Sh} {R : RR} (hF : Fx sh R) (m : MI) (a : Int32) (b : Int32) : KS (eI sh R) false 3 0 0 YX7_drawerShows sh R m [.ref 61, .int a, .int b] (fM_drawerShows m a b) := by
  refine KS_of pn_X7 (fun _ => Nat.le_of_ble_eq_true rfl) ?_
  change S _ _ _ _ _ _ _ _ _ _ [(0, .ref 61), (1, .int a), (2, .int b)] [] _
  unfold fM_drawerShows
  refine o_aload_n (pc := 0) 0 dX7_drawerShows_0 rfl rfl <| o_bipush (pc := 1) dX7_drawerShows_1 lb_11 <| ?_
  refine o_callVV (Y2 := YX7_body) (pc := 3) (av := [.int 11]) (rest := []) dX7_drawerShows_3 k_1388 cm_X7_body (sM_body hF m 11) (hF.1 _ _ rfl) rfl rfl (Nat.le_of_ble_eq_true rfl) (Nat.le_of_ble_eq_true rfl) fun r1 => ?_
  refine o_aload_n (pc := 6) 0 dX7_drawerShows_6 rfl rfl <| o_iload_n (pc := 7) 1 dX7_drawerShows_7 rfl rfl <| o_iload_n (pc := 8) 2 dX7_drawerShows_8 rfl rfl <| ?_
  refine o_callVI (Y2 := YX7_drawsAct) (pc := 9) (av := [.int a, .int b]) (rest := []) dX7_drawerShows_9 k_1384 cm_X7_drawsAct (sM_drawsAct hF r1 a b) (hF.1 _ _ rfl) rfl rfl (Nat.le_of_ble_eq_true rfl) (Nat.le_of_ble_eq_true rfl) fun r2 => ?_
  refine o_aload_n (pc := 12) 0 dX7_drawerShows_12 rfl rfl <| o_getRc (pc := 13) (a := 63) (ci := 7) (j := 6) (nn := 0) dX7_drawerShows_13 (hF.1 _ _ rfl) rfl (Nat.le_of_ble_eq_true rfl) k_889 rfl (hF.2 _ _ _ rfl) <| o_iload_n (pc := 16) 1 dX7_drawerShows_16 rfl rfl <| ?_
  refine S_ck fun h3 => ?_
  refine o_iald (pc := 17) (nn := 6) dX7_drawerShows_17 (hF.1 _ _ rfl) (ck_in h3) <| o_isub (pc := 18) dX7_drawerShows_18 <| ?_
  exact o_iret (pc := 19) dX7_drawerShows_19 rfl rfl
def fM_keenShows (m : MI) (a : Int32) (b : Int32) : Option (Int32 × MI) :=
  (fM_body m 20).bind fun r1 =>
  (fM_drawerShows r1 a b).bind fun r2 =>
  some (r2.1 ^^^ (6 : Int32), r2.2)
theorem sM_keenShows {sh : Sh} {R : RR} (hF : Fx sh R) (m : MI) (a : Int32) (b : Int32) : KS (eI sh R) false 4 0 0 YX7_keenShows sh R m [.ref 61, .int a, .int b] (fM_keenShows m a b) := by
  refine KS_of pn_X7 (fun _ => Nat.le_of_ble_eq_true rfl) ?_
  change S _ _ _ _ _ _ _ _ _ _ [(0, .ref 61), (1, .int a), (2, .int b)] [] _
  unfold fM_keenShows
  refine o_aload_n (pc := 0) 0 dX7_keenShows_0 rfl rfl <| o_bipush (pc := 1) dX7_keenShows_1 lb_20 <| ?_
  refine o_callVV (Y2 := YX7_body) (pc := 3) (av := [.int 20]) (rest := []) dX7_keenShows_3 k_1388 cm_X7_body (sM_body hF m 20) (hF.1 _ _ rfl) rfl rfl (Nat.le_of_ble_eq_true rfl) (Nat.le_of_ble_eq_true rfl) fun r1 => ?_
  refine o_aload_n (pc := 6) 0 dX7_keenShows_6 rfl rfl <| o_iload_n (pc := 7) 1 dX7_keenShows_7 rfl rfl <| o_iload_n (pc := 8) 2 dX7_keenShows_8 rfl rfl <| ?_
  refine o_callVI (Y2 := YX7_drawerShows) (pc := 9) (av := [.int a, .int b]) (rest := []) dX7_keenShows_9 k_1404 cm_X7_drawerShows (sM_drawerShows hF r1 a b) (hF.1 _ _ rfl) rfl rfl (Nat.le_of_ble_eq_true rfl) (Nat.le_of_ble_eq_true rfl) fun r2 => ?_
  refine o_bipush (pc := 12) dX7_keenShows_12 lb_6 <| o_ixor (pc := 14) dX7_keenShows_14 <| ?_
  exact o_iret (pc := 15) dX7_keenShows_15 rfl rfl
def fM_showsAct (m : MI) (a : Int32) (b : Int32) : Option (Int32 × MI) :=
  if ck a 6 = true then
    if m.1 62 a.toNatClampNeg = 1 then
      (fM_keenShows m a b).bind fun r3 =>
      some (r3.1, r3.2)
    else
      if m.1 62 a.toNatClampNeg = 4 then
        (fM_body m 51).bind fun r5 =>
        (fM_keenShows r5 a (b + 1)).bind fun r6 =>
        some (r6.1, r6.2)
      else
        if m.1 62 a.toNatClampNeg = 6 then
          (fM_body m 70).bind fun r8 =>
          (fM_drawerShows r8 a b).bind fun r9 =>
          (fM_drawerDraws r9.2 a 2).bind fun r10 =>
          some (r9.1 + r10.1, r10.2)
        else
          (fM_drawerShows m a b).bind fun r11 =>
          some (r11.1, r11.2)
  else none
theorem sM_showsAct {sh : Sh} {R : RR} (hF : Fx sh R) (m : MI) (a : Int32) (b : Int32) : KS (eI sh R) false 5 0 0 YX7_showsAct sh R m [.ref 61, .int a, .int b] (fM_showsAct m a b) := by
  refine KS_of pn_X7 (fun _ => Nat.le_of_ble_eq_true rfl) ?_
  change S _ _ _ _ _ _ _ _ _ _ [(0, .ref 61), (1, .int a), (2, .int b)] [] _
  unfold fM_showsAct
  refine o_aload_n (pc := 0) 0 dX7_showsAct_0 rfl rfl <| o_getRc (pc := 1) (a := 62) (ci := 7) (j := 5) (nn := 0) dX7_showsAct_1 (hF.1 _ _ rfl) rfl (Nat.le_of_ble_eq_true rfl) k_888 rfl (hF.2 _ _ _ rfl) <| o_iload_n (pc := 4) 1 dX7_showsAct_4 rfl rfl <| ?_
  refine S_ck fun h1 => ?_
  refine o_iald (pc := 5) (nn := 6) dX7_showsAct_5 (hF.1 _ _ rfl) (ck_in h1) <| ?_
  refine S_ite (fun h2 => ?_) (fun h2 => ?_)
  · refine o_lookup (pc := 6) (tgt := 40) (off := 34) dX7_showsAct_6 (by decide) (by rw [h2]; decide) rfl ?_
    refine o_aload_n (pc := 40) 0 dX7_showsAct_40 rfl rfl <| o_iload_n (pc := 41) 1 dX7_showsAct_41 rfl rfl <| o_iload_n (pc := 42) 2 dX7_showsAct_42 rfl rfl <| ?_
    refine o_callVI (Y2 := YX7_keenShows) (pc := 43) (av := [.int a, .int b]) (rest := []) dX7_showsAct_43 k_1400 cm_X7_keenShows (sM_keenShows hF m a b) (hF.1 _ _ rfl) rfl rfl (Nat.le_of_ble_eq_true rfl) (Nat.le_of_ble_eq_true rfl) fun r3 => ?_
    exact o_iret (pc := 46) dX7_showsAct_46 rfl rfl
  refine S_ite (fun h4 => ?_) (fun h4 => ?_)
  · refine o_lookup (pc := 6) (tgt := 47) (off := 41) dX7_showsAct_6 (by decide) (by rw [h4]; decide) rfl ?_
    refine o_aload_n (pc := 47) 0 dX7_showsAct_47 rfl rfl <| o_bipush (pc := 48) dX7_showsAct_48 lb_51 <| ?_
    refine o_callVV (Y2 := YX7_body) (pc := 50) (av := [.int 51]) (rest := []) dX7_showsAct_50 k_1388 cm_X7_body (sM_body hF m 51) (hF.1 _ _ rfl) rfl rfl (Nat.le_of_ble_eq_true rfl) (Nat.le_of_ble_eq_true rfl) fun r5 => ?_
    refine o_aload_n (pc := 53) 0 dX7_showsAct_53 rfl rfl <| o_iload_n (pc := 54) 1 dX7_showsAct_54 rfl rfl <| o_iload_n (pc := 55) 2 dX7_showsAct_55 rfl rfl <| o_iconst (pc := 56) dX7_showsAct_56 lc_1 <| o_iadd (pc := 57) dX7_showsAct_57 <| ?_
    refine o_callVI (Y2 := YX7_keenShows) (pc := 58) (av := [.int a, .int (b + 1)]) (rest := []) dX7_showsAct_58 k_1400 cm_X7_keenShows (sM_keenShows hF r5 a (b + 1)) (hF.1 _ _ rfl) rfl rfl (Nat.le_of_ble_eq_true rfl) (Nat.le_of_ble_eq_true rfl) fun r6 => ?_
    exact o_iret (pc := 61) dX7_showsAct_61 rfl rfl
  refine S_ite (fun h7 => ?_) (fun h7 => ?_)
  · refine o_lookup (pc := 6) (tgt := 62) (off := 56) dX7_showsAct_6 (by decide) (by rw [h7]; decide) rfl ?_
    refine o_aload_n (pc := 62) 0 dX7_showsAct_62 rfl rfl <| o_bipush (pc := 63) dX7_showsAct_63 lb_70 <| ?_
    refine o_callVV (Y2 := YX7_body) (pc := 65) (av := [.int 70]) (rest := []) dX7_showsAct_65 k_1388 cm_X7_body (sM_body hF m 70) (hF.1 _ _ rfl) rfl rfl (Nat.le_of_ble_eq_true rfl) (Nat.le_of_ble_eq_true rfl) fun r8 => ?_
    refine o_aload_n (pc := 68) 0 dX7_showsAct_68 rfl rfl <| o_iload_n (pc := 69) 1 dX7_showsAct_69 rfl rfl <| o_iload_n (pc := 70) 2 dX7_showsAct_70 rfl rfl <| ?_
    refine o_callVI (Y2 := YX7_drawerShows) (pc := 71) (av := [.int a, .int b]) (rest := []) dX7_showsAct_71 k_1404 cm_X7_drawerShows (sM_drawerShows hF r8 a b) (hF.1 _ _ rfl) rfl rfl (Nat.le_of_ble_eq_true rfl) (Nat.le_of_ble_eq_true rfl) fun r9 => ?_
    refine o_istore_n (pc := 74) (ls' := [(3, .int r9.1), (0, .ref 61), (1, .int a), (2, .int b)]) dX7_showsAct_74 rfl (Nat.le_of_ble_eq_true rfl) rfl <| o_iload_n (pc := 75) 0 dX7_showsAct_75 rfl rfl <| o_aload_n (pc := 76) 1 dX7_showsAct_76 rfl rfl <| o_iload_n (pc := 77) 2 dX7_showsAct_77 rfl rfl <| o_iconst (pc := 78) dX7_showsAct_78 lc_2 <| ?_
    refine o_callVI (Y2 := YX7_drawerDraws) (pc := 79) (av := [.int a, .int 2]) (rest := [.int r9.1]) dX7_showsAct_79 k_1392 cm_X7_drawerDraws (sM_drawerDraws hF r9.2 a 2) (hF.1 _ _ rfl) rfl rfl (Nat.le_of_ble_eq_true rfl) (Nat.le_of_ble_eq_true rfl) fun r10 => ?_
    refine o_iadd (pc := 82) dX7_showsAct_82 <| ?_
    exact o_iret (pc := 83) dX7_showsAct_83 rfl rfl
  refine o_lookup (pc := 6) (tgt := 84) (off := 78) dX7_showsAct_6 (by decide) ((lv_osw h2 rfl).trans ((lv_osw h4 rfl).trans ((lv_osw h7 rfl).trans rfl))) rfl ?_
  refine o_aload_n (pc := 84) 0 dX7_showsAct_84 rfl rfl <| o_iload_n (pc := 85) 1 dX7_showsAct_85 rfl rfl <| o_iload_n (pc := 86) 2 dX7_showsAct_86 rfl rfl <| ?_
  refine o_callVI (Y2 := YX7_drawerShows) (pc := 87) (av := [.int a, .int b]) (rest := []) dX7_showsAct_87 k_1404 cm_X7_drawerShows (sM_drawerShows hF m a b) (hF.1 _ _ rfl) rfl rfl (Nat.le_of_ble_eq_true rfl) (Nat.le_of_ble_eq_true rfl) fun r11 => ?_
  exact o_iret (pc := 90) dX7_showsAct_90 rfl rfl
def fM_drawerTells (m : MI) (a : Int32) (b : Int32) : Option (Int32 × MI) :=
  (fM_body m 12).bind fun r1 =>
  (fM_showsAct r1 a b).bind fun r2 =>
  some (r2.1 * 2, r2.2)
theorem sM_drawerTells {sh : Sh} {R : RR} (hF : Fx sh R) (m : MI) (a : Int32) (b : Int32) : KS (eI sh R) false 6 0 0 YX7_drawerTells sh R m [.ref 61, .int a, .int b] (fM_drawerTells m a b) := by
  refine KS_of pn_X7 (fun _ => Nat.le_of_ble_eq_true rfl) ?_
  change S _ _ _ _ _ _ _ _ _ _ [(0, .ref 61), (1, .int a), (2, .int b)] [] _
  unfold fM_drawerTells
  refine o_aload_n (pc := 0) 0 dX7_drawerTells_0 rfl rfl <| o_bipush (pc := 1) dX7_drawerTells_1 lb_12 <| ?_
  refine o_callVV (Y2 := YX7_body) (pc := 3) (av := [.int 12]) (rest := []) dX7_drawerTells_3 k_1388 cm_X7_body (sM_body hF m 12) (hF.1 _ _ rfl) rfl rfl (Nat.le_of_ble_eq_true rfl) (Nat.le_of_ble_eq_true rfl) fun r1 => ?_
  refine o_aload_n (pc := 6) 0 dX7_drawerTells_6 rfl rfl <| o_iload_n (pc := 7) 1 dX7_drawerTells_7 rfl rfl <| o_iload_n (pc := 8) 2 dX7_drawerTells_8 rfl rfl <| ?_
  refine o_callVI (Y2 := YX7_showsAct) (pc := 9) (av := [.int a, .int b]) (rest := []) dX7_drawerTells_9 k_1396 cm_X7_showsAct (sM_showsAct hF r1 a b) (hF.1 _ _ rfl) rfl rfl (Nat.le_of_ble_eq_true rfl) (Nat.le_of_ble_eq_true rfl) fun r2 => ?_
  refine o_iconst (pc := 12) dX7_drawerTells_12 lc_2 <| o_imul (pc := 13) dX7_drawerTells_13 <| ?_
  exact o_iret (pc := 14) dX7_drawerTells_14 rfl rfl
