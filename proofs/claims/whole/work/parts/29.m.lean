def fW_welcome (sh : Sh) (R : RR) (m : MI) (a : Int32) (b : Int32) : Option (Int32 × MI) :=
  lt (m.1 1 0) fun x1 =>
  if ck x1 6 = true then
    lm (mI m 2 (upd (m.1 2) x1.toNatClampNeg a)) fun m3 =>
    if ck x1 6 = true then
      lm (mI m3 3 (upd (m3.1 3) x1.toNatClampNeg b)) fun m5 =>
      if ck x1 6 = true then
        lm (mI m5 4 (upd (m5.1 4) x1.toNatClampNeg 0)) fun m7 =>
        if ck x1 6 = true then
          mq (R 11 x1.toNatClampNeg) fun q10 =>
          (fJA_fill_53178 sh R m7 q10 5).bind fun r11 =>
          if ck x1 6 = true then
            lm (mI r11 12 (upd (r11.1 12) x1.toNatClampNeg x1)) fun m13 =>
            lm (mI m13 1 (upd (m13.1 1) 0 ((m13.1 1 0) + 1))) fun m14 =>
            (fW_makeWhole sh R m14).bind fun r15 =>
            some (x1, r15)
          else none
        else none
      else none
    else none
  else none
theorem sW_welcome {sh : Sh} {R : RR} (hF : Fx sh R) (m : MI) (a : Int32) (b : Int32) : KS (eI sh R) false 3 0 0 YX5_welcome sh R m [.ref 1, .int a, .int b] (fW_welcome sh R m a b) := by
  refine KS_of pn_X5 (fun _ => Nat.le_of_ble_eq_true rfl) ?_
  change S _ _ _ _ _ _ _ _ _ _ [(0, .ref 1), (1, .int a), (2, .int b)] [] _
  unfold fW_welcome
  refine o_aload_n (pc := 0) 0 dX5_welcome_0 rfl rfl <| o_getI (pc := 1) (ci := 5) (j := 0) (nn := 0) dX5_welcome_1 (hF.1 _ _ rfl) rfl (Nat.le_of_ble_eq_true rfl) k_123 rfl <| ?_
  refine o_lt fun x1 => ?_
  refine o_istore_n (pc := 4) (ls' := [(3, .int x1), (0, .ref 1), (1, .int a), (2, .int b)]) dX5_welcome_4 rfl (Nat.le_of_ble_eq_true rfl) rfl <| o_aload_n (pc := 5) 1 dX5_welcome_5 rfl rfl <| o_getRc (pc := 6) (a := 2) (ci := 5) (j := 1) (nn := 0) dX5_welcome_6 (hF.1 _ _ rfl) rfl (Nat.le_of_ble_eq_true rfl) k_126 rfl (hF.2 _ _ _ rfl) <| o_iload_n (pc := 9) 0 dX5_welcome_9 rfl rfl <| o_iload_n (pc := 10) 2 dX5_welcome_10 rfl rfl <| ?_
  refine S_ck fun h2 => ?_
  refine o_iast (pc := 11) (nn := 6) dX5_welcome_11 (hF.1 _ _ rfl) (ck_in h2) <| ?_
  refine o_lm fun m3 => ?_
  refine o_aload_n (pc := 12) 1 dX5_welcome_12 rfl rfl <| o_getRc (pc := 13) (a := 3) (ci := 5) (j := 2) (nn := 0) dX5_welcome_13 (hF.1 _ _ rfl) rfl (Nat.le_of_ble_eq_true rfl) k_128 rfl (hF.2 _ _ _ rfl) <| o_iload_n (pc := 16) 0 dX5_welcome_16 rfl rfl <| o_iload_n (pc := 17) 3 dX5_welcome_17 rfl rfl <| ?_
  refine S_ck fun h4 => ?_
  refine o_iast (pc := 18) (nn := 6) dX5_welcome_18 (hF.1 _ _ rfl) (ck_in h4) <| ?_
  refine o_lm fun m5 => ?_
  refine o_aload_n (pc := 19) 1 dX5_welcome_19 rfl rfl <| o_getRc (pc := 20) (a := 4) (ci := 5) (j := 3) (nn := 0) dX5_welcome_20 (hF.1 _ _ rfl) rfl (Nat.le_of_ble_eq_true rfl) k_130 rfl (hF.2 _ _ _ rfl) <| o_iload_n (pc := 23) 0 dX5_welcome_23 rfl rfl <| o_iconst (pc := 24) dX5_welcome_24 lc_0 <| ?_
  refine S_ck fun h6 => ?_
  refine o_iast (pc := 25) (nn := 6) dX5_welcome_25 (hF.1 _ _ rfl) (ck_in h6) <| ?_
  refine o_lm fun m7 => ?_
  refine o_aload_n (pc := 26) 1 dX5_welcome_26 rfl rfl <| o_getRc (pc := 27) (a := 11) (ci := 5) (j := 4) (nn := 0) dX5_welcome_27 (hF.1 _ _ rfl) rfl (Nat.le_of_ble_eq_true rfl) k_132 rfl (hF.2 _ _ _ rfl) <| o_iload_n (pc := 30) 0 dX5_welcome_30 rfl rfl <| ?_
  refine S_ck fun h8 => ?_
  refine S_mq fun q10 h9 => ?_
  refine o_aaldI (pc := 31) (r := some q10) (nn := 6) dX5_welcome_31 (hF.1 _ _ rfl) (ck_in h8) h9 <| o_iconst (pc := 32) dX5_welcome_32 lc_5 <| ?_
  refine o_callSV (Y2 := YJ7_fill_53178) (pc := 33) (av := [.ref q10, .int 5]) (rest := []) dX5_welcome_33 k_331 cs_J7_fill_53178 (sJA_fill_53178 hF m7 q10 5) rfl rfl (Nat.le_of_ble_eq_true rfl) (Nat.le_of_ble_eq_true rfl) fun r11 => ?_
  refine o_aload_n (pc := 36) 1 dX5_welcome_36 rfl rfl <| o_getRc (pc := 37) (a := 12) (ci := 5) (j := 5) (nn := 0) dX5_welcome_37 (hF.1 _ _ rfl) rfl (Nat.le_of_ble_eq_true rfl) k_134 rfl (hF.2 _ _ _ rfl) <| o_iload_n (pc := 40) 0 dX5_welcome_40 rfl rfl <| o_iload_n (pc := 41) 0 dX5_welcome_41 rfl rfl <| ?_
  refine S_ck fun h12 => ?_
  refine o_iast (pc := 42) (nn := 6) dX5_welcome_42 (hF.1 _ _ rfl) (ck_in h12) <| ?_
  refine o_lm fun m13 => ?_
  refine o_aload_n (pc := 43) 1 dX5_welcome_43 rfl rfl <| o_dup (pc := 44) dX5_welcome_44 rfl <| o_getI (pc := 45) (ci := 5) (j := 0) (nn := 0) dX5_welcome_45 (hF.1 _ _ rfl) rfl (Nat.le_of_ble_eq_true rfl) k_123 rfl <| o_iconst (pc := 48) dX5_welcome_48 lc_1 <| o_iadd (pc := 49) dX5_welcome_49 <| o_putI (pc := 50) (ci := 5) (j := 0) (nn := 0) dX5_welcome_50 (hF.1 _ _ rfl) rfl (Nat.le_of_ble_eq_true rfl) k_123 rfl rfl rfl rfl rfl <| ?_
  refine o_lm fun m14 => ?_
  refine o_aload_n (pc := 53) 1 dX5_welcome_53 rfl rfl <| ?_
  refine o_callVV (Y2 := YX5_makeWhole) (pc := 54) (av := []) (rest := []) dX5_welcome_54 k_334 cm_X5_makeWhole (sW_makeWhole hF m14 ) (hF.1 _ _ rfl) rfl rfl (Nat.le_of_ble_eq_true rfl) (Nat.le_of_ble_eq_true rfl) fun r15 => ?_
  refine o_iload_n (pc := 57) 0 dX5_welcome_57 rfl rfl <| ?_
  exact o_iret (pc := 58) dX5_welcome_58 rfl rfl
def fC_drawer (sh : Sh) (R : RR) (m : MI) (a : Int32) (b : Int32) : Option (Int32 × MI) :=
  if a < 0 then
    some (-1, m)
  else
    if a < 7 then
      if b < 0 then
        some (-2, m)
      else
        if b ≤ 9 then
          if m.1 1 0 < 6 then
            (fW_welcome sh R m a b).bind fun r6 =>
            some (r6.1, r6.2)
          else
            some (-4, m)
        else
          some (-2, m)
    else
      some (-1, m)
theorem sC_drawer {sh : Sh} {R : RR} (hF : Fx sh R) (m : MI) (a : Int32) (b : Int32) : KS (eI sh R) false 4 0 0 YX6_drawer sh R m [.ref 0, .int a, .int b] (fC_drawer sh R m a b) := by
  refine KS_of pn_X6 (fun _ => Nat.le_of_ble_eq_true rfl) ?_
  change S _ _ _ _ _ _ _ _ _ _ [(0, .ref 0), (1, .int a), (2, .int b)] [] _
  unfold fC_drawer
  refine o_iload_n (pc := 0) 1 dX6_drawer_0 rfl rfl <| ?_
  refine o_if_lt (pc := 1) (tgt := 10) dX6_drawer_1 rfl (fun h1 => ?_) (fun h1 => ?_)
  · refine o_iconst (pc := 10) dX6_drawer_10 lc_m1 <| ?_
    exact o_iret (pc := 11) dX6_drawer_11 rfl rfl
  · refine o_iload_n (pc := 4) 1 dX6_drawer_4 rfl rfl <| o_bipush (pc := 5) dX6_drawer_5 lb_7 <| ?_
    refine o_icmp_lt (pc := 7) (tgt := 12) dX6_drawer_7 rfl (fun h2 => ?_) (fun h2 => ?_)
    · refine o_iload_n (pc := 12) 2 dX6_drawer_12 rfl rfl <| ?_
      refine o_if_lt (pc := 13) (tgt := 22) dX6_drawer_13 rfl (fun h3 => ?_) (fun h3 => ?_)
      · refine o_bipush (pc := 22) dX6_drawer_22 lb_m2 <| ?_
        exact o_iret (pc := 24) dX6_drawer_24 rfl rfl
      · refine o_iload_n (pc := 16) 2 dX6_drawer_16 rfl rfl <| o_bipush (pc := 17) dX6_drawer_17 lb_9 <| ?_
        refine o_icmp_le (pc := 19) (tgt := 25) dX6_drawer_19 rfl (fun h4 => ?_) (fun h4 => ?_)
        · refine o_aload_n (pc := 25) 0 dX6_drawer_25 rfl rfl <| o_getRc (pc := 26) (a := 1) (ci := 6) (j := 0) (nn := 0) dX6_drawer_26 (hF.1 _ _ rfl) rfl (Nat.le_of_ble_eq_true rfl) k_292 rfl (hF.2 _ _ _ rfl) <| o_getI (pc := 29) (ci := 5) (j := 0) (nn := 0) dX6_drawer_29 (hF.1 _ _ rfl) rfl (Nat.le_of_ble_eq_true rfl) k_124 rfl <| o_bipush (pc := 32) dX6_drawer_32 lb_6 <| ?_
          refine o_icmp_lt (pc := 34) (tgt := 40) dX6_drawer_34 rfl (fun h5 => ?_) (fun h5 => ?_)
          · refine o_aload_n (pc := 40) 0 dX6_drawer_40 rfl rfl <| o_getRc (pc := 41) (a := 1) (ci := 6) (j := 0) (nn := 0) dX6_drawer_41 (hF.1 _ _ rfl) rfl (Nat.le_of_ble_eq_true rfl) k_292 rfl (hF.2 _ _ _ rfl) <| o_iload_n (pc := 44) 1 dX6_drawer_44 rfl rfl <| o_iload_n (pc := 45) 2 dX6_drawer_45 rfl rfl <| ?_
            refine o_callVI (Y2 := YX5_welcome) (pc := 46) (av := [.int a, .int b]) (rest := []) dX6_drawer_46 k_327 cm_X5_welcome (sW_welcome hF m a b) (hF.1 _ _ rfl) rfl rfl (Nat.le_of_ble_eq_true rfl) (Nat.le_of_ble_eq_true rfl) fun r6 => ?_
            exact o_iret (pc := 49) dX6_drawer_49 rfl rfl
          · refine o_bipush (pc := 37) dX6_drawer_37 lb_m4 <| ?_
            exact o_iret (pc := 39) dX6_drawer_39 rfl rfl
        · refine o_bipush (pc := 22) dX6_drawer_22 lb_m2 <| ?_
          exact o_iret (pc := 24) dX6_drawer_24 rfl rfl
    · refine o_iconst (pc := 10) dX6_drawer_10 lc_m1 <| ?_
      exact o_iret (pc := 11) dX6_drawer_11 rfl rfl
def fW_has (m : MI) (a : Int32) : Option (Int32 × MI) :=
  if a < 0 then
    some (0, m)
  else
    if m.1 1 0 ≤ a then
      some (0, m)
    else
      some (1, m)
theorem sW_has {sh : Sh} {R : RR} (hF : Fx sh R) (m : MI) (a : Int32) : KS (eI sh R) false 0 0 0 YX5_has sh R m [.ref 1, .int a] (fW_has m a) := by
  refine KS_of pn_X5 (fun _ => Nat.le_of_ble_eq_true rfl) ?_
  change S _ _ _ _ _ _ _ _ _ _ [(0, .ref 1), (1, .int a)] [] _
  unfold fW_has
  refine o_iload_n (pc := 0) 1 dX5_has_0 rfl rfl <| ?_
  refine o_if_lt (pc := 1) (tgt := 16) dX5_has_1 rfl (fun h1 => ?_) (fun h1 => ?_)
  · refine o_iconst (pc := 16) dX5_has_16 lc_0 <| ?_
    exact o_zret (pc := 17) dX5_has_17 rfl rfl rfl
  · refine o_iload_n (pc := 4) 1 dX5_has_4 rfl rfl <| o_aload_n (pc := 5) 0 dX5_has_5 rfl rfl <| o_getI (pc := 6) (ci := 5) (j := 0) (nn := 0) dX5_has_6 (hF.1 _ _ rfl) rfl (Nat.le_of_ble_eq_true rfl) k_123 rfl <| ?_
    refine o_icmp_ge (pc := 9) (tgt := 16) dX5_has_9 rfl (fun h2 => ?_) (fun h2 => ?_)
    · refine o_iconst (pc := 16) dX5_has_16 lc_0 <| ?_
      exact o_zret (pc := 17) dX5_has_17 rfl rfl rfl
    · refine o_iconst (pc := 12) dX5_has_12 lc_1 <| o_goto (pc := 13) (tgt := 17) dX5_has_13 rfl <| ?_
      exact o_zret (pc := 17) dX5_has_17 rfl rfl rfl
def fW_placeOf_l2 (u1 : Int32) (k0_0 : MI → Int32 → Option (Int32 × MI)) : Nat → MI → Int32 → Option (Int32 × MI)
  | 0, _, _ => none
  | n0 + 1, m, v2 =>
    if (m.1 1 0) - 1 ≤ v2 then
      k0_0 m v2
    else
      if ck v2 6 = true then
        if m.1 12 v2.toNatClampNeg = u1 then
          k0_0 m v2
        else
          lt (v2 + 1) fun x4 =>
          fW_placeOf_l2 u1 k0_0 n0 m x4
      else none
theorem sW_placeOf_l2 {sh : Sh} {R : RR} (hF : Fx sh R) (u1 : Int32) (k0_0 : MI → Int32 → Option (Int32 × MI)) (hk0_0 : ∀ (m : MI) (v2 : Int32) , S (eI sh R) false 0 0 0 YX5_placeOf sh R m 28 [(0, .ref 1), (1, .int u1), (2, .int v2)] [] (k0_0 m v2)) : ∀ (n : Nat) (m : MI) (v2 : Int32) , S (eI sh R) false 0 0 0 YX5_placeOf sh R m 2 [(0, .ref 1), (1, .int u1), (2, .int v2)] [] (fW_placeOf_l2 u1 k0_0 n m v2) := by
  intro n
  induction n with
  | zero => intros; exact S_none
  | succ n0 ih0 =>
    intro m v2
    rw [fW_placeOf_l2]
    refine o_iload_n (pc := 2) 2 dX5_placeOf_2 rfl rfl <| o_aload_n (pc := 3) 0 dX5_placeOf_3 rfl rfl <| o_getI (pc := 4) (ci := 5) (j := 0) (nn := 0) dX5_placeOf_4 (hF.1 _ _ rfl) rfl (Nat.le_of_ble_eq_true rfl) k_123 rfl <| o_iconst (pc := 7) dX5_placeOf_7 lc_1 <| o_isub (pc := 8) dX5_placeOf_8 <| ?_
    refine o_icmp_ge (pc := 9) (tgt := 28) dX5_placeOf_9 rfl (fun h1 => ?_) (fun h1 => ?_)
    · exact hk0_0 m v2
    · refine o_aload_n (pc := 12) 0 dX5_placeOf_12 rfl rfl <| o_getRc (pc := 13) (a := 12) (ci := 5) (j := 5) (nn := 0) dX5_placeOf_13 (hF.1 _ _ rfl) rfl (Nat.le_of_ble_eq_true rfl) k_134 rfl (hF.2 _ _ _ rfl) <| o_iload_n (pc := 16) 2 dX5_placeOf_16 rfl rfl <| ?_
      refine S_ck fun h2 => ?_
      refine o_iald (pc := 17) (nn := 6) dX5_placeOf_17 (hF.1 _ _ rfl) (ck_in h2) <| o_iload_n (pc := 18) 1 dX5_placeOf_18 rfl rfl <| ?_
      refine o_icmp_eq (pc := 19) (tgt := 28) dX5_placeOf_19 rfl (fun h3 => ?_) (fun h3 => ?_)
      · exact hk0_0 m v2
      · refine o_iinc (pc := 22) 2 (v := v2 + 1) (ls' := [(2, .int (v2 + 1)), (0, .ref 1), (1, .int u1)]) dX5_placeOf_22 rfl rfl (Nat.le_of_ble_eq_true rfl) rfl <| ?_
        refine o_ltL (ls := fun x4 => [(2, .int x4), (0, .ref 1), (1, .int u1)]) fun x4 => ?_
        refine o_goto (pc := 25) (tgt := 2) dX5_placeOf_25 rfl <| ?_
        refine o_sub [1, 2, 0] (ls' := [(0, .ref 1), (1, .int u1), (2, .int x4)]) rfl ?_
        exact ih0 m x4
def fW_placeOf (m : MI) (a : Int32) : Option (Int32 × MI) :=
  fW_placeOf_l2 a
    (fun m2 z1 =>
      some (z1, m2)
      )
    1000 m 0
theorem sW_placeOf {sh : Sh} {R : RR} (hF : Fx sh R) (m : MI) (a : Int32) : KS (eI sh R) false 0 0 0 YX5_placeOf sh R m [.ref 1, .int a] (fW_placeOf m a) := by
  refine KS_of pn_X5 (fun _ => Nat.le_of_ble_eq_true rfl) ?_
  change S _ _ _ _ _ _ _ _ _ _ [(0, .ref 1), (1, .int a)] [] _
  unfold fW_placeOf
  refine o_iconst (pc := 0) dX5_placeOf_0 lc_0 <| o_istore_n (pc := 1) (ls' := [(2, .int 0), (0, .ref 1), (1, .int a)]) dX5_placeOf_1 rfl (Nat.le_of_ble_eq_true rfl) rfl <| ?_
  refine o_sub [1, 2, 0] (ls' := [(0, .ref 1), (1, .int a), (2, .int 0)]) rfl ?_
  refine sW_placeOf_l2 hF a _ ?_ 1000 m 0
  · intro m2 z1
    refine o_iload_n (pc := 28) 2 dX5_placeOf_28 rfl rfl <| ?_
    exact o_iret (pc := 29) dX5_placeOf_29 rfl rfl
def fH_plain_18_l8 (sh : Sh) (R : RR) (u0 : Nat) (k0_0 : MI → Int32 → Int32 → Int32 → Option (Int32 × MI)) : Nat → MI → Int32 → Int32 → Int32 → Option (Int32 × MI)
  | 0, _, _, _, _ => none
  | n0 + 1, m, v2, v3, v4 =>
    if sh[u0]? = some (11, 0) then
      mq (R u0 2) fun q3 =>
      if kA sh q3 0 = true then
        if Int32.ofNat (lenA sh q3) ≤ v4 then
          k0_0 m v2 v3 v4
        else
          mq (R u0 2) fun q7 =>
          if kA sh q7 0 = true then
            if ck v4 (lenA sh q7) = true then
              lt (m.1 q7 v4.toNatClampNeg) fun x10 =>
              if x10 &&& 7 = 1 then
                lt (v3 ^^^ 1) fun x12 =>
                lt (v4 + 1) fun x13 =>
                fH_plain_18_l8 sh R u0 k0_0 n0 m v2 x12 x13
              else
                if x10 &&& 7 = 2 then
                  lt ((v3 >>> (1 &&& 31)) &&& (v3 ||| (-2))) fun x15 =>
                  lt (v4 + 1) fun x16 =>
                  fH_plain_18_l8 sh R u0 k0_0 n0 m v2 x15 x16
                else
                  if x10 &&& 7 = 3 then
                    lt ((v3 >>> (1 &&& 31)) ||| (v3 &&& 1)) fun x18 =>
                    lt (v4 + 1) fun x19 =>
                    fH_plain_18_l8 sh R u0 k0_0 n0 m v2 x18 x19
                  else
                    if x10 &&& 7 = 4 then
                      lt (v2 + ((v3 &&& 1) * (x10 >>> (3 &&& 31)))) fun x21 =>
                      lt (v4 + 1) fun x22 =>
                      fH_plain_18_l8 sh R u0 k0_0 n0 m x21 0 x22
                    else
                      if x10 &&& 7 = 5 then
                        lt (v2 - ((v3 &&& 1) * (x10 >>> (3 &&& 31)))) fun x24 =>
                        lt (v4 + 1) fun x25 =>
                        fH_plain_18_l8 sh R u0 k0_0 n0 m x24 0 x25
                      else
                        lt ((x10 >>> (3 &&& 31)) &&& 7) fun x26 =>
                        if 6 ≤ x26 then
                          lt (x10 >>> (8 &&& 31)) fun x28 =>
                          if x28 ≤ 0 then
                            if 0 = x28 then
                              if 1 = (x10 >>> (6 &&& 31)) &&& 3 then
                                lt ((v3 <<< (1 &&& 31)) ||| 1) fun x32 =>
                                lt (v4 + 1) fun x33 =>
                                fH_plain_18_l8 sh R u0 k0_0 n0 m v2 x32 x33
                              else
                                lt ((v3 <<< (1 &&& 31)) ||| 0) fun x34 =>
                                lt (v4 + 1) fun x35 =>
                                fH_plain_18_l8 sh R u0 k0_0 n0 m v2 x34 x35
                            else
                              if 2 = (x10 >>> (6 &&& 31)) &&& 3 then
                                lt ((v3 <<< (1 &&& 31)) ||| 1) fun x37 =>
                                lt (v4 + 1) fun x38 =>
                                fH_plain_18_l8 sh R u0 k0_0 n0 m v2 x37 x38
                              else
                                lt ((v3 <<< (1 &&& 31)) ||| 0) fun x39 =>
                                lt (v4 + 1) fun x40 =>
                                fH_plain_18_l8 sh R u0 k0_0 n0 m v2 x39 x40
                          else
                            if 0 = (x10 >>> (6 &&& 31)) &&& 3 then
                              lt ((v3 <<< (1 &&& 31)) ||| 1) fun x42 =>
                              lt (v4 + 1) fun x43 =>
                              fH_plain_18_l8 sh R u0 k0_0 n0 m v2 x42 x43
                            else
                              lt ((v3 <<< (1 &&& 31)) ||| 0) fun x44 =>
                              lt (v4 + 1) fun x45 =>
                              fH_plain_18_l8 sh R u0 k0_0 n0 m v2 x44 x45
                        else
                          if ck x26 6 = true then
                            lt (m.1 18 x26.toNatClampNeg) fun x47 =>
                            lt (x10 >>> (8 &&& 31)) fun x48 =>
                            if x48 ≤ x47 then
                              if x47 = x48 then
                                if 1 = (x10 >>> (6 &&& 31)) &&& 3 then
                                  lt ((v3 <<< (1 &&& 31)) ||| 1) fun x52 =>
                                  lt (v4 + 1) fun x53 =>
                                  fH_plain_18_l8 sh R u0 k0_0 n0 m v2 x52 x53
                                else
                                  lt ((v3 <<< (1 &&& 31)) ||| 0) fun x54 =>
                                  lt (v4 + 1) fun x55 =>
                                  fH_plain_18_l8 sh R u0 k0_0 n0 m v2 x54 x55
                              else
                                if 2 = (x10 >>> (6 &&& 31)) &&& 3 then
                                  lt ((v3 <<< (1 &&& 31)) ||| 1) fun x57 =>
                                  lt (v4 + 1) fun x58 =>
                                  fH_plain_18_l8 sh R u0 k0_0 n0 m v2 x57 x58
                                else
                                  lt ((v3 <<< (1 &&& 31)) ||| 0) fun x59 =>
                                  lt (v4 + 1) fun x60 =>
                                  fH_plain_18_l8 sh R u0 k0_0 n0 m v2 x59 x60
                            else
                              if 0 = (x10 >>> (6 &&& 31)) &&& 3 then
                                lt ((v3 <<< (1 &&& 31)) ||| 1) fun x62 =>
                                lt (v4 + 1) fun x63 =>
                                fH_plain_18_l8 sh R u0 k0_0 n0 m v2 x62 x63
                              else
                                lt ((v3 <<< (1 &&& 31)) ||| 0) fun x64 =>
                                lt (v4 + 1) fun x65 =>
                                fH_plain_18_l8 sh R u0 k0_0 n0 m v2 x64 x65
                          else none
            else none
          else none
      else none
    else none
theorem sH_plain_18_l8 {sh : Sh} {R : RR} (hF : Fx sh R) (u0 : Nat) (k0_0 : MI → Int32 → Int32 → Int32 → Option (Int32 × MI)) (hk0_0 : ∀ (m : MI) (v2 : Int32) (v3 : Int32) (v4 : Int32) , S (eI sh R) false 1 0 0 YX1_plain sh R m 216 [(0, .ref u0), (1, .ref 18), (2, .int v2), (3, .int v3), (4, .int v4)] [] (k0_0 m v2 v3 v4)) : ∀ (n : Nat) (m : MI) (v2 : Int32) (v3 : Int32) (v4 : Int32) , S (eI sh R) false 1 0 0 YX1_plain sh R m 8 [(0, .ref u0), (1, .ref 18), (2, .int v2), (3, .int v3), (4, .int v4)] [] (fH_plain_18_l8 sh R u0 k0_0 n m v2 v3 v4) := by
  intro n
  induction n with
  | zero => intros; exact S_none
  | succ n0 ih0 =>
    intro m v2 v3 v4
    rw [fH_plain_18_l8]
    refine o_iload (pc := 8) 4 dX1_plain_8 rfl <| o_aload_n (pc := 10) 0 dX1_plain_10 rfl rfl <| ?_
    refine S_ck fun h1 => ?_
    refine S_mq fun q3 h2 => ?_
    refine o_getRc (pc := 11) (a := q3) (ci := 1) (j := 2) (nn := 0) dX1_plain_11 h1 rfl (Nat.le_of_ble_eq_true rfl) k_114 rfl h2 <| ?_
    refine S_ck fun h4 => ?_
    refine o_alenI (pc := 14) (nn := lenA sh q3) dX1_plain_14 (kA_ok h4) rfl <| ?_
    refine o_icmp_ge (pc := 15) (tgt := 216) dX1_plain_15 rfl (fun h5 => ?_) (fun h5 => ?_)
    · exact hk0_0 m v2 v3 v4
    · refine o_aload_n (pc := 18) 0 dX1_plain_18 rfl rfl <| ?_
      refine S_mq fun q7 h6 => ?_
      refine o_getRc (pc := 19) (a := q7) (ci := 1) (j := 2) (nn := 0) dX1_plain_19 h1 rfl (Nat.le_of_ble_eq_true rfl) k_114 rfl h6 <| o_iload (pc := 22) 4 dX1_plain_22 rfl <| ?_
      refine S_ck fun h8 => ?_
      refine S_ck fun h9 => ?_
      refine o_iald (pc := 24) (nn := lenA sh q7) dX1_plain_24 (kA_ok h8) (ck_in h9) <| ?_
      refine o_lt fun x10 => ?_
      refine o_istore (pc := 25) (ls' := [(5, .int x10), (0, .ref u0), (1, .ref 18), (2, .int v2), (3, .int v3), (4, .int v4)]) dX1_plain_25 (Nat.le_of_ble_eq_true rfl) rfl <| o_iload (pc := 27) 0 dX1_plain_27 rfl <| o_bipush (pc := 29) dX1_plain_29 lb_7 <| o_iand (pc := 31) dX1_plain_31 <| ?_
      refine S_ite (fun h11 => ?_) (fun h11 => ?_)
      · refine o_ts_in (pc := 32) (tgt := 68) 1 h11 dX1_plain_32 (by decide) (by decide) rfl rfl ?_
        refine o_iload_n (pc := 68) 4 dX1_plain_68 rfl rfl <| o_iconst (pc := 69) dX1_plain_69 lc_1 <| o_ixor (pc := 70) dX1_plain_70 <| ?_
        refine o_lt fun x12 => ?_
        refine o_istore_n (pc := 71) (ls' := [(3, .int x12), (5, .int x10), (0, .ref u0), (1, .ref 18), (2, .int v2), (4, .int v4)]) dX1_plain_71 rfl (Nat.le_of_ble_eq_true rfl) rfl <| o_goto (pc := 72) (tgt := 210) dX1_plain_72 rfl <| o_iinc (pc := 210) 5 (v := v4 + 1) (ls' := [(4, .int (v4 + 1)), (3, .int x12), (5, .int x10), (0, .ref u0), (1, .ref 18), (2, .int v2)]) dX1_plain_210 rfl rfl (Nat.le_of_ble_eq_true rfl) rfl <| ?_
        refine o_ltL (ls := fun x13 => [(4, .int x13), (3, .int x12), (5, .int x10), (0, .ref u0), (1, .ref 18), (2, .int v2)]) fun x13 => ?_
        refine o_goto (pc := 213) (tgt := 8) dX1_plain_213 rfl <| ?_
        refine o_sub [3, 4, 5, 1, 0] (ls' := [(0, .ref u0), (1, .ref 18), (2, .int v2), (3, .int x12), (4, .int x13)]) rfl ?_
        exact ih0 m v2 x12 x13
      refine S_ite (fun h14 => ?_) (fun h14 => ?_)
      · refine o_ts_in (pc := 32) (tgt := 75) 2 h14 dX1_plain_32 (by decide) (by decide) rfl rfl ?_
        refine o_iload_n (pc := 75) 4 dX1_plain_75 rfl rfl <| o_iconst (pc := 76) dX1_plain_76 lc_1 <| o_ishr (pc := 77) dX1_plain_77 <| o_iload_n (pc := 78) 4 dX1_plain_78 rfl rfl <| o_bipush (pc := 79) dX1_plain_79 lb_m2 <| o_ior (pc := 81) dX1_plain_81 <| o_iand (pc := 82) dX1_plain_82 <| ?_
        refine o_lt fun x15 => ?_
        refine o_istore_n (pc := 83) (ls' := [(3, .int x15), (5, .int x10), (0, .ref u0), (1, .ref 18), (2, .int v2), (4, .int v4)]) dX1_plain_83 rfl (Nat.le_of_ble_eq_true rfl) rfl <| o_goto (pc := 84) (tgt := 210) dX1_plain_84 rfl <| o_iinc (pc := 210) 5 (v := v4 + 1) (ls' := [(4, .int (v4 + 1)), (3, .int x15), (5, .int x10), (0, .ref u0), (1, .ref 18), (2, .int v2)]) dX1_plain_210 rfl rfl (Nat.le_of_ble_eq_true rfl) rfl <| ?_
        refine o_ltL (ls := fun x16 => [(4, .int x16), (3, .int x15), (5, .int x10), (0, .ref u0), (1, .ref 18), (2, .int v2)]) fun x16 => ?_
        refine o_goto (pc := 213) (tgt := 8) dX1_plain_213 rfl <| ?_
        refine o_sub [3, 4, 5, 1, 0] (ls' := [(0, .ref u0), (1, .ref 18), (2, .int v2), (3, .int x15), (4, .int x16)]) rfl ?_
        exact ih0 m v2 x15 x16
      refine S_ite (fun h17 => ?_) (fun h17 => ?_)
      · refine o_ts_in (pc := 32) (tgt := 87) 3 h17 dX1_plain_32 (by decide) (by decide) rfl rfl ?_
        refine o_iload_n (pc := 87) 4 dX1_plain_87 rfl rfl <| o_iconst (pc := 88) dX1_plain_88 lc_1 <| o_ishr (pc := 89) dX1_plain_89 <| o_iload_n (pc := 90) 4 dX1_plain_90 rfl rfl <| o_iconst (pc := 91) dX1_plain_91 lc_1 <| o_iand (pc := 92) dX1_plain_92 <| o_ior (pc := 93) dX1_plain_93 <| ?_
        refine o_lt fun x18 => ?_
        refine o_istore_n (pc := 94) (ls' := [(3, .int x18), (5, .int x10), (0, .ref u0), (1, .ref 18), (2, .int v2), (4, .int v4)]) dX1_plain_94 rfl (Nat.le_of_ble_eq_true rfl) rfl <| o_goto (pc := 95) (tgt := 210) dX1_plain_95 rfl <| o_iinc (pc := 210) 5 (v := v4 + 1) (ls' := [(4, .int (v4 + 1)), (3, .int x18), (5, .int x10), (0, .ref u0), (1, .ref 18), (2, .int v2)]) dX1_plain_210 rfl rfl (Nat.le_of_ble_eq_true rfl) rfl <| ?_
        refine o_ltL (ls := fun x19 => [(4, .int x19), (3, .int x18), (5, .int x10), (0, .ref u0), (1, .ref 18), (2, .int v2)]) fun x19 => ?_
        refine o_goto (pc := 213) (tgt := 8) dX1_plain_213 rfl <| ?_
        refine o_sub [3, 4, 5, 1, 0] (ls' := [(0, .ref u0), (1, .ref 18), (2, .int v2), (3, .int x18), (4, .int x19)]) rfl ?_
        exact ih0 m v2 x18 x19
      refine S_ite (fun h20 => ?_) (fun h20 => ?_)
      · refine o_ts_in (pc := 32) (tgt := 98) 4 h20 dX1_plain_32 (by decide) (by decide) rfl rfl ?_
        refine o_iload_n (pc := 98) 3 dX1_plain_98 rfl rfl <| o_iload_n (pc := 99) 4 dX1_plain_99 rfl rfl <| o_iconst (pc := 100) dX1_plain_100 lc_1 <| o_iand (pc := 101) dX1_plain_101 <| o_iload (pc := 102) 0 dX1_plain_102 rfl <| o_iconst (pc := 104) dX1_plain_104 lc_3 <| o_ishr (pc := 105) dX1_plain_105 <| o_imul (pc := 106) dX1_plain_106 <| o_iadd (pc := 107) dX1_plain_107 <| ?_
        refine o_lt fun x21 => ?_
        refine o_istore_n (pc := 108) (ls' := [(2, .int x21), (5, .int x10), (0, .ref u0), (1, .ref 18), (3, .int v3), (4, .int v4)]) dX1_plain_108 rfl (Nat.le_of_ble_eq_true rfl) rfl <| o_iconst (pc := 109) dX1_plain_109 lc_0 <| o_istore_n (pc := 110) (ls' := [(3, .int 0), (2, .int x21), (5, .int x10), (0, .ref u0), (1, .ref 18), (4, .int v4)]) dX1_plain_110 rfl (Nat.le_of_ble_eq_true rfl) rfl <| o_goto (pc := 111) (tgt := 210) dX1_plain_111 rfl <| o_iinc (pc := 210) 5 (v := v4 + 1) (ls' := [(4, .int (v4 + 1)), (3, .int 0), (2, .int x21), (5, .int x10), (0, .ref u0), (1, .ref 18)]) dX1_plain_210 rfl rfl (Nat.le_of_ble_eq_true rfl) rfl <| ?_
        refine o_ltL (ls := fun x22 => [(4, .int x22), (3, .int 0), (2, .int x21), (5, .int x10), (0, .ref u0), (1, .ref 18)]) fun x22 => ?_
        refine o_goto (pc := 213) (tgt := 8) dX1_plain_213 rfl <| ?_
        refine o_sub [4, 5, 2, 1, 0] (ls' := [(0, .ref u0), (1, .ref 18), (2, .int x21), (3, .int 0), (4, .int x22)]) rfl ?_
        exact ih0 m x21 0 x22
      refine S_ite (fun h23 => ?_) (fun h23 => ?_)
      · refine o_ts_in (pc := 32) (tgt := 114) 5 h23 dX1_plain_32 (by decide) (by decide) rfl rfl ?_
        refine o_iload_n (pc := 114) 3 dX1_plain_114 rfl rfl <| o_iload_n (pc := 115) 4 dX1_plain_115 rfl rfl <| o_iconst (pc := 116) dX1_plain_116 lc_1 <| o_iand (pc := 117) dX1_plain_117 <| o_iload (pc := 118) 0 dX1_plain_118 rfl <| o_iconst (pc := 120) dX1_plain_120 lc_3 <| o_ishr (pc := 121) dX1_plain_121 <| o_imul (pc := 122) dX1_plain_122 <| o_isub (pc := 123) dX1_plain_123 <| ?_
        refine o_lt fun x24 => ?_
        refine o_istore_n (pc := 124) (ls' := [(2, .int x24), (5, .int x10), (0, .ref u0), (1, .ref 18), (3, .int v3), (4, .int v4)]) dX1_plain_124 rfl (Nat.le_of_ble_eq_true rfl) rfl <| o_iconst (pc := 125) dX1_plain_125 lc_0 <| o_istore_n (pc := 126) (ls' := [(3, .int 0), (2, .int x24), (5, .int x10), (0, .ref u0), (1, .ref 18), (4, .int v4)]) dX1_plain_126 rfl (Nat.le_of_ble_eq_true rfl) rfl <| o_goto (pc := 127) (tgt := 210) dX1_plain_127 rfl <| o_iinc (pc := 210) 5 (v := v4 + 1) (ls' := [(4, .int (v4 + 1)), (3, .int 0), (2, .int x24), (5, .int x10), (0, .ref u0), (1, .ref 18)]) dX1_plain_210 rfl rfl (Nat.le_of_ble_eq_true rfl) rfl <| ?_
        refine o_ltL (ls := fun x25 => [(4, .int x25), (3, .int 0), (2, .int x24), (5, .int x10), (0, .ref u0), (1, .ref 18)]) fun x25 => ?_
        refine o_goto (pc := 213) (tgt := 8) dX1_plain_213 rfl <| ?_
        refine o_sub [4, 5, 2, 1, 0] (ls' := [(0, .ref u0), (1, .ref 18), (2, .int x24), (3, .int 0), (4, .int x25)]) rfl ?_
        exact ih0 m x24 0 x25
      refine o_ts_out (pc := 32) (tgt := 130) (ts_out (lo := 1) (hi := 5) [1, 2, 3, 4, 5] (by decide) (by decide) (fun c hc => by
          simp only [List.mem_cons, List.not_mem_nil, or_false] at hc
          rcases hc with rfl | rfl | rfl | rfl | rfl
          · exact h11
          · exact h14
          · exact h17
          · exact h20
          · exact h23)) dX1_plain_32 rfl ?_
      refine o_iload (pc := 130) 0 dX1_plain_130 rfl <| o_iconst (pc := 132) dX1_plain_132 lc_3 <| o_ishr (pc := 133) dX1_plain_133 <| o_bipush (pc := 134) dX1_plain_134 lb_7 <| o_iand (pc := 136) dX1_plain_136 <| ?_
      refine o_lt fun x26 => ?_
      refine o_istore (pc := 137) (ls' := [(6, .int x26), (5, .int x10), (0, .ref u0), (1, .ref 18), (2, .int v2), (3, .int v3), (4, .int v4)]) dX1_plain_137 (Nat.le_of_ble_eq_true rfl) rfl <| o_iload (pc := 139) 0 dX1_plain_139 rfl <| o_bipush (pc := 141) dX1_plain_141 lb_6 <| ?_
      refine o_icmp_ge (pc := 143) (tgt := 153) dX1_plain_143 rfl (fun h27 => ?_) (fun h27 => ?_)
      · refine o_iconst (pc := 153) dX1_plain_153 lc_0 <| o_istore (pc := 154) (ls' := [(7, .int 0), (6, .int x26), (5, .int x10), (0, .ref u0), (1, .ref 18), (2, .int v2), (3, .int v3), (4, .int v4)]) dX1_plain_154 (Nat.le_of_ble_eq_true rfl) rfl <| o_iload (pc := 156) 2 dX1_plain_156 rfl <| o_bipush (pc := 158) dX1_plain_158 lb_8 <| o_ishr (pc := 160) dX1_plain_160 <| ?_
        refine o_lt fun x28 => ?_
        refine o_istore (pc := 161) (ls' := [(8, .int x28), (7, .int 0), (6, .int x26), (5, .int x10), (0, .ref u0), (1, .ref 18), (2, .int v2), (3, .int v3), (4, .int v4)]) dX1_plain_161 (Nat.le_of_ble_eq_true rfl) rfl <| o_iload (pc := 163) 1 dX1_plain_163 rfl <| o_iload (pc := 165) 0 dX1_plain_165 rfl <| ?_
        refine o_icmp_ge (pc := 167) (tgt := 174) dX1_plain_167 rfl (fun h29 => ?_) (fun h29 => ?_)
        · refine o_iload (pc := 174) 1 dX1_plain_174 rfl <| o_iload (pc := 176) 0 dX1_plain_176 rfl <| ?_
          refine o_icmp_ne (pc := 178) (tgt := 185) dX1_plain_178 rfl (fun h30 => ?_) (fun h30 => ?_)
          · refine o_iconst (pc := 181) dX1_plain_181 lc_1 <| o_goto (pc := 182) (tgt := 186) dX1_plain_182 rfl <| o_istore (pc := 186) (ls' := [(9, .int 1), (8, .int x28), (7, .int 0), (6, .int x26), (5, .int x10), (0, .ref u0), (1, .ref 18), (2, .int v2), (3, .int v3), (4, .int v4)]) dX1_plain_186 (Nat.le_of_ble_eq_true rfl) rfl <| o_iload_n (pc := 188) 8 dX1_plain_188 rfl rfl <| o_iconst (pc := 189) dX1_plain_189 lc_1 <| o_ishl (pc := 190) dX1_plain_190 <| o_iload (pc := 191) 0 dX1_plain_191 rfl <| o_iload (pc := 193) 4 dX1_plain_193 rfl <| o_bipush (pc := 195) dX1_plain_195 lb_6 <| o_ishr (pc := 197) dX1_plain_197 <| ?_
            refine o_iconst (pc := 198) dX1_plain_198 lc_3 <| o_iand (pc := 199) dX1_plain_199 <| ?_
            refine o_icmp_ne (pc := 200) (tgt := 207) dX1_plain_200 rfl (fun h31 => ?_) (fun h31 => ?_)
            · refine o_iconst (pc := 203) dX1_plain_203 lc_1 <| o_goto (pc := 204) (tgt := 208) dX1_plain_204 rfl <| o_ior (pc := 208) dX1_plain_208 <| ?_
              refine o_lt fun x32 => ?_
              refine o_istore_n (pc := 209) (ls' := [(3, .int x32), (9, .int 1), (8, .int x28), (7, .int 0), (6, .int x26), (5, .int x10), (0, .ref u0), (1, .ref 18), (2, .int v2), (4, .int v4)]) dX1_plain_209 rfl (Nat.le_of_ble_eq_true rfl) rfl <| o_iinc (pc := 210) 9 (v := v4 + 1) (ls' := [(4, .int (v4 + 1)), (3, .int x32), (9, .int 1), (8, .int x28), (7, .int 0), (6, .int x26), (5, .int x10), (0, .ref u0), (1, .ref 18), (2, .int v2)]) dX1_plain_210 rfl rfl (Nat.le_of_ble_eq_true rfl) rfl <| ?_
              refine o_ltL (ls := fun x33 => [(4, .int x33), (3, .int x32), (9, .int 1), (8, .int x28), (7, .int 0), (6, .int x26), (5, .int x10), (0, .ref u0), (1, .ref 18), (2, .int v2)]) fun x33 => ?_
              refine o_goto (pc := 213) (tgt := 8) dX1_plain_213 rfl <| ?_
              refine o_sub [7, 8, 9, 1, 0] (ls' := [(0, .ref u0), (1, .ref 18), (2, .int v2), (3, .int x32), (4, .int x33)]) rfl ?_
              exact ih0 m v2 x32 x33
            · refine o_iconst (pc := 207) dX1_plain_207 lc_0 <| o_ior (pc := 208) dX1_plain_208 <| ?_
              refine o_lt fun x34 => ?_
              refine o_istore_n (pc := 209) (ls' := [(3, .int x34), (9, .int 1), (8, .int x28), (7, .int 0), (6, .int x26), (5, .int x10), (0, .ref u0), (1, .ref 18), (2, .int v2), (4, .int v4)]) dX1_plain_209 rfl (Nat.le_of_ble_eq_true rfl) rfl <| o_iinc (pc := 210) 9 (v := v4 + 1) (ls' := [(4, .int (v4 + 1)), (3, .int x34), (9, .int 1), (8, .int x28), (7, .int 0), (6, .int x26), (5, .int x10), (0, .ref u0), (1, .ref 18), (2, .int v2)]) dX1_plain_210 rfl rfl (Nat.le_of_ble_eq_true rfl) rfl <| ?_
              refine o_ltL (ls := fun x35 => [(4, .int x35), (3, .int x34), (9, .int 1), (8, .int x28), (7, .int 0), (6, .int x26), (5, .int x10), (0, .ref u0), (1, .ref 18), (2, .int v2)]) fun x35 => ?_
              refine o_goto (pc := 213) (tgt := 8) dX1_plain_213 rfl <| ?_
              refine o_sub [7, 8, 9, 1, 0] (ls' := [(0, .ref u0), (1, .ref 18), (2, .int v2), (3, .int x34), (4, .int x35)]) rfl ?_
              exact ih0 m v2 x34 x35
          · refine o_iconst (pc := 185) dX1_plain_185 lc_2 <| o_istore (pc := 186) (ls' := [(9, .int 2), (8, .int x28), (7, .int 0), (6, .int x26), (5, .int x10), (0, .ref u0), (1, .ref 18), (2, .int v2), (3, .int v3), (4, .int v4)]) dX1_plain_186 (Nat.le_of_ble_eq_true rfl) rfl <| o_iload_n (pc := 188) 8 dX1_plain_188 rfl rfl <| o_iconst (pc := 189) dX1_plain_189 lc_1 <| o_ishl (pc := 190) dX1_plain_190 <| o_iload (pc := 191) 0 dX1_plain_191 rfl <| o_iload (pc := 193) 4 dX1_plain_193 rfl <| o_bipush (pc := 195) dX1_plain_195 lb_6 <| o_ishr (pc := 197) dX1_plain_197 <| o_iconst (pc := 198) dX1_plain_198 lc_3 <| ?_
            refine o_iand (pc := 199) dX1_plain_199 <| ?_
            refine o_icmp_ne (pc := 200) (tgt := 207) dX1_plain_200 rfl (fun h36 => ?_) (fun h36 => ?_)
            · refine o_iconst (pc := 203) dX1_plain_203 lc_1 <| o_goto (pc := 204) (tgt := 208) dX1_plain_204 rfl <| o_ior (pc := 208) dX1_plain_208 <| ?_
              refine o_lt fun x37 => ?_
              refine o_istore_n (pc := 209) (ls' := [(3, .int x37), (9, .int 2), (8, .int x28), (7, .int 0), (6, .int x26), (5, .int x10), (0, .ref u0), (1, .ref 18), (2, .int v2), (4, .int v4)]) dX1_plain_209 rfl (Nat.le_of_ble_eq_true rfl) rfl <| o_iinc (pc := 210) 9 (v := v4 + 1) (ls' := [(4, .int (v4 + 1)), (3, .int x37), (9, .int 2), (8, .int x28), (7, .int 0), (6, .int x26), (5, .int x10), (0, .ref u0), (1, .ref 18), (2, .int v2)]) dX1_plain_210 rfl rfl (Nat.le_of_ble_eq_true rfl) rfl <| ?_
              refine o_ltL (ls := fun x38 => [(4, .int x38), (3, .int x37), (9, .int 2), (8, .int x28), (7, .int 0), (6, .int x26), (5, .int x10), (0, .ref u0), (1, .ref 18), (2, .int v2)]) fun x38 => ?_
              refine o_goto (pc := 213) (tgt := 8) dX1_plain_213 rfl <| ?_
              refine o_sub [7, 8, 9, 1, 0] (ls' := [(0, .ref u0), (1, .ref 18), (2, .int v2), (3, .int x37), (4, .int x38)]) rfl ?_
              exact ih0 m v2 x37 x38
            · refine o_iconst (pc := 207) dX1_plain_207 lc_0 <| o_ior (pc := 208) dX1_plain_208 <| ?_
              refine o_lt fun x39 => ?_
              refine o_istore_n (pc := 209) (ls' := [(3, .int x39), (9, .int 2), (8, .int x28), (7, .int 0), (6, .int x26), (5, .int x10), (0, .ref u0), (1, .ref 18), (2, .int v2), (4, .int v4)]) dX1_plain_209 rfl (Nat.le_of_ble_eq_true rfl) rfl <| o_iinc (pc := 210) 9 (v := v4 + 1) (ls' := [(4, .int (v4 + 1)), (3, .int x39), (9, .int 2), (8, .int x28), (7, .int 0), (6, .int x26), (5, .int x10), (0, .ref u0), (1, .ref 18), (2, .int v2)]) dX1_plain_210 rfl rfl (Nat.le_of_ble_eq_true rfl) rfl <| ?_
              refine o_ltL (ls := fun x40 => [(4, .int x40), (3, .int x39), (9, .int 2), (8, .int x28), (7, .int 0), (6, .int x26), (5, .int x10), (0, .ref u0), (1, .ref 18), (2, .int v2)]) fun x40 => ?_
              refine o_goto (pc := 213) (tgt := 8) dX1_plain_213 rfl <| ?_
              refine o_sub [7, 8, 9, 1, 0] (ls' := [(0, .ref u0), (1, .ref 18), (2, .int v2), (3, .int x39), (4, .int x40)]) rfl ?_
              exact ih0 m v2 x39 x40
        · refine o_iconst (pc := 170) dX1_plain_170 lc_0 <| o_goto (pc := 171) (tgt := 186) dX1_plain_171 rfl <| o_istore (pc := 186) (ls' := [(9, .int 0), (8, .int x28), (7, .int 0), (6, .int x26), (5, .int x10), (0, .ref u0), (1, .ref 18), (2, .int v2), (3, .int v3), (4, .int v4)]) dX1_plain_186 (Nat.le_of_ble_eq_true rfl) rfl <| o_iload_n (pc := 188) 8 dX1_plain_188 rfl rfl <| o_iconst (pc := 189) dX1_plain_189 lc_1 <| o_ishl (pc := 190) dX1_plain_190 <| o_iload (pc := 191) 0 dX1_plain_191 rfl <| o_iload (pc := 193) 4 dX1_plain_193 rfl <| o_bipush (pc := 195) dX1_plain_195 lb_6 <| o_ishr (pc := 197) dX1_plain_197 <| ?_
          refine o_iconst (pc := 198) dX1_plain_198 lc_3 <| o_iand (pc := 199) dX1_plain_199 <| ?_
          refine o_icmp_ne (pc := 200) (tgt := 207) dX1_plain_200 rfl (fun h41 => ?_) (fun h41 => ?_)
          · refine o_iconst (pc := 203) dX1_plain_203 lc_1 <| o_goto (pc := 204) (tgt := 208) dX1_plain_204 rfl <| o_ior (pc := 208) dX1_plain_208 <| ?_
            refine o_lt fun x42 => ?_
            refine o_istore_n (pc := 209) (ls' := [(3, .int x42), (9, .int 0), (8, .int x28), (7, .int 0), (6, .int x26), (5, .int x10), (0, .ref u0), (1, .ref 18), (2, .int v2), (4, .int v4)]) dX1_plain_209 rfl (Nat.le_of_ble_eq_true rfl) rfl <| o_iinc (pc := 210) 9 (v := v4 + 1) (ls' := [(4, .int (v4 + 1)), (3, .int x42), (9, .int 0), (8, .int x28), (7, .int 0), (6, .int x26), (5, .int x10), (0, .ref u0), (1, .ref 18), (2, .int v2)]) dX1_plain_210 rfl rfl (Nat.le_of_ble_eq_true rfl) rfl <| ?_
            refine o_ltL (ls := fun x43 => [(4, .int x43), (3, .int x42), (9, .int 0), (8, .int x28), (7, .int 0), (6, .int x26), (5, .int x10), (0, .ref u0), (1, .ref 18), (2, .int v2)]) fun x43 => ?_
            refine o_goto (pc := 213) (tgt := 8) dX1_plain_213 rfl <| ?_
            refine o_sub [7, 8, 9, 1, 0] (ls' := [(0, .ref u0), (1, .ref 18), (2, .int v2), (3, .int x42), (4, .int x43)]) rfl ?_
            exact ih0 m v2 x42 x43
          · refine o_iconst (pc := 207) dX1_plain_207 lc_0 <| o_ior (pc := 208) dX1_plain_208 <| ?_
            refine o_lt fun x44 => ?_
            refine o_istore_n (pc := 209) (ls' := [(3, .int x44), (9, .int 0), (8, .int x28), (7, .int 0), (6, .int x26), (5, .int x10), (0, .ref u0), (1, .ref 18), (2, .int v2), (4, .int v4)]) dX1_plain_209 rfl (Nat.le_of_ble_eq_true rfl) rfl <| o_iinc (pc := 210) 9 (v := v4 + 1) (ls' := [(4, .int (v4 + 1)), (3, .int x44), (9, .int 0), (8, .int x28), (7, .int 0), (6, .int x26), (5, .int x10), (0, .ref u0), (1, .ref 18), (2, .int v2)]) dX1_plain_210 rfl rfl (Nat.le_of_ble_eq_true rfl) rfl <| ?_
            refine o_ltL (ls := fun x45 => [(4, .int x45), (3, .int x44), (9, .int 0), (8, .int x28), (7, .int 0), (6, .int x26), (5, .int x10), (0, .ref u0), (1, .ref 18), (2, .int v2)]) fun x45 => ?_
            refine o_goto (pc := 213) (tgt := 8) dX1_plain_213 rfl <| ?_
            refine o_sub [7, 8, 9, 1, 0] (ls' := [(0, .ref u0), (1, .ref 18), (2, .int v2), (3, .int x44), (4, .int x45)]) rfl ?_
            exact ih0 m v2 x44 x45
      · refine o_aload_n (pc := 146) 3 dX1_plain_146 rfl rfl <| o_iload (pc := 147) 0 dX1_plain_147 rfl <| ?_
        refine S_ck fun h46 => ?_
        refine o_iald (pc := 149) (nn := 6) dX1_plain_149 (hF.1 _ _ rfl) (ck_in h46) <| o_goto (pc := 150) (tgt := 154) dX1_plain_150 rfl <| ?_
        refine o_lt fun x47 => ?_
        refine o_istore (pc := 154) (ls' := [(7, .int x47), (6, .int x26), (5, .int x10), (0, .ref u0), (1, .ref 18), (2, .int v2), (3, .int v3), (4, .int v4)]) dX1_plain_154 (Nat.le_of_ble_eq_true rfl) rfl <| o_iload (pc := 156) 2 dX1_plain_156 rfl <| o_bipush (pc := 158) dX1_plain_158 lb_8 <| o_ishr (pc := 160) dX1_plain_160 <| ?_
        refine o_lt fun x48 => ?_
        refine o_istore (pc := 161) (ls' := [(8, .int x48), (7, .int x47), (6, .int x26), (5, .int x10), (0, .ref u0), (1, .ref 18), (2, .int v2), (3, .int v3), (4, .int v4)]) dX1_plain_161 (Nat.le_of_ble_eq_true rfl) rfl <| o_iload (pc := 163) 1 dX1_plain_163 rfl <| o_iload (pc := 165) 0 dX1_plain_165 rfl <| ?_
        refine o_icmp_ge (pc := 167) (tgt := 174) dX1_plain_167 rfl (fun h49 => ?_) (fun h49 => ?_)
        · refine o_iload (pc := 174) 1 dX1_plain_174 rfl <| o_iload (pc := 176) 0 dX1_plain_176 rfl <| ?_
          refine o_icmp_ne (pc := 178) (tgt := 185) dX1_plain_178 rfl (fun h50 => ?_) (fun h50 => ?_)
          · refine o_iconst (pc := 181) dX1_plain_181 lc_1 <| o_goto (pc := 182) (tgt := 186) dX1_plain_182 rfl <| o_istore (pc := 186) (ls' := [(9, .int 1), (8, .int x48), (7, .int x47), (6, .int x26), (5, .int x10), (0, .ref u0), (1, .ref 18), (2, .int v2), (3, .int v3), (4, .int v4)]) dX1_plain_186 (Nat.le_of_ble_eq_true rfl) rfl <| o_iload_n (pc := 188) 8 dX1_plain_188 rfl rfl <| o_iconst (pc := 189) dX1_plain_189 lc_1 <| o_ishl (pc := 190) dX1_plain_190 <| o_iload (pc := 191) 0 dX1_plain_191 rfl <| o_iload (pc := 193) 4 dX1_plain_193 rfl <| o_bipush (pc := 195) dX1_plain_195 lb_6 <| o_ishr (pc := 197) dX1_plain_197 <| ?_
            refine o_iconst (pc := 198) dX1_plain_198 lc_3 <| o_iand (pc := 199) dX1_plain_199 <| ?_
            refine o_icmp_ne (pc := 200) (tgt := 207) dX1_plain_200 rfl (fun h51 => ?_) (fun h51 => ?_)
            · refine o_iconst (pc := 203) dX1_plain_203 lc_1 <| o_goto (pc := 204) (tgt := 208) dX1_plain_204 rfl <| o_ior (pc := 208) dX1_plain_208 <| ?_
              refine o_lt fun x52 => ?_
              refine o_istore_n (pc := 209) (ls' := [(3, .int x52), (9, .int 1), (8, .int x48), (7, .int x47), (6, .int x26), (5, .int x10), (0, .ref u0), (1, .ref 18), (2, .int v2), (4, .int v4)]) dX1_plain_209 rfl (Nat.le_of_ble_eq_true rfl) rfl <| o_iinc (pc := 210) 9 (v := v4 + 1) (ls' := [(4, .int (v4 + 1)), (3, .int x52), (9, .int 1), (8, .int x48), (7, .int x47), (6, .int x26), (5, .int x10), (0, .ref u0), (1, .ref 18), (2, .int v2)]) dX1_plain_210 rfl rfl (Nat.le_of_ble_eq_true rfl) rfl <| ?_
              refine o_ltL (ls := fun x53 => [(4, .int x53), (3, .int x52), (9, .int 1), (8, .int x48), (7, .int x47), (6, .int x26), (5, .int x10), (0, .ref u0), (1, .ref 18), (2, .int v2)]) fun x53 => ?_
              refine o_goto (pc := 213) (tgt := 8) dX1_plain_213 rfl <| ?_
              refine o_sub [7, 8, 9, 1, 0] (ls' := [(0, .ref u0), (1, .ref 18), (2, .int v2), (3, .int x52), (4, .int x53)]) rfl ?_
              exact ih0 m v2 x52 x53
            · refine o_iconst (pc := 207) dX1_plain_207 lc_0 <| o_ior (pc := 208) dX1_plain_208 <| ?_
              refine o_lt fun x54 => ?_
              refine o_istore_n (pc := 209) (ls' := [(3, .int x54), (9, .int 1), (8, .int x48), (7, .int x47), (6, .int x26), (5, .int x10), (0, .ref u0), (1, .ref 18), (2, .int v2), (4, .int v4)]) dX1_plain_209 rfl (Nat.le_of_ble_eq_true rfl) rfl <| o_iinc (pc := 210) 9 (v := v4 + 1) (ls' := [(4, .int (v4 + 1)), (3, .int x54), (9, .int 1), (8, .int x48), (7, .int x47), (6, .int x26), (5, .int x10), (0, .ref u0), (1, .ref 18), (2, .int v2)]) dX1_plain_210 rfl rfl (Nat.le_of_ble_eq_true rfl) rfl <| ?_
              refine o_ltL (ls := fun x55 => [(4, .int x55), (3, .int x54), (9, .int 1), (8, .int x48), (7, .int x47), (6, .int x26), (5, .int x10), (0, .ref u0), (1, .ref 18), (2, .int v2)]) fun x55 => ?_
              refine o_goto (pc := 213) (tgt := 8) dX1_plain_213 rfl <| ?_
              refine o_sub [7, 8, 9, 1, 0] (ls' := [(0, .ref u0), (1, .ref 18), (2, .int v2), (3, .int x54), (4, .int x55)]) rfl ?_
              exact ih0 m v2 x54 x55
          · refine o_iconst (pc := 185) dX1_plain_185 lc_2 <| o_istore (pc := 186) (ls' := [(9, .int 2), (8, .int x48), (7, .int x47), (6, .int x26), (5, .int x10), (0, .ref u0), (1, .ref 18), (2, .int v2), (3, .int v3), (4, .int v4)]) dX1_plain_186 (Nat.le_of_ble_eq_true rfl) rfl <| o_iload_n (pc := 188) 8 dX1_plain_188 rfl rfl <| o_iconst (pc := 189) dX1_plain_189 lc_1 <| o_ishl (pc := 190) dX1_plain_190 <| o_iload (pc := 191) 0 dX1_plain_191 rfl <| o_iload (pc := 193) 4 dX1_plain_193 rfl <| o_bipush (pc := 195) dX1_plain_195 lb_6 <| o_ishr (pc := 197) dX1_plain_197 <| o_iconst (pc := 198) dX1_plain_198 lc_3 <| ?_
            refine o_iand (pc := 199) dX1_plain_199 <| ?_
            refine o_icmp_ne (pc := 200) (tgt := 207) dX1_plain_200 rfl (fun h56 => ?_) (fun h56 => ?_)
            · refine o_iconst (pc := 203) dX1_plain_203 lc_1 <| o_goto (pc := 204) (tgt := 208) dX1_plain_204 rfl <| o_ior (pc := 208) dX1_plain_208 <| ?_
              refine o_lt fun x57 => ?_
              refine o_istore_n (pc := 209) (ls' := [(3, .int x57), (9, .int 2), (8, .int x48), (7, .int x47), (6, .int x26), (5, .int x10), (0, .ref u0), (1, .ref 18), (2, .int v2), (4, .int v4)]) dX1_plain_209 rfl (Nat.le_of_ble_eq_true rfl) rfl <| o_iinc (pc := 210) 9 (v := v4 + 1) (ls' := [(4, .int (v4 + 1)), (3, .int x57), (9, .int 2), (8, .int x48), (7, .int x47), (6, .int x26), (5, .int x10), (0, .ref u0), (1, .ref 18), (2, .int v2)]) dX1_plain_210 rfl rfl (Nat.le_of_ble_eq_true rfl) rfl <| ?_
              refine o_ltL (ls := fun x58 => [(4, .int x58), (3, .int x57), (9, .int 2), (8, .int x48), (7, .int x47), (6, .int x26), (5, .int x10), (0, .ref u0), (1, .ref 18), (2, .int v2)]) fun x58 => ?_
              refine o_goto (pc := 213) (tgt := 8) dX1_plain_213 rfl <| ?_
              refine o_sub [7, 8, 9, 1, 0] (ls' := [(0, .ref u0), (1, .ref 18), (2, .int v2), (3, .int x57), (4, .int x58)]) rfl ?_
              exact ih0 m v2 x57 x58
            · refine o_iconst (pc := 207) dX1_plain_207 lc_0 <| o_ior (pc := 208) dX1_plain_208 <| ?_
              refine o_lt fun x59 => ?_
              refine o_istore_n (pc := 209) (ls' := [(3, .int x59), (9, .int 2), (8, .int x48), (7, .int x47), (6, .int x26), (5, .int x10), (0, .ref u0), (1, .ref 18), (2, .int v2), (4, .int v4)]) dX1_plain_209 rfl (Nat.le_of_ble_eq_true rfl) rfl <| o_iinc (pc := 210) 9 (v := v4 + 1) (ls' := [(4, .int (v4 + 1)), (3, .int x59), (9, .int 2), (8, .int x48), (7, .int x47), (6, .int x26), (5, .int x10), (0, .ref u0), (1, .ref 18), (2, .int v2)]) dX1_plain_210 rfl rfl (Nat.le_of_ble_eq_true rfl) rfl <| ?_
              refine o_ltL (ls := fun x60 => [(4, .int x60), (3, .int x59), (9, .int 2), (8, .int x48), (7, .int x47), (6, .int x26), (5, .int x10), (0, .ref u0), (1, .ref 18), (2, .int v2)]) fun x60 => ?_
              refine o_goto (pc := 213) (tgt := 8) dX1_plain_213 rfl <| ?_
              refine o_sub [7, 8, 9, 1, 0] (ls' := [(0, .ref u0), (1, .ref 18), (2, .int v2), (3, .int x59), (4, .int x60)]) rfl ?_
              exact ih0 m v2 x59 x60
        · refine o_iconst (pc := 170) dX1_plain_170 lc_0 <| o_goto (pc := 171) (tgt := 186) dX1_plain_171 rfl <| o_istore (pc := 186) (ls' := [(9, .int 0), (8, .int x48), (7, .int x47), (6, .int x26), (5, .int x10), (0, .ref u0), (1, .ref 18), (2, .int v2), (3, .int v3), (4, .int v4)]) dX1_plain_186 (Nat.le_of_ble_eq_true rfl) rfl <| o_iload_n (pc := 188) 8 dX1_plain_188 rfl rfl <| o_iconst (pc := 189) dX1_plain_189 lc_1 <| o_ishl (pc := 190) dX1_plain_190 <| o_iload (pc := 191) 0 dX1_plain_191 rfl <| o_iload (pc := 193) 4 dX1_plain_193 rfl <| o_bipush (pc := 195) dX1_plain_195 lb_6 <| o_ishr (pc := 197) dX1_plain_197 <| ?_
          refine o_iconst (pc := 198) dX1_plain_198 lc_3 <| o_iand (pc := 199) dX1_plain_199 <| ?_
          refine o_icmp_ne (pc := 200) (tgt := 207) dX1_plain_200 rfl (fun h61 => ?_) (fun h61 => ?_)
          · refine o_iconst (pc := 203) dX1_plain_203 lc_1 <| o_goto (pc := 204) (tgt := 208) dX1_plain_204 rfl <| o_ior (pc := 208) dX1_plain_208 <| ?_
            refine o_lt fun x62 => ?_
            refine o_istore_n (pc := 209) (ls' := [(3, .int x62), (9, .int 0), (8, .int x48), (7, .int x47), (6, .int x26), (5, .int x10), (0, .ref u0), (1, .ref 18), (2, .int v2), (4, .int v4)]) dX1_plain_209 rfl (Nat.le_of_ble_eq_true rfl) rfl <| o_iinc (pc := 210) 9 (v := v4 + 1) (ls' := [(4, .int (v4 + 1)), (3, .int x62), (9, .int 0), (8, .int x48), (7, .int x47), (6, .int x26), (5, .int x10), (0, .ref u0), (1, .ref 18), (2, .int v2)]) dX1_plain_210 rfl rfl (Nat.le_of_ble_eq_true rfl) rfl <| ?_
            refine o_ltL (ls := fun x63 => [(4, .int x63), (3, .int x62), (9, .int 0), (8, .int x48), (7, .int x47), (6, .int x26), (5, .int x10), (0, .ref u0), (1, .ref 18), (2, .int v2)]) fun x63 => ?_
            refine o_goto (pc := 213) (tgt := 8) dX1_plain_213 rfl <| ?_
            refine o_sub [7, 8, 9, 1, 0] (ls' := [(0, .ref u0), (1, .ref 18), (2, .int v2), (3, .int x62), (4, .int x63)]) rfl ?_
            exact ih0 m v2 x62 x63
          · refine o_iconst (pc := 207) dX1_plain_207 lc_0 <| o_ior (pc := 208) dX1_plain_208 <| ?_
            refine o_lt fun x64 => ?_
            refine o_istore_n (pc := 209) (ls' := [(3, .int x64), (9, .int 0), (8, .int x48), (7, .int x47), (6, .int x26), (5, .int x10), (0, .ref u0), (1, .ref 18), (2, .int v2), (4, .int v4)]) dX1_plain_209 rfl (Nat.le_of_ble_eq_true rfl) rfl <| o_iinc (pc := 210) 9 (v := v4 + 1) (ls' := [(4, .int (v4 + 1)), (3, .int x64), (9, .int 0), (8, .int x48), (7, .int x47), (6, .int x26), (5, .int x10), (0, .ref u0), (1, .ref 18), (2, .int v2)]) dX1_plain_210 rfl rfl (Nat.le_of_ble_eq_true rfl) rfl <| ?_
            refine o_ltL (ls := fun x65 => [(4, .int x65), (3, .int x64), (9, .int 0), (8, .int x48), (7, .int x47), (6, .int x26), (5, .int x10), (0, .ref u0), (1, .ref 18), (2, .int v2)]) fun x65 => ?_
            refine o_goto (pc := 213) (tgt := 8) dX1_plain_213 rfl <| ?_
            refine o_sub [7, 8, 9, 1, 0] (ls' := [(0, .ref u0), (1, .ref 18), (2, .int v2), (3, .int x64), (4, .int x65)]) rfl ?_
            exact ih0 m v2 x64 x65
def fH_plain_18 (sh : Sh) (R : RR) (m : MI) (t : Nat) : Option (Int32 × MI) :=
  fH_plain_18_l8 sh R t
    (fun m4 z1 z2 z3 =>
      some (if 0 < z1 then z1 else 0, m4)
      )
    1000 m 10 0 0
theorem sH_plain_18 {sh : Sh} {R : RR} (hF : Fx sh R) (m : MI) (t : Nat) : KS (eI sh R) false 1 0 0 YX1_plain sh R m [.ref t, .ref 18] (fH_plain_18 sh R m t) := by
  refine KS_of pn_X1 (fun _ => Nat.le_of_ble_eq_true rfl) ?_
  change S _ _ _ _ _ _ _ _ _ _ [(0, .ref t), (1, .ref 18)] [] _
  unfold fH_plain_18
  refine o_bipush (pc := 0) dX1_plain_0 lb_10 <| o_istore_n (pc := 2) (ls' := [(2, .int 10), (0, .ref t), (1, .ref 18)]) dX1_plain_2 rfl (Nat.le_of_ble_eq_true rfl) rfl <| o_iconst (pc := 3) dX1_plain_3 lc_0 <| o_istore_n (pc := 4) (ls' := [(3, .int 0), (2, .int 10), (0, .ref t), (1, .ref 18)]) dX1_plain_4 rfl (Nat.le_of_ble_eq_true rfl) rfl <| o_iconst (pc := 5) dX1_plain_5 lc_0 <| o_istore (pc := 6) (ls' := [(4, .int 0), (3, .int 0), (2, .int 10), (0, .ref t), (1, .ref 18)]) dX1_plain_6 (Nat.le_of_ble_eq_true rfl) rfl <| ?_
  refine o_sub [3, 4, 2, 1, 0] (ls' := [(0, .ref t), (1, .ref 18), (2, .int 10), (3, .int 0), (4, .int 0)]) rfl ?_
  refine sH_plain_18_l8 hF t _ ?_ 1000 m 10 0 0
  · intro m4 z1 z2 z3
    refine o_iconst (pc := 216) dX1_plain_216 lc_0 <| o_iload_n (pc := 217) 2 dX1_plain_217 rfl rfl <| o_max (pc := 218) dX1_plain_218 k_369 k_347 k_81 k_348 (Nat.le_of_ble_eq_true rfl) (Nat.le_of_ble_eq_true rfl) <| ?_
    exact o_iret (pc := 221) dX1_plain_221 rfl rfl
def fW_pull (sh : Sh) (R : RR) (m : MI) (a : Int32) (b : Int32) (c : Int32) (d : Int32) : Option (Int32 × MI) :=
  if ck a 6 = true then
    lt (m.1 2 a.toNatClampNeg) fun x2 =>
    if x2 = 3 then
      some (10, m)
    else
      if x2 = 6 then
        if ck a 6 = true then
          mq (R 11 a.toNatClampNeg) fun q7 =>
          if ck a 6 = true then
            if kA sh q7 0 = true then
              if ck ((m.1 4 a.toNatClampNeg) - (m.1 4 a.toNatClampNeg) / 4 * 4) (lenA sh q7) = true then
                some (2 * (m.1 q7 ((m.1 4 a.toNatClampNeg) - (m.1 4 a.toNatClampNeg) / 4 * 4).toNatClampNeg), m)
              else none
            else none
          else none
        else none
      else
        if x2 = 4 then
          if d < c then
            lm (mI m 18 (upd (m.1 18) (0 : Int32).toNatClampNeg a)) fun m13 =>
            lm (mI m13 18 (upd (m13.1 18) (1 : Int32).toNatClampNeg x2)) fun m14 =>
            if ck a 6 = true then
              lm (mI m14 18 (upd (m14.1 18) (2 : Int32).toNatClampNeg ((m14.1 4 a.toNatClampNeg) - (m14.1 4 a.toNatClampNeg) / 10 * 10))) fun m16 =>
              lm (mI m16 18 (upd (m16.1 18) (3 : Int32).toNatClampNeg c)) fun m17 =>
              lm (mI m17 18 (upd (m17.1 18) (4 : Int32).toNatClampNeg d)) fun m18 =>
              lm (mI m18 18 (upd (m18.1 18) (5 : Int32).toNatClampNeg b)) fun m19 =>
              mq (R 1 15) fun q21 =>
              if sh[q21]? = some (11, 0) then
                (fH_plain_18 sh R m19 q21).bind fun r22 =>
                if x2 = 1 then
                  if ck a 6 = true then
                    some (if 0 < r22.1 - (r22.2.1 3 a.toNatClampNeg) then r22.1 - (r22.2.1 3 a.toNatClampNeg) else 0, r22.2)
                  else none
                else
                  if x2 = 2 then
                    if ck a 6 = true then
                      some (r22.1 + (r22.2.1 3 a.toNatClampNeg), r22.2)
                    else none
                  else
                    if x2 = 3 then
                      some (r22.1, r22.2)
                    else
                      if x2 = 4 then
                        if ck a 6 = true then
                          some (if 0 < r22.1 - (r22.2.1 3 a.toNatClampNeg) then r22.1 - (r22.2.1 3 a.toNatClampNeg) else 0, r22.2)
                        else none
                      else
                        if x2 = 5 then
                          if ck a 6 = true then
                            some (2 * (r22.1 + (r22.2.1 3 a.toNatClampNeg)), r22.2)
                          else none
                        else
                          some (r22.1, r22.2)
              else none
            else none
          else
            some (0, m)
        else
          lm (mI m 18 (upd (m.1 18) (0 : Int32).toNatClampNeg a)) fun m33 =>
          lm (mI m33 18 (upd (m33.1 18) (1 : Int32).toNatClampNeg x2)) fun m34 =>
          if ck a 6 = true then
            lm (mI m34 18 (upd (m34.1 18) (2 : Int32).toNatClampNeg ((m34.1 4 a.toNatClampNeg) - (m34.1 4 a.toNatClampNeg) / 10 * 10))) fun m36 =>
            lm (mI m36 18 (upd (m36.1 18) (3 : Int32).toNatClampNeg c)) fun m37 =>
            lm (mI m37 18 (upd (m37.1 18) (4 : Int32).toNatClampNeg d)) fun m38 =>
            lm (mI m38 18 (upd (m38.1 18) (5 : Int32).toNatClampNeg b)) fun m39 =>
            mq (R 1 15) fun q41 =>
            if sh[q41]? = some (11, 0) then
              (fH_plain_18 sh R m39 q41).bind fun r42 =>
              if x2 = 1 then
                if ck a 6 = true then
                  some (if 0 < r42.1 - (r42.2.1 3 a.toNatClampNeg) then r42.1 - (r42.2.1 3 a.toNatClampNeg) else 0, r42.2)
                else none
              else
                if x2 = 2 then
                  if ck a 6 = true then
                    some (r42.1 + (r42.2.1 3 a.toNatClampNeg), r42.2)
                  else none
                else
                  if x2 = 3 then
                    some (r42.1, r42.2)
                  else
                    if x2 = 4 then
                      if ck a 6 = true then
                        some (if 0 < r42.1 - (r42.2.1 3 a.toNatClampNeg) then r42.1 - (r42.2.1 3 a.toNatClampNeg) else 0, r42.2)
                      else none
                    else
                      if x2 = 5 then
                        if ck a 6 = true then
                          some (2 * (r42.1 + (r42.2.1 3 a.toNatClampNeg)), r42.2)
                        else none
                      else
                        some (r42.1, r42.2)
            else none
          else none
  else none
theorem sW_pull {sh : Sh} {R : RR} (hF : Fx sh R) (m : MI) (a : Int32) (b : Int32) (c : Int32) (d : Int32) : KS (eI sh R) false 2 0 0 YX5_pull sh R m [.ref 1, .int a, .int b, .int c, .int d] (fW_pull sh R m a b c d) := by
  refine KS_of pn_X5 (fun _ => Nat.le_of_ble_eq_true rfl) ?_
  change S _ _ _ _ _ _ _ _ _ _ [(0, .ref 1), (1, .int a), (2, .int b), (3, .int c), (4, .int d)] [] _
  unfold fW_pull
  refine o_aload_n (pc := 0) 0 dX5_pull_0 rfl rfl <| o_getRc (pc := 1) (a := 2) (ci := 5) (j := 1) (nn := 0) dX5_pull_1 (hF.1 _ _ rfl) rfl (Nat.le_of_ble_eq_true rfl) k_126 rfl (hF.2 _ _ _ rfl) <| o_iload_n (pc := 4) 1 dX5_pull_4 rfl rfl <| ?_
  refine S_ck fun h1 => ?_
  refine o_iald (pc := 5) (nn := 6) dX5_pull_5 (hF.1 _ _ rfl) (ck_in h1) <| ?_
  refine o_lt fun x2 => ?_
  refine o_istore (pc := 6) (ls' := [(5, .int x2), (0, .ref 1), (1, .int a), (2, .int b), (3, .int c), (4, .int d)]) dX5_pull_6 (Nat.le_of_ble_eq_true rfl) rfl <| o_iload (pc := 8) 0 dX5_pull_8 rfl <| o_iconst (pc := 10) dX5_pull_10 lc_3 <| ?_
  refine o_icmp_ne (pc := 11) (tgt := 17) dX5_pull_11 rfl (fun h3 => ?_) (fun h3 => ?_)
  · refine o_bipush (pc := 14) dX5_pull_14 lb_10 <| ?_
    exact o_iret (pc := 16) dX5_pull_16 rfl rfl
  · refine o_iload (pc := 17) 0 dX5_pull_17 rfl <| o_bipush (pc := 19) dX5_pull_19 lb_6 <| ?_
    refine o_icmp_ne (pc := 21) (tgt := 42) dX5_pull_21 rfl (fun h4 => ?_) (fun h4 => ?_)
    · refine o_iconst (pc := 24) dX5_pull_24 lc_2 <| o_aload_n (pc := 25) 1 dX5_pull_25 rfl rfl <| o_getRc (pc := 26) (a := 11) (ci := 5) (j := 4) (nn := 0) dX5_pull_26 (hF.1 _ _ rfl) rfl (Nat.le_of_ble_eq_true rfl) k_132 rfl (hF.2 _ _ _ rfl) <| o_iload_n (pc := 29) 2 dX5_pull_29 rfl rfl <| ?_
      refine S_ck fun h5 => ?_
      refine S_mq fun q7 h6 => ?_
      refine o_aaldI (pc := 30) (r := some q7) (nn := 6) dX5_pull_30 (hF.1 _ _ rfl) (ck_in h5) h6 <| o_aload_n (pc := 31) 1 dX5_pull_31 rfl rfl <| o_getRc (pc := 32) (a := 4) (ci := 5) (j := 3) (nn := 0) dX5_pull_32 (hF.1 _ _ rfl) rfl (Nat.le_of_ble_eq_true rfl) k_130 rfl (hF.2 _ _ _ rfl) <| o_iload_n (pc := 35) 2 dX5_pull_35 rfl rfl <| ?_
      refine S_ck fun h8 => ?_
      refine o_iald (pc := 36) (nn := 6) dX5_pull_36 (hF.1 _ _ rfl) (ck_in h8) <| o_iconst (pc := 37) dX5_pull_37 lc_4 <| o_irem (pc := 38) dX5_pull_38 (by decide) <| ?_
      refine S_ck fun h9 => ?_
      refine S_ck fun h10 => ?_
      refine o_iald (pc := 39) (nn := lenA sh q7) dX5_pull_39 (kA_ok h9) (ck_in h10) <| o_imul (pc := 40) dX5_pull_40 <| ?_
      exact o_iret (pc := 41) dX5_pull_41 rfl rfl
    · refine o_iload (pc := 42) 0 dX5_pull_42 rfl <| o_iconst (pc := 44) dX5_pull_44 lc_4 <| ?_
      refine o_icmp_ne (pc := 45) (tgt := 56) dX5_pull_45 rfl (fun h11 => ?_) (fun h11 => ?_)
      · refine o_iload (pc := 48) 5 dX5_pull_48 rfl <| o_iload_n (pc := 50) 4 dX5_pull_50 rfl rfl <| ?_
        refine o_icmp_lt (pc := 51) (tgt := 56) dX5_pull_51 rfl (fun h12 => ?_) (fun h12 => ?_)
        · refine o_aload_n (pc := 56) 1 dX5_pull_56 rfl rfl <| o_getRc (pc := 57) (a := 18) (ci := 5) (j := 16) (nn := 0) dX5_pull_57 (hF.1 _ _ rfl) rfl (Nat.le_of_ble_eq_true rfl) k_156 rfl (hF.2 _ _ _ rfl) <| o_iconst (pc := 60) dX5_pull_60 lc_0 <| o_iload_n (pc := 61) 2 dX5_pull_61 rfl rfl <| o_iast (pc := 62) (nn := 6) dX5_pull_62 (hF.1 _ _ rfl) (ck_in rfl) <| ?_
          refine o_lm fun m13 => ?_
          refine o_aload_n (pc := 63) 1 dX5_pull_63 rfl rfl <| o_getRc (pc := 64) (a := 18) (ci := 5) (j := 16) (nn := 0) dX5_pull_64 (hF.1 _ _ rfl) rfl (Nat.le_of_ble_eq_true rfl) k_156 rfl (hF.2 _ _ _ rfl) <| o_iconst (pc := 67) dX5_pull_67 lc_1 <| o_iload (pc := 68) 0 dX5_pull_68 rfl <| o_iast (pc := 70) (nn := 6) dX5_pull_70 (hF.1 _ _ rfl) (ck_in rfl) <| ?_
          refine o_lm fun m14 => ?_
          refine o_aload_n (pc := 71) 1 dX5_pull_71 rfl rfl <| o_getRc (pc := 72) (a := 18) (ci := 5) (j := 16) (nn := 0) dX5_pull_72 (hF.1 _ _ rfl) rfl (Nat.le_of_ble_eq_true rfl) k_156 rfl (hF.2 _ _ _ rfl) <| o_iconst (pc := 75) dX5_pull_75 lc_2 <| o_aload_n (pc := 76) 1 dX5_pull_76 rfl rfl <| o_getRc (pc := 77) (a := 4) (ci := 5) (j := 3) (nn := 0) dX5_pull_77 (hF.1 _ _ rfl) rfl (Nat.le_of_ble_eq_true rfl) k_130 rfl (hF.2 _ _ _ rfl) <| o_iload_n (pc := 80) 2 dX5_pull_80 rfl rfl <| ?_
          refine S_ck fun h15 => ?_
          refine o_iald (pc := 81) (nn := 6) dX5_pull_81 (hF.1 _ _ rfl) (ck_in h15) <| o_bipush (pc := 82) dX5_pull_82 lb_10 <| o_irem (pc := 84) dX5_pull_84 (by decide) <| o_iast (pc := 85) (nn := 6) dX5_pull_85 (hF.1 _ _ rfl) (ck_in rfl) <| ?_
          refine o_lm fun m16 => ?_
          refine o_aload_n (pc := 86) 1 dX5_pull_86 rfl rfl <| o_getRc (pc := 87) (a := 18) (ci := 5) (j := 16) (nn := 0) dX5_pull_87 (hF.1 _ _ rfl) rfl (Nat.le_of_ble_eq_true rfl) k_156 rfl (hF.2 _ _ _ rfl) <| o_iconst (pc := 90) dX5_pull_90 lc_3 <| o_iload_n (pc := 91) 4 dX5_pull_91 rfl rfl <| o_iast (pc := 92) (nn := 6) dX5_pull_92 (hF.1 _ _ rfl) (ck_in rfl) <| ?_
          refine o_lm fun m17 => ?_
          refine o_aload_n (pc := 93) 1 dX5_pull_93 rfl rfl <| o_getRc (pc := 94) (a := 18) (ci := 5) (j := 16) (nn := 0) dX5_pull_94 (hF.1 _ _ rfl) rfl (Nat.le_of_ble_eq_true rfl) k_156 rfl (hF.2 _ _ _ rfl) <| o_iconst (pc := 97) dX5_pull_97 lc_4 <| o_iload (pc := 98) 5 dX5_pull_98 rfl <| o_iast (pc := 100) (nn := 6) dX5_pull_100 (hF.1 _ _ rfl) (ck_in rfl) <| ?_
          refine o_lm fun m18 => ?_
          refine o_aload_n (pc := 101) 1 dX5_pull_101 rfl rfl <| o_getRc (pc := 102) (a := 18) (ci := 5) (j := 16) (nn := 0) dX5_pull_102 (hF.1 _ _ rfl) rfl (Nat.le_of_ble_eq_true rfl) k_156 rfl (hF.2 _ _ _ rfl) <| o_iconst (pc := 105) dX5_pull_105 lc_5 <| o_iload_n (pc := 106) 3 dX5_pull_106 rfl rfl <| o_iast (pc := 107) (nn := 6) dX5_pull_107 (hF.1 _ _ rfl) (ck_in rfl) <| ?_
          refine o_lm fun m19 => ?_
          refine o_aload_n (pc := 108) 1 dX5_pull_108 rfl rfl <| ?_
          refine S_mq fun q21 h20 => ?_
          refine o_getRc (pc := 109) (a := q21) (ci := 5) (j := 15) (nn := 0) dX5_pull_109 (hF.1 _ _ rfl) rfl (Nat.le_of_ble_eq_true rfl) k_154 rfl h20 <| o_aload_n (pc := 112) 1 dX5_pull_112 rfl rfl <| o_getRc (pc := 113) (a := 18) (ci := 5) (j := 16) (nn := 0) dX5_pull_113 (hF.1 _ _ rfl) rfl (Nat.le_of_ble_eq_true rfl) k_156 rfl (hF.2 _ _ _ rfl) <| ?_
          refine S_ck fun h23 => ?_
          refine o_callVI (Y2 := YX1_plain) (pc := 116) (av := [.ref 18]) (rest := []) dX5_pull_116 k_365 cm_X1_plain (sH_plain_18 hF m19 q21) h23 rfl rfl (Nat.le_of_ble_eq_true rfl) (Nat.le_of_ble_eq_true rfl) fun r22 => ?_
          refine o_istore (pc := 119) (ls' := [(6, .int r22.1), (5, .int x2), (0, .ref 1), (1, .int a), (2, .int b), (3, .int c), (4, .int d)]) dX5_pull_119 (Nat.le_of_ble_eq_true rfl) rfl <| o_iload (pc := 121) 1 dX5_pull_121 rfl <| ?_
          refine S_ite (fun h24 => ?_) (fun h24 => ?_)
          · refine o_ts_in (pc := 123) (tgt := 156) 1 h24 dX5_pull_123 (by decide) (by decide) rfl rfl ?_
            refine o_iconst (pc := 156) dX5_pull_156 lc_0 <| o_iload (pc := 157) 0 dX5_pull_157 rfl <| o_aload_n (pc := 159) 2 dX5_pull_159 rfl rfl <| o_getRc (pc := 160) (a := 3) (ci := 5) (j := 2) (nn := 0) dX5_pull_160 (hF.1 _ _ rfl) rfl (Nat.le_of_ble_eq_true rfl) k_128 rfl (hF.2 _ _ _ rfl) <| o_iload_n (pc := 163) 3 dX5_pull_163 rfl rfl <| ?_
            refine S_ck fun h25 => ?_
            refine o_iald (pc := 164) (nn := 6) dX5_pull_164 (hF.1 _ _ rfl) (ck_in h25) <| o_isub (pc := 165) dX5_pull_165 <| o_max (pc := 166) dX5_pull_166 k_346 k_347 k_81 k_348 (Nat.le_of_ble_eq_true rfl) (Nat.le_of_ble_eq_true rfl) <| ?_
            exact o_iret (pc := 169) dX5_pull_169 rfl rfl
          refine S_ite (fun h26 => ?_) (fun h26 => ?_)
          · refine o_ts_in (pc := 123) (tgt := 170) 2 h26 dX5_pull_123 (by decide) (by decide) rfl rfl ?_
            refine o_iload (pc := 170) 0 dX5_pull_170 rfl <| o_aload_n (pc := 172) 2 dX5_pull_172 rfl rfl <| o_getRc (pc := 173) (a := 3) (ci := 5) (j := 2) (nn := 0) dX5_pull_173 (hF.1 _ _ rfl) rfl (Nat.le_of_ble_eq_true rfl) k_128 rfl (hF.2 _ _ _ rfl) <| o_iload_n (pc := 176) 3 dX5_pull_176 rfl rfl <| ?_
            refine S_ck fun h27 => ?_
            refine o_iald (pc := 177) (nn := 6) dX5_pull_177 (hF.1 _ _ rfl) (ck_in h27) <| o_iadd (pc := 178) dX5_pull_178 <| ?_
            exact o_iret (pc := 179) dX5_pull_179 rfl rfl
          refine S_ite (fun h28 => ?_) (fun h28 => ?_)
          · refine o_ts_in (pc := 123) (tgt := 192) 3 h28 dX5_pull_123 (by decide) (by decide) rfl rfl ?_
            refine o_iload (pc := 192) 0 dX5_pull_192 rfl <| ?_
            exact o_iret (pc := 194) dX5_pull_194 rfl rfl
          refine S_ite (fun h29 => ?_) (fun h29 => ?_)
          · refine o_ts_in (pc := 123) (tgt := 156) 4 h29 dX5_pull_123 (by decide) (by decide) rfl rfl ?_
            refine o_iconst (pc := 156) dX5_pull_156 lc_0 <| o_iload (pc := 157) 0 dX5_pull_157 rfl <| o_aload_n (pc := 159) 2 dX5_pull_159 rfl rfl <| o_getRc (pc := 160) (a := 3) (ci := 5) (j := 2) (nn := 0) dX5_pull_160 (hF.1 _ _ rfl) rfl (Nat.le_of_ble_eq_true rfl) k_128 rfl (hF.2 _ _ _ rfl) <| o_iload_n (pc := 163) 3 dX5_pull_163 rfl rfl <| ?_
            refine S_ck fun h30 => ?_
            refine o_iald (pc := 164) (nn := 6) dX5_pull_164 (hF.1 _ _ rfl) (ck_in h30) <| o_isub (pc := 165) dX5_pull_165 <| o_max (pc := 166) dX5_pull_166 k_346 k_347 k_81 k_348 (Nat.le_of_ble_eq_true rfl) (Nat.le_of_ble_eq_true rfl) <| ?_
            exact o_iret (pc := 169) dX5_pull_169 rfl rfl
          refine S_ite (fun h31 => ?_) (fun h31 => ?_)
          · refine o_ts_in (pc := 123) (tgt := 180) 5 h31 dX5_pull_123 (by decide) (by decide) rfl rfl ?_
            refine o_iconst (pc := 180) dX5_pull_180 lc_2 <| o_iload (pc := 181) 0 dX5_pull_181 rfl <| o_aload_n (pc := 183) 2 dX5_pull_183 rfl rfl <| o_getRc (pc := 184) (a := 3) (ci := 5) (j := 2) (nn := 0) dX5_pull_184 (hF.1 _ _ rfl) rfl (Nat.le_of_ble_eq_true rfl) k_128 rfl (hF.2 _ _ _ rfl) <| o_iload_n (pc := 187) 3 dX5_pull_187 rfl rfl <| ?_
            refine S_ck fun h32 => ?_
            refine o_iald (pc := 188) (nn := 6) dX5_pull_188 (hF.1 _ _ rfl) (ck_in h32) <| o_iadd (pc := 189) dX5_pull_189 <| o_imul (pc := 190) dX5_pull_190 <| ?_
            exact o_iret (pc := 191) dX5_pull_191 rfl rfl
          refine o_ts_out (pc := 123) (tgt := 192) (ts_out (lo := 1) (hi := 5) [1, 2, 3, 4, 5] (by decide) (by decide) (fun c hc => by
              simp only [List.mem_cons, List.not_mem_nil, or_false] at hc
              rcases hc with rfl | rfl | rfl | rfl | rfl
              · exact h24
              · exact h26
              · exact h28
              · exact h29
              · exact h31)) dX5_pull_123 rfl ?_
          refine o_iload (pc := 192) 0 dX5_pull_192 rfl <| ?_
          exact o_iret (pc := 194) dX5_pull_194 rfl rfl
        · refine o_iconst (pc := 54) dX5_pull_54 lc_0 <| ?_
          exact o_iret (pc := 55) dX5_pull_55 rfl rfl
      · refine o_aload_n (pc := 56) 1 dX5_pull_56 rfl rfl <| o_getRc (pc := 57) (a := 18) (ci := 5) (j := 16) (nn := 0) dX5_pull_57 (hF.1 _ _ rfl) rfl (Nat.le_of_ble_eq_true rfl) k_156 rfl (hF.2 _ _ _ rfl) <| o_iconst (pc := 60) dX5_pull_60 lc_0 <| o_iload_n (pc := 61) 2 dX5_pull_61 rfl rfl <| o_iast (pc := 62) (nn := 6) dX5_pull_62 (hF.1 _ _ rfl) (ck_in rfl) <| ?_
        refine o_lm fun m33 => ?_
        refine o_aload_n (pc := 63) 1 dX5_pull_63 rfl rfl <| o_getRc (pc := 64) (a := 18) (ci := 5) (j := 16) (nn := 0) dX5_pull_64 (hF.1 _ _ rfl) rfl (Nat.le_of_ble_eq_true rfl) k_156 rfl (hF.2 _ _ _ rfl) <| o_iconst (pc := 67) dX5_pull_67 lc_1 <| o_iload (pc := 68) 0 dX5_pull_68 rfl <| o_iast (pc := 70) (nn := 6) dX5_pull_70 (hF.1 _ _ rfl) (ck_in rfl) <| ?_
        refine o_lm fun m34 => ?_
        refine o_aload_n (pc := 71) 1 dX5_pull_71 rfl rfl <| o_getRc (pc := 72) (a := 18) (ci := 5) (j := 16) (nn := 0) dX5_pull_72 (hF.1 _ _ rfl) rfl (Nat.le_of_ble_eq_true rfl) k_156 rfl (hF.2 _ _ _ rfl) <| o_iconst (pc := 75) dX5_pull_75 lc_2 <| o_aload_n (pc := 76) 1 dX5_pull_76 rfl rfl <| o_getRc (pc := 77) (a := 4) (ci := 5) (j := 3) (nn := 0) dX5_pull_77 (hF.1 _ _ rfl) rfl (Nat.le_of_ble_eq_true rfl) k_130 rfl (hF.2 _ _ _ rfl) <| o_iload_n (pc := 80) 2 dX5_pull_80 rfl rfl <| ?_
        refine S_ck fun h35 => ?_
        refine o_iald (pc := 81) (nn := 6) dX5_pull_81 (hF.1 _ _ rfl) (ck_in h35) <| o_bipush (pc := 82) dX5_pull_82 lb_10 <| o_irem (pc := 84) dX5_pull_84 (by decide) <| o_iast (pc := 85) (nn := 6) dX5_pull_85 (hF.1 _ _ rfl) (ck_in rfl) <| ?_
        refine o_lm fun m36 => ?_
        refine o_aload_n (pc := 86) 1 dX5_pull_86 rfl rfl <| o_getRc (pc := 87) (a := 18) (ci := 5) (j := 16) (nn := 0) dX5_pull_87 (hF.1 _ _ rfl) rfl (Nat.le_of_ble_eq_true rfl) k_156 rfl (hF.2 _ _ _ rfl) <| o_iconst (pc := 90) dX5_pull_90 lc_3 <| o_iload_n (pc := 91) 4 dX5_pull_91 rfl rfl <| o_iast (pc := 92) (nn := 6) dX5_pull_92 (hF.1 _ _ rfl) (ck_in rfl) <| ?_
        refine o_lm fun m37 => ?_
        refine o_aload_n (pc := 93) 1 dX5_pull_93 rfl rfl <| o_getRc (pc := 94) (a := 18) (ci := 5) (j := 16) (nn := 0) dX5_pull_94 (hF.1 _ _ rfl) rfl (Nat.le_of_ble_eq_true rfl) k_156 rfl (hF.2 _ _ _ rfl) <| o_iconst (pc := 97) dX5_pull_97 lc_4 <| o_iload (pc := 98) 5 dX5_pull_98 rfl <| o_iast (pc := 100) (nn := 6) dX5_pull_100 (hF.1 _ _ rfl) (ck_in rfl) <| ?_
        refine o_lm fun m38 => ?_
        refine o_aload_n (pc := 101) 1 dX5_pull_101 rfl rfl <| o_getRc (pc := 102) (a := 18) (ci := 5) (j := 16) (nn := 0) dX5_pull_102 (hF.1 _ _ rfl) rfl (Nat.le_of_ble_eq_true rfl) k_156 rfl (hF.2 _ _ _ rfl) <| o_iconst (pc := 105) dX5_pull_105 lc_5 <| o_iload_n (pc := 106) 3 dX5_pull_106 rfl rfl <| o_iast (pc := 107) (nn := 6) dX5_pull_107 (hF.1 _ _ rfl) (ck_in rfl) <| ?_
        refine o_lm fun m39 => ?_
        refine o_aload_n (pc := 108) 1 dX5_pull_108 rfl rfl <| ?_
        refine S_mq fun q41 h40 => ?_
        refine o_getRc (pc := 109) (a := q41) (ci := 5) (j := 15) (nn := 0) dX5_pull_109 (hF.1 _ _ rfl) rfl (Nat.le_of_ble_eq_true rfl) k_154 rfl h40 <| o_aload_n (pc := 112) 1 dX5_pull_112 rfl rfl <| o_getRc (pc := 113) (a := 18) (ci := 5) (j := 16) (nn := 0) dX5_pull_113 (hF.1 _ _ rfl) rfl (Nat.le_of_ble_eq_true rfl) k_156 rfl (hF.2 _ _ _ rfl) <| ?_
        refine S_ck fun h43 => ?_
        refine o_callVI (Y2 := YX1_plain) (pc := 116) (av := [.ref 18]) (rest := []) dX5_pull_116 k_365 cm_X1_plain (sH_plain_18 hF m39 q41) h43 rfl rfl (Nat.le_of_ble_eq_true rfl) (Nat.le_of_ble_eq_true rfl) fun r42 => ?_
        refine o_istore (pc := 119) (ls' := [(6, .int r42.1), (5, .int x2), (0, .ref 1), (1, .int a), (2, .int b), (3, .int c), (4, .int d)]) dX5_pull_119 (Nat.le_of_ble_eq_true rfl) rfl <| o_iload (pc := 121) 1 dX5_pull_121 rfl <| ?_
        refine S_ite (fun h44 => ?_) (fun h44 => ?_)
        · refine o_ts_in (pc := 123) (tgt := 156) 1 h44 dX5_pull_123 (by decide) (by decide) rfl rfl ?_
          refine o_iconst (pc := 156) dX5_pull_156 lc_0 <| o_iload (pc := 157) 0 dX5_pull_157 rfl <| o_aload_n (pc := 159) 2 dX5_pull_159 rfl rfl <| o_getRc (pc := 160) (a := 3) (ci := 5) (j := 2) (nn := 0) dX5_pull_160 (hF.1 _ _ rfl) rfl (Nat.le_of_ble_eq_true rfl) k_128 rfl (hF.2 _ _ _ rfl) <| o_iload_n (pc := 163) 3 dX5_pull_163 rfl rfl <| ?_
          refine S_ck fun h45 => ?_
          refine o_iald (pc := 164) (nn := 6) dX5_pull_164 (hF.1 _ _ rfl) (ck_in h45) <| o_isub (pc := 165) dX5_pull_165 <| o_max (pc := 166) dX5_pull_166 k_346 k_347 k_81 k_348 (Nat.le_of_ble_eq_true rfl) (Nat.le_of_ble_eq_true rfl) <| ?_
          exact o_iret (pc := 169) dX5_pull_169 rfl rfl
        refine S_ite (fun h46 => ?_) (fun h46 => ?_)
        · refine o_ts_in (pc := 123) (tgt := 170) 2 h46 dX5_pull_123 (by decide) (by decide) rfl rfl ?_
          refine o_iload (pc := 170) 0 dX5_pull_170 rfl <| o_aload_n (pc := 172) 2 dX5_pull_172 rfl rfl <| o_getRc (pc := 173) (a := 3) (ci := 5) (j := 2) (nn := 0) dX5_pull_173 (hF.1 _ _ rfl) rfl (Nat.le_of_ble_eq_true rfl) k_128 rfl (hF.2 _ _ _ rfl) <| o_iload_n (pc := 176) 3 dX5_pull_176 rfl rfl <| ?_
          refine S_ck fun h47 => ?_
          refine o_iald (pc := 177) (nn := 6) dX5_pull_177 (hF.1 _ _ rfl) (ck_in h47) <| o_iadd (pc := 178) dX5_pull_178 <| ?_
          exact o_iret (pc := 179) dX5_pull_179 rfl rfl
        refine S_ite (fun h48 => ?_) (fun h48 => ?_)
        · refine o_ts_in (pc := 123) (tgt := 192) 3 h48 dX5_pull_123 (by decide) (by decide) rfl rfl ?_
          refine o_iload (pc := 192) 0 dX5_pull_192 rfl <| ?_
          exact o_iret (pc := 194) dX5_pull_194 rfl rfl
        refine S_ite (fun h49 => ?_) (fun h49 => ?_)
        · refine o_ts_in (pc := 123) (tgt := 156) 4 h49 dX5_pull_123 (by decide) (by decide) rfl rfl ?_
          refine o_iconst (pc := 156) dX5_pull_156 lc_0 <| o_iload (pc := 157) 0 dX5_pull_157 rfl <| o_aload_n (pc := 159) 2 dX5_pull_159 rfl rfl <| o_getRc (pc := 160) (a := 3) (ci := 5) (j := 2) (nn := 0) dX5_pull_160 (hF.1 _ _ rfl) rfl (Nat.le_of_ble_eq_true rfl) k_128 rfl (hF.2 _ _ _ rfl) <| o_iload_n (pc := 163) 3 dX5_pull_163 rfl rfl <| ?_
          refine S_ck fun h50 => ?_
          refine o_iald (pc := 164) (nn := 6) dX5_pull_164 (hF.1 _ _ rfl) (ck_in h50) <| o_isub (pc := 165) dX5_pull_165 <| o_max (pc := 166) dX5_pull_166 k_346 k_347 k_81 k_348 (Nat.le_of_ble_eq_true rfl) (Nat.le_of_ble_eq_true rfl) <| ?_
          exact o_iret (pc := 169) dX5_pull_169 rfl rfl
        refine S_ite (fun h51 => ?_) (fun h51 => ?_)
        · refine o_ts_in (pc := 123) (tgt := 180) 5 h51 dX5_pull_123 (by decide) (by decide) rfl rfl ?_
          refine o_iconst (pc := 180) dX5_pull_180 lc_2 <| o_iload (pc := 181) 0 dX5_pull_181 rfl <| o_aload_n (pc := 183) 2 dX5_pull_183 rfl rfl <| o_getRc (pc := 184) (a := 3) (ci := 5) (j := 2) (nn := 0) dX5_pull_184 (hF.1 _ _ rfl) rfl (Nat.le_of_ble_eq_true rfl) k_128 rfl (hF.2 _ _ _ rfl) <| o_iload_n (pc := 187) 3 dX5_pull_187 rfl rfl <| ?_
          refine S_ck fun h52 => ?_
          refine o_iald (pc := 188) (nn := 6) dX5_pull_188 (hF.1 _ _ rfl) (ck_in h52) <| o_iadd (pc := 189) dX5_pull_189 <| o_imul (pc := 190) dX5_pull_190 <| ?_
          exact o_iret (pc := 191) dX5_pull_191 rfl rfl
        refine o_ts_out (pc := 123) (tgt := 192) (ts_out (lo := 1) (hi := 5) [1, 2, 3, 4, 5] (by decide) (by decide) (fun c hc => by
            simp only [List.mem_cons, List.not_mem_nil, or_false] at hc
            rcases hc with rfl | rfl | rfl | rfl | rfl
            · exact h44
            · exact h46
            · exact h48
            · exact h49
            · exact h51)) dX5_pull_123 rfl ?_
        refine o_iload (pc := 192) 0 dX5_pull_192 rfl <| ?_
        exact o_iret (pc := 194) dX5_pull_194 rfl rfl
def fW_chance (sh : Sh) (R : RR) (m : MI) (a : Int32) (b : Int32) (c : Int32) (d : Int32) : Option (Int32 × MI) :=
  if 0 < c then
    if 0 < d then
      (fW_pull sh R m a b c d).bind fun r3 =>
      ltl ((c.toInt64) * (r3.1.toInt64)) fun y4 =>
      if ¬ (y4 + ((d * 10).toInt64) = 0) then
        some (((1000000 * y4) / (y4 + ((d * 10).toInt64))).toInt32, r3.2)
      else none
    else
      some (1000000, m)
  else
    some (0, m)
theorem sW_chance {sh : Sh} {R : RR} (hF : Fx sh R) (m : MI) (a : Int32) (b : Int32) (c : Int32) (d : Int32) : KS (eI sh R) false 3 0 0 YX5_chance sh R m [.ref 1, .int a, .int b, .int c, .int d] (fW_chance sh R m a b c d) := by
  refine KS_of pn_X5 (fun _ => Nat.le_of_ble_eq_true rfl) ?_
  change S _ _ _ _ _ _ _ _ _ _ [(0, .ref 1), (1, .int a), (2, .int b), (3, .int c), (4, .int d)] [] _
  unfold fW_chance
  refine o_iload_n (pc := 0) 3 dX5_chance_0 rfl rfl <| ?_
  refine o_if_gt (pc := 1) (tgt := 6) dX5_chance_1 rfl (fun h1 => ?_) (fun h1 => ?_)
  · refine o_iload (pc := 6) 4 dX5_chance_6 rfl <| ?_
    refine o_if_gt (pc := 8) (tgt := 14) dX5_chance_8 rfl (fun h2 => ?_) (fun h2 => ?_)
    · refine o_iload_n (pc := 14) 3 dX5_chance_14 rfl rfl <| o_i2l (pc := 15) dX5_chance_15 <| o_aload_n (pc := 16) 0 dX5_chance_16 rfl rfl <| o_iload_n (pc := 17) 1 dX5_chance_17 rfl rfl <| o_iload_n (pc := 18) 2 dX5_chance_18 rfl rfl <| o_iload_n (pc := 19) 3 dX5_chance_19 rfl rfl <| o_iload (pc := 20) 4 dX5_chance_20 rfl <| ?_
      refine o_callVI (Y2 := YX5_pull) (pc := 22) (av := [.int a, .int b, .int c, .int d]) (rest := [.long (c.toInt64)]) dX5_chance_22 k_375 cm_X5_pull (sW_pull hF m a b c d) (hF.1 _ _ rfl) rfl rfl (Nat.le_of_ble_eq_true rfl) (Nat.le_of_ble_eq_true rfl) fun r3 => ?_
      refine o_i2l (pc := 25) dX5_chance_25 <| o_lmul (pc := 26) dX5_chance_26 <| ?_
      refine o_ltl fun y4 => ?_
      refine o_lstore (pc := 27) (ls' := [(5, .long y4), (0, .ref 1), (1, .int a), (2, .int b), (3, .int c), (4, .int d)]) dX5_chance_27 (Nat.le_of_ble_eq_true rfl) rfl <| o_ldc2 (pc := 29) dX5_chance_29 k_376 <| o_lload (pc := 32) 0 dX5_chance_32 rfl <| o_lmul (pc := 34) dX5_chance_34 <| o_lload (pc := 35) 0 dX5_chance_35 rfl <| o_iload (pc := 37) 5 dX5_chance_37 rfl <| o_bipush (pc := 39) dX5_chance_39 lb_10 <| o_imul (pc := 41) dX5_chance_41 <| o_i2l (pc := 42) dX5_chance_42 <| o_ladd (pc := 43) dX5_chance_43 <| ?_
      refine S_ck fun h5 => ?_
      refine o_ldiv (pc := 44) dX5_chance_44 h5 <| o_l2i (pc := 45) dX5_chance_45 <| ?_
      exact o_iret (pc := 46) dX5_chance_46 rfl rfl
    · refine o_ldc (pc := 11) dX5_chance_11 k_374 <| ?_
      exact o_iret (pc := 13) dX5_chance_13 rfl rfl
  · refine o_iconst (pc := 4) dX5_chance_4 lc_0 <| ?_
    exact o_iret (pc := 5) dX5_chance_5 rfl rfl
def fC_of (sh : Sh) (R : RR) (m : MI) (a : Int32) (b : Int32) : Option (Int32 × MI) :=
  (fW_has m a).bind fun r1 =>
  if r1.1 = 0 then
    some (-1, r1.2)
  else
    (fW_placeOf r1.2 a).bind fun r3 =>
    if b = 0 then
      if ck a 6 = true then
        some (r3.2.1 2 a.toNatClampNeg, r3.2)
      else none
    else
      if b = 1 then
        if ck a 6 = true then
          some (r3.2.1 3 a.toNatClampNeg, r3.2)
        else none
      else
        if b = 2 then
          if ck a 6 = true then
            some (r3.2.1 4 a.toNatClampNeg, r3.2)
          else none
        else
          if b = 3 then
            some (r3.1, r3.2)
          else
            if b = 4 then
              (fW_pull sh R r3.2 a r3.1 (r3.2.1 1 6) (r3.2.1 1 7)).bind fun r12 =>
              some (r12.1, r12.2)
            else
              if b = 5 then
                (fW_chance sh R r3.2 a r3.1 (r3.2.1 1 6) (r3.2.1 1 7)).bind fun r14 =>
                some (r14.1, r14.2)
              else
                some (-1, r3.2)
theorem sC_of {sh : Sh} {R : RR} (hF : Fx sh R) (m : MI) (a : Int32) (b : Int32) : KS (eI sh R) false 4 0 0 YX6_of sh R m [.ref 0, .int a, .int b] (fC_of sh R m a b) := by
  refine KS_of pn_X6 (fun _ => Nat.le_of_ble_eq_true rfl) ?_
  change S _ _ _ _ _ _ _ _ _ _ [(0, .ref 0), (1, .int a), (2, .int b)] [] _
  unfold fC_of
  refine o_aload_n (pc := 0) 0 dX6_of_0 rfl rfl <| o_getRc (pc := 1) (a := 1) (ci := 6) (j := 0) (nn := 0) dX6_of_1 (hF.1 _ _ rfl) rfl (Nat.le_of_ble_eq_true rfl) k_292 rfl (hF.2 _ _ _ rfl) <| o_iload_n (pc := 4) 1 dX6_of_4 rfl rfl <| ?_
  refine o_callVI (Y2 := YX5_has) (pc := 5) (av := [.int a]) (rest := []) dX6_of_5 k_353 cm_X5_has (sW_has hF m a) (hF.1 _ _ rfl) rfl rfl (Nat.le_of_ble_eq_true rfl) (Nat.le_of_ble_eq_true rfl) fun r1 => ?_
  refine o_if_ne (pc := 8) (tgt := 13) dX6_of_8 rfl (fun h2 => ?_) (fun h2 => ?_)
  · refine o_iconst (pc := 11) dX6_of_11 lc_m1 <| ?_
    exact o_iret (pc := 12) dX6_of_12 rfl rfl
  · refine o_aload_n (pc := 13) 0 dX6_of_13 rfl rfl <| o_getRc (pc := 14) (a := 1) (ci := 6) (j := 0) (nn := 0) dX6_of_14 (hF.1 _ _ rfl) rfl (Nat.le_of_ble_eq_true rfl) k_292 rfl (hF.2 _ _ _ rfl) <| o_iload_n (pc := 17) 1 dX6_of_17 rfl rfl <| ?_
    refine o_callVI (Y2 := YX5_placeOf) (pc := 18) (av := [.int a]) (rest := []) dX6_of_18 k_357 cm_X5_placeOf (sW_placeOf hF r1.2 a) (hF.1 _ _ rfl) rfl rfl (Nat.le_of_ble_eq_true rfl) (Nat.le_of_ble_eq_true rfl) fun r3 => ?_
    refine o_istore_n (pc := 21) (ls' := [(3, .int r3.1), (0, .ref 0), (1, .int a), (2, .int b)]) dX6_of_21 rfl (Nat.le_of_ble_eq_true rfl) rfl <| o_iload_n (pc := 22) 3 dX6_of_22 rfl rfl <| ?_
    refine S_ite (fun h4 => ?_) (fun h4 => ?_)
    · refine o_ts_in (pc := 23) (tgt := 60) 0 h4 dX6_of_23 (by decide) (by decide) rfl rfl ?_
      refine o_aload_n (pc := 60) 1 dX6_of_60 rfl rfl <| o_getRc (pc := 61) (a := 1) (ci := 6) (j := 0) (nn := 0) dX6_of_61 (hF.1 _ _ rfl) rfl (Nat.le_of_ble_eq_true rfl) k_292 rfl (hF.2 _ _ _ rfl) <| o_getRc (pc := 64) (a := 2) (ci := 5) (j := 1) (nn := 0) dX6_of_64 (hF.1 _ _ rfl) rfl (Nat.le_of_ble_eq_true rfl) k_127 rfl (hF.2 _ _ _ rfl) <| o_iload_n (pc := 67) 2 dX6_of_67 rfl rfl <| ?_
      refine S_ck fun h5 => ?_
      refine o_iald (pc := 68) (nn := 6) dX6_of_68 (hF.1 _ _ rfl) (ck_in h5) <| ?_
      exact o_iret (pc := 69) dX6_of_69 rfl rfl
    refine S_ite (fun h6 => ?_) (fun h6 => ?_)
    · refine o_ts_in (pc := 23) (tgt := 70) 1 h6 dX6_of_23 (by decide) (by decide) rfl rfl ?_
      refine o_aload_n (pc := 70) 1 dX6_of_70 rfl rfl <| o_getRc (pc := 71) (a := 1) (ci := 6) (j := 0) (nn := 0) dX6_of_71 (hF.1 _ _ rfl) rfl (Nat.le_of_ble_eq_true rfl) k_292 rfl (hF.2 _ _ _ rfl) <| o_getRc (pc := 74) (a := 3) (ci := 5) (j := 2) (nn := 0) dX6_of_74 (hF.1 _ _ rfl) rfl (Nat.le_of_ble_eq_true rfl) k_129 rfl (hF.2 _ _ _ rfl) <| o_iload_n (pc := 77) 2 dX6_of_77 rfl rfl <| ?_
      refine S_ck fun h7 => ?_
      refine o_iald (pc := 78) (nn := 6) dX6_of_78 (hF.1 _ _ rfl) (ck_in h7) <| ?_
      exact o_iret (pc := 79) dX6_of_79 rfl rfl
    refine S_ite (fun h8 => ?_) (fun h8 => ?_)
    · refine o_ts_in (pc := 23) (tgt := 80) 2 h8 dX6_of_23 (by decide) (by decide) rfl rfl ?_
      refine o_aload_n (pc := 80) 1 dX6_of_80 rfl rfl <| o_getRc (pc := 81) (a := 1) (ci := 6) (j := 0) (nn := 0) dX6_of_81 (hF.1 _ _ rfl) rfl (Nat.le_of_ble_eq_true rfl) k_292 rfl (hF.2 _ _ _ rfl) <| o_getRc (pc := 84) (a := 4) (ci := 5) (j := 3) (nn := 0) dX6_of_84 (hF.1 _ _ rfl) rfl (Nat.le_of_ble_eq_true rfl) k_131 rfl (hF.2 _ _ _ rfl) <| o_iload_n (pc := 87) 2 dX6_of_87 rfl rfl <| ?_
      refine S_ck fun h9 => ?_
      refine o_iald (pc := 88) (nn := 6) dX6_of_88 (hF.1 _ _ rfl) (ck_in h9) <| ?_
      exact o_iret (pc := 89) dX6_of_89 rfl rfl
    refine S_ite (fun h10 => ?_) (fun h10 => ?_)
    · refine o_ts_in (pc := 23) (tgt := 90) 3 h10 dX6_of_23 (by decide) (by decide) rfl rfl ?_
      refine o_iload_n (pc := 90) 0 dX6_of_90 rfl rfl <| ?_
      exact o_iret (pc := 91) dX6_of_91 rfl rfl
    refine S_ite (fun h11 => ?_) (fun h11 => ?_)
    · refine o_ts_in (pc := 23) (tgt := 92) 4 h11 dX6_of_23 (by decide) (by decide) rfl rfl ?_
      refine o_aload_n (pc := 92) 1 dX6_of_92 rfl rfl <| o_getRc (pc := 93) (a := 1) (ci := 6) (j := 0) (nn := 0) dX6_of_93 (hF.1 _ _ rfl) rfl (Nat.le_of_ble_eq_true rfl) k_292 rfl (hF.2 _ _ _ rfl) <| o_iload_n (pc := 96) 2 dX6_of_96 rfl rfl <| o_iload_n (pc := 97) 0 dX6_of_97 rfl rfl <| o_aload_n (pc := 98) 1 dX6_of_98 rfl rfl <| o_getRc (pc := 99) (a := 1) (ci := 6) (j := 0) (nn := 0) dX6_of_99 (hF.1 _ _ rfl) rfl (Nat.le_of_ble_eq_true rfl) k_292 rfl (hF.2 _ _ _ rfl) <| o_getI (pc := 102) (ci := 5) (j := 6) (nn := 0) dX6_of_102 (hF.1 _ _ rfl) rfl (Nat.le_of_ble_eq_true rfl) k_137 rfl <| o_aload_n (pc := 105) 1 dX6_of_105 rfl rfl <| o_getRc (pc := 106) (a := 1) (ci := 6) (j := 0) (nn := 0) dX6_of_106 (hF.1 _ _ rfl) rfl (Nat.le_of_ble_eq_true rfl) k_292 rfl (hF.2 _ _ _ rfl) <| o_getI (pc := 109) (ci := 5) (j := 7) (nn := 0) dX6_of_109 (hF.1 _ _ rfl) rfl (Nat.le_of_ble_eq_true rfl) k_139 rfl <| ?_
      refine o_callVI (Y2 := YX5_pull) (pc := 112) (av := [.int a, .int r3.1, .int (r3.2.1 1 6), .int (r3.2.1 1 7)]) (rest := []) dX6_of_112 k_361 cm_X5_pull (sW_pull hF r3.2 a r3.1 (r3.2.1 1 6) (r3.2.1 1 7)) (hF.1 _ _ rfl) rfl rfl (Nat.le_of_ble_eq_true rfl) (Nat.le_of_ble_eq_true rfl) fun r12 => ?_
      exact o_iret (pc := 115) dX6_of_115 rfl rfl
    refine S_ite (fun h13 => ?_) (fun h13 => ?_)
    · refine o_ts_in (pc := 23) (tgt := 116) 5 h13 dX6_of_23 (by decide) (by decide) rfl rfl ?_
      refine o_aload_n (pc := 116) 1 dX6_of_116 rfl rfl <| o_getRc (pc := 117) (a := 1) (ci := 6) (j := 0) (nn := 0) dX6_of_117 (hF.1 _ _ rfl) rfl (Nat.le_of_ble_eq_true rfl) k_292 rfl (hF.2 _ _ _ rfl) <| o_iload_n (pc := 120) 2 dX6_of_120 rfl rfl <| o_iload_n (pc := 121) 0 dX6_of_121 rfl rfl <| o_aload_n (pc := 122) 1 dX6_of_122 rfl rfl <| o_getRc (pc := 123) (a := 1) (ci := 6) (j := 0) (nn := 0) dX6_of_123 (hF.1 _ _ rfl) rfl (Nat.le_of_ble_eq_true rfl) k_292 rfl (hF.2 _ _ _ rfl) <| o_getI (pc := 126) (ci := 5) (j := 6) (nn := 0) dX6_of_126 (hF.1 _ _ rfl) rfl (Nat.le_of_ble_eq_true rfl) k_137 rfl <| o_aload_n (pc := 129) 1 dX6_of_129 rfl rfl <| o_getRc (pc := 130) (a := 1) (ci := 6) (j := 0) (nn := 0) dX6_of_130 (hF.1 _ _ rfl) rfl (Nat.le_of_ble_eq_true rfl) k_292 rfl (hF.2 _ _ _ rfl) <| o_getI (pc := 133) (ci := 5) (j := 7) (nn := 0) dX6_of_133 (hF.1 _ _ rfl) rfl (Nat.le_of_ble_eq_true rfl) k_139 rfl <| ?_
      refine o_callVI (Y2 := YX5_chance) (pc := 136) (av := [.int a, .int r3.1, .int (r3.2.1 1 6), .int (r3.2.1 1 7)]) (rest := []) dX6_of_136 k_370 cm_X5_chance (sW_chance hF r3.2 a r3.1 (r3.2.1 1 6) (r3.2.1 1 7)) (hF.1 _ _ rfl) rfl rfl (Nat.le_of_ble_eq_true rfl) (Nat.le_of_ble_eq_true rfl) fun r14 => ?_
      exact o_iret (pc := 139) dX6_of_139 rfl rfl
    refine o_ts_out (pc := 23) (tgt := 140) (ts_out (lo := 0) (hi := 5) [0, 1, 2, 3, 4, 5] (by decide) (by decide) (fun c hc => by
        simp only [List.mem_cons, List.not_mem_nil, or_false] at hc
        rcases hc with rfl | rfl | rfl | rfl | rfl | rfl
        · exact h4
        · exact h6
        · exact h8
        · exact h10
        · exact h11
        · exact h13)) dX6_of_23 rfl ?_
    refine o_iconst (pc := 140) dX6_of_140 lc_m1 <| ?_
    exact o_iret (pc := 141) dX6_of_141 rfl rfl
def fC_sent (m : MI) (a : Int32) (b : Int32) : Option (Int32 × MI) :=
  (fW_has m a).bind fun r1 =>
  if r1.1 = 0 then
    some (-1, r1.2)
  else
    if b < 0 then
      some (-2, r1.2)
    else
      if b ≤ 999 then
        if ck a 6 = true then
          lt (r1.2.1 4 a.toNatClampNeg) fun x6 =>
          if ck a 6 = true then
            lm (mI r1.2 4 (upd (r1.2.1 4) a.toNatClampNeg b)) fun m8 =>
            some (x6, m8)
          else none
        else none
      else
        some (-2, r1.2)
theorem sC_sent {sh : Sh} {R : RR} (hF : Fx sh R) (m : MI) (a : Int32) (b : Int32) : KS (eI sh R) false 1 0 0 YX6_sent sh R m [.ref 0, .int a, .int b] (fC_sent m a b) := by
  refine KS_of pn_X6 (fun _ => Nat.le_of_ble_eq_true rfl) ?_
  change S _ _ _ _ _ _ _ _ _ _ [(0, .ref 0), (1, .int a), (2, .int b)] [] _
  unfold fC_sent
  refine o_aload_n (pc := 0) 0 dX6_sent_0 rfl rfl <| o_getRc (pc := 1) (a := 1) (ci := 6) (j := 0) (nn := 0) dX6_sent_1 (hF.1 _ _ rfl) rfl (Nat.le_of_ble_eq_true rfl) k_292 rfl (hF.2 _ _ _ rfl) <| o_iload_n (pc := 4) 1 dX6_sent_4 rfl rfl <| ?_
  refine o_callVI (Y2 := YX5_has) (pc := 5) (av := [.int a]) (rest := []) dX6_sent_5 k_353 cm_X5_has (sW_has hF m a) (hF.1 _ _ rfl) rfl rfl (Nat.le_of_ble_eq_true rfl) (Nat.le_of_ble_eq_true rfl) fun r1 => ?_
  refine o_if_ne (pc := 8) (tgt := 13) dX6_sent_8 rfl (fun h2 => ?_) (fun h2 => ?_)
  · refine o_iconst (pc := 11) dX6_sent_11 lc_m1 <| ?_
    exact o_iret (pc := 12) dX6_sent_12 rfl rfl
  · refine o_iload_n (pc := 13) 2 dX6_sent_13 rfl rfl <| ?_
    refine o_if_lt (pc := 14) (tgt := 24) dX6_sent_14 rfl (fun h3 => ?_) (fun h3 => ?_)
    · refine o_bipush (pc := 24) dX6_sent_24 lb_m2 <| ?_
      exact o_iret (pc := 26) dX6_sent_26 rfl rfl
    · refine o_iload_n (pc := 17) 2 dX6_sent_17 rfl rfl <| o_sipush (pc := 18) dX6_sent_18 ls_999 <| ?_
      refine o_icmp_le (pc := 21) (tgt := 27) dX6_sent_21 rfl (fun h4 => ?_) (fun h4 => ?_)
      · refine o_aload_n (pc := 27) 0 dX6_sent_27 rfl rfl <| o_getRc (pc := 28) (a := 1) (ci := 6) (j := 0) (nn := 0) dX6_sent_28 (hF.1 _ _ rfl) rfl (Nat.le_of_ble_eq_true rfl) k_292 rfl (hF.2 _ _ _ rfl) <| o_getRc (pc := 31) (a := 4) (ci := 5) (j := 3) (nn := 0) dX6_sent_31 (hF.1 _ _ rfl) rfl (Nat.le_of_ble_eq_true rfl) k_131 rfl (hF.2 _ _ _ rfl) <| o_iload_n (pc := 34) 1 dX6_sent_34 rfl rfl <| ?_
        refine S_ck fun h5 => ?_
        refine o_iald (pc := 35) (nn := 6) dX6_sent_35 (hF.1 _ _ rfl) (ck_in h5) <| ?_
        refine o_lt fun x6 => ?_
        refine o_istore_n (pc := 36) (ls' := [(3, .int x6), (0, .ref 0), (1, .int a), (2, .int b)]) dX6_sent_36 rfl (Nat.le_of_ble_eq_true rfl) rfl <| o_aload_n (pc := 37) 1 dX6_sent_37 rfl rfl <| o_getRc (pc := 38) (a := 1) (ci := 6) (j := 0) (nn := 0) dX6_sent_38 (hF.1 _ _ rfl) rfl (Nat.le_of_ble_eq_true rfl) k_292 rfl (hF.2 _ _ _ rfl) <| o_getRc (pc := 41) (a := 4) (ci := 5) (j := 3) (nn := 0) dX6_sent_41 (hF.1 _ _ rfl) rfl (Nat.le_of_ble_eq_true rfl) k_131 rfl (hF.2 _ _ _ rfl) <| o_iload_n (pc := 44) 2 dX6_sent_44 rfl rfl <| o_iload_n (pc := 45) 3 dX6_sent_45 rfl rfl <| ?_
        refine S_ck fun h7 => ?_
        refine o_iast (pc := 46) (nn := 6) dX6_sent_46 (hF.1 _ _ rfl) (ck_in h7) <| ?_
        refine o_lm fun m8 => ?_
        refine o_iload_n (pc := 47) 0 dX6_sent_47 rfl rfl <| ?_
        exact o_iret (pc := 48) dX6_sent_48 rfl rfl
      · refine o_bipush (pc := 24) dX6_sent_24 lb_m2 <| ?_
        exact o_iret (pc := 26) dX6_sent_26 rfl rfl
