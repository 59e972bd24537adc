def fM_in (m : MI) (a : Int32) (b : Int32) (c : Int32) : Option (Int32 × MI) :=
  if a < b then
    some (0, m)
  else
    if c < a then
      some (0, m)
    else
      some (1, m)
theorem sM_in {sh : Sh} {R : RR} (hF : Fx sh R) (m : MI) (a : Int32) (b : Int32) (c : Int32) : KS (eI sh R) false 0 0 0 YX7_in sh R m [.ref 61, .int a, .int b, .int c] (fM_in m a b c) := by
  refine KS_of pn_X7 (fun _ => Nat.le_of_ble_eq_true rfl) ?_
  change S _ _ _ _ _ _ _ _ _ _ [(0, .ref 61), (1, .int a), (2, .int b), (3, .int c)] [] _
  unfold fM_in
  refine o_iload_n (pc := 0) 1 dX7_in_0 rfl rfl <| o_iload_n (pc := 1) 2 dX7_in_1 rfl rfl <| ?_
  refine o_icmp_lt (pc := 2) (tgt := 14) dX7_in_2 rfl (fun h1 => ?_) (fun h1 => ?_)
  · refine o_iconst (pc := 14) dX7_in_14 lc_0 <| ?_
    exact o_zret (pc := 15) dX7_in_15 rfl rfl rfl
  · refine o_iload_n (pc := 5) 1 dX7_in_5 rfl rfl <| o_iload_n (pc := 6) 3 dX7_in_6 rfl rfl <| ?_
    refine o_icmp_gt (pc := 7) (tgt := 14) dX7_in_7 rfl (fun h2 => ?_) (fun h2 => ?_)
    · refine o_iconst (pc := 14) dX7_in_14 lc_0 <| ?_
      exact o_zret (pc := 15) dX7_in_15 rfl rfl rfl
    · refine o_iconst (pc := 10) dX7_in_10 lc_1 <| o_goto (pc := 11) (tgt := 15) dX7_in_11 rfl <| ?_
      exact o_zret (pc := 15) dX7_in_15 rfl rfl rfl
def fM_has (m : MI) (a : Int32) (b : Int32) : Option (Int32 × MI) :=
  if (a >>> (b &&& 31)) &&& (1 : Int32) = 1 then
    some (1, m)
  else
    some (0, m)
theorem sM_has {sh : Sh} {R : RR} (hF : Fx sh R) (m : MI) (a : Int32) (b : Int32) : KS (eI sh R) false 0 0 0 YX7_has sh R m [.ref 61, .int a, .int b] (fM_has m a b) := by
  refine KS_of pn_X7 (fun _ => Nat.le_of_ble_eq_true rfl) ?_
  change S _ _ _ _ _ _ _ _ _ _ [(0, .ref 61), (1, .int a), (2, .int b)] [] _
  unfold fM_has
  refine o_iload_n (pc := 0) 1 dX7_has_0 rfl rfl <| o_iload_n (pc := 1) 2 dX7_has_1 rfl rfl <| o_ishr (pc := 2) dX7_has_2 <| o_iconst (pc := 3) dX7_has_3 lc_1 <| o_iand (pc := 4) dX7_has_4 <| o_iconst (pc := 5) dX7_has_5 lc_1 <| ?_
  refine o_icmp_ne (pc := 6) (tgt := 13) dX7_has_6 rfl (fun h1 => ?_) (fun h1 => ?_)
  · refine o_iconst (pc := 9) dX7_has_9 lc_1 <| o_goto (pc := 10) (tgt := 14) dX7_has_10 rfl <| ?_
    exact o_zret (pc := 14) dX7_has_14 rfl rfl rfl
  · refine o_iconst (pc := 13) dX7_has_13 lc_0 <| ?_
    exact o_zret (pc := 14) dX7_has_14 rfl rfl rfl
def fM_isDrawer (m : MI) (a : Int32) : Option (Int32 × MI) :=
  (fM_in m a 0 ((m.1 61 0) - 1)).bind fun r1 =>
  if zb r1.1 = true then some (r1.1, r1.2) else none
theorem sM_isDrawer {sh : Sh} {R : RR} (hF : Fx sh R) (m : MI) (a : Int32) : KS (eI sh R) false 1 0 0 YX7_isDrawer sh R m [.ref 61, .int a] (fM_isDrawer m a) := by
  refine KS_of pn_X7 (fun _ => Nat.le_of_ble_eq_true rfl) ?_
  change S _ _ _ _ _ _ _ _ _ _ [(0, .ref 61), (1, .int a)] [] _
  unfold fM_isDrawer
  refine o_aload_n (pc := 0) 0 dX7_isDrawer_0 rfl rfl <| o_iload_n (pc := 1) 1 dX7_isDrawer_1 rfl rfl <| o_iconst (pc := 2) dX7_isDrawer_2 lc_0 <| o_aload_n (pc := 3) 0 dX7_isDrawer_3 rfl rfl <| o_getI (pc := 4) (ci := 7) (j := 0) (nn := 0) dX7_isDrawer_4 (hF.1 _ _ rfl) rfl (Nat.le_of_ble_eq_true rfl) k_883 rfl <| o_iconst (pc := 7) dX7_isDrawer_7 lc_1 <| o_isub (pc := 8) dX7_isDrawer_8 <| ?_
  refine o_callVI (Y2 := YX7_in) (pc := 9) (av := [.int a, .int 0, .int ((m.1 61 0) - 1)]) (rest := []) dX7_isDrawer_9 k_1096 cm_X7_in (sM_in hF m a 0 ((m.1 61 0) - 1)) (hF.1 _ _ rfl) rfl rfl (Nat.le_of_ble_eq_true rfl) (Nat.le_of_ble_eq_true rfl) fun r1 => ?_
  refine S_ck fun h2 => ?_
  exact o_zret (pc := 12) dX7_isDrawer_12 rfl (zb_ok h2) rfl
def fM_isDraw (m : MI) (a : Int32) : Option (Int32 × MI) :=
  (fM_in m a 0 999999).bind fun r1 =>
  if zb r1.1 = true then some (r1.1, r1.2) else none
theorem sM_isDraw {sh : Sh} {R : RR} (hF : Fx sh R) (m : MI) (a : Int32) : KS (eI sh R) false 1 0 0 YX7_isDraw sh R m [.ref 61, .int a] (fM_isDraw m a) := by
  refine KS_of pn_X7 (fun _ => Nat.le_of_ble_eq_true rfl) ?_
  change S _ _ _ _ _ _ _ _ _ _ [(0, .ref 61), (1, .int a)] [] _
  unfold fM_isDraw
  refine o_aload_n (pc := 0) 0 dX7_isDraw_0 rfl rfl <| o_iload_n (pc := 1) 1 dX7_isDraw_1 rfl rfl <| o_iconst (pc := 2) dX7_isDraw_2 lc_0 <| o_ldc (pc := 3) dX7_isDraw_3 k_1239 <| ?_
  refine o_callVI (Y2 := YX7_in) (pc := 5) (av := [.int a, .int 0, .int 999999]) (rest := []) dX7_isDraw_5 k_1096 cm_X7_in (sM_in hF m a 0 999999) (hF.1 _ _ rfl) rfl rfl (Nat.le_of_ble_eq_true rfl) (Nat.le_of_ble_eq_true rfl) fun r1 => ?_
  refine S_ck fun h2 => ?_
  exact o_zret (pc := 8) dX7_isDraw_8 rfl (zb_ok h2) rfl
def fM_placeOf_l2 (u1 : Int32) (k0_0 : MI → Int32 → Option (Int32 × MI)) : Nat → MI → Int32 → Option (Int32 × MI)
  | 0, _, _ => none
  | n0 + 1, m, v2 =>
    if ck v2 6 = true then
      if m.1 66 v2.toNatClampNeg = u1 then
        k0_0 m v2
      else
        lt (v2 + 1) fun x3 =>
        fM_placeOf_l2 u1 k0_0 n0 m x3
    else none
theorem sM_placeOf_l2 {sh : Sh} {R : RR} (hF : Fx sh R) (u1 : Int32) (k0_0 : MI → Int32 → Option (Int32 × MI)) (hk0_0 : ∀ (m : MI) (v2 : Int32) , S (eI sh R) false 0 0 0 YX7_placeOf sh R m 18 [(0, .ref 61), (1, .int u1), (2, .int v2)] [] (k0_0 m v2)) : ∀ (n : Nat) (m : MI) (v2 : Int32) , S (eI sh R) false 0 0 0 YX7_placeOf sh R m 2 [(0, .ref 61), (1, .int u1), (2, .int v2)] [] (fM_placeOf_l2 u1 k0_0 n m v2) := by
  intro n
  induction n with
  | zero => intros; exact S_none
  | succ n0 ih0 =>
    intro m v2
    rw [fM_placeOf_l2]
    refine o_aload_n (pc := 2) 0 dX7_placeOf_2 rfl rfl <| o_getRc (pc := 3) (a := 66) (ci := 7) (j := 9) (nn := 0) dX7_placeOf_3 (hF.1 _ _ rfl) rfl (Nat.le_of_ble_eq_true rfl) k_892 rfl (hF.2 _ _ _ rfl) <| o_iload_n (pc := 6) 2 dX7_placeOf_6 rfl rfl <| ?_
    refine S_ck fun h1 => ?_
    refine o_iald (pc := 7) (nn := 6) dX7_placeOf_7 (hF.1 _ _ rfl) (ck_in h1) <| o_iload_n (pc := 8) 1 dX7_placeOf_8 rfl rfl <| ?_
    refine o_icmp_eq (pc := 9) (tgt := 18) dX7_placeOf_9 rfl (fun h2 => ?_) (fun h2 => ?_)
    · exact hk0_0 m v2
    · refine o_iinc (pc := 12) 2 (v := v2 + 1) (ls' := [(2, .int (v2 + 1)), (0, .ref 61), (1, .int u1)]) dX7_placeOf_12 rfl rfl (Nat.le_of_ble_eq_true rfl) rfl <| ?_
      refine o_ltL (ls := fun x3 => [(2, .int x3), (0, .ref 61), (1, .int u1)]) fun x3 => ?_
      refine o_goto (pc := 15) (tgt := 2) dX7_placeOf_15 rfl <| ?_
      refine o_sub [1, 2, 0] (ls' := [(0, .ref 61), (1, .int u1), (2, .int x3)]) rfl ?_
      exact ih0 m x3
def fM_placeOf (m : MI) (a : Int32) : Option (Int32 × MI) :=
  fM_placeOf_l2 a
    (fun m2 z1 =>
      some (z1, m2)
      )
    1000 m 0
theorem sM_placeOf {sh : Sh} {R : RR} (hF : Fx sh R) (m : MI) (a : Int32) : KS (eI sh R) false 0 0 0 YX7_placeOf sh R m [.ref 61, .int a] (fM_placeOf m a) := by
  refine KS_of pn_X7 (fun _ => Nat.le_of_ble_eq_true rfl) ?_
  change S _ _ _ _ _ _ _ _ _ _ [(0, .ref 61), (1, .int a)] [] _
  unfold fM_placeOf
  refine o_iconst (pc := 0) dX7_placeOf_0 lc_0 <| o_istore_n (pc := 1) (ls' := [(2, .int 0), (0, .ref 61), (1, .int a)]) dX7_placeOf_1 rfl (Nat.le_of_ble_eq_true rfl) rfl <| ?_
  refine o_sub [1, 2, 0] (ls' := [(0, .ref 61), (1, .int a), (2, .int 0)]) rfl ?_
  refine sM_placeOf_l2 hF a _ ?_ 1000 m 0
  · intro m2 z1
    refine o_iload_n (pc := 18) 2 dX7_placeOf_18 rfl rfl <| ?_
    exact o_iret (pc := 19) dX7_placeOf_19 rfl rfl
def fM_puts_l9 (u1 : Int32) (u2 : Int32) (u3 : Int32) (k0_0 : MI → Int32 → Option (MI)) : Nat → MI → Int32 → Option (MI)
  | 0, _, _ => none
  | n0 + 1, m, v4 =>
    if u2 ≤ v4 then
      k0_0 m v4
    else
      if ck (v4 + 1) 6 = true then
        if ck v4 6 = true then
          lm (mI m 66 (upd (m.1 66) v4.toNatClampNeg (m.1 66 (v4 + 1).toNatClampNeg))) fun m4 =>
          lt (v4 + 1) fun x5 =>
          fM_puts_l9 u1 u2 u3 k0_0 n0 m4 x5
        else none
      else none
theorem sM_puts_l9 {sh : Sh} {R : RR} (hF : Fx sh R) (u1 : Int32) (u2 : Int32) (u3 : Int32) (k0_0 : MI → Int32 → Option (MI)) (hk0_0 : ∀ (m : MI) (v4 : Int32) , S (eV sh R) false 1 0 0 YX7_puts sh R m 37 [(0, .ref 61), (1, .int u1), (2, .int u2), (3, .int u3), (4, .int v4)] [] (k0_0 m v4)) : ∀ (n : Nat) (m : MI) (v4 : Int32) , S (eV sh R) false 1 0 0 YX7_puts sh R m 9 [(0, .ref 61), (1, .int u1), (2, .int u2), (3, .int u3), (4, .int v4)] [] (fM_puts_l9 u1 u2 u3 k0_0 n m v4) := by
  intro n
  induction n with
  | zero => intros; exact S_none
  | succ n0 ih0 =>
    intro m v4
    rw [fM_puts_l9]
    refine o_iload (pc := 9) 4 dX7_puts_9 rfl <| o_iload_n (pc := 11) 2 dX7_puts_11 rfl rfl <| ?_
    refine o_icmp_ge (pc := 12) (tgt := 37) dX7_puts_12 rfl (fun h1 => ?_) (fun h1 => ?_)
    · exact hk0_0 m v4
    · refine o_aload_n (pc := 15) 0 dX7_puts_15 rfl rfl <| o_getRc (pc := 16) (a := 66) (ci := 7) (j := 9) (nn := 0) dX7_puts_16 (hF.1 _ _ rfl) rfl (Nat.le_of_ble_eq_true rfl) k_892 rfl (hF.2 _ _ _ rfl) <| o_iload (pc := 19) 4 dX7_puts_19 rfl <| o_aload_n (pc := 21) 0 dX7_puts_21 rfl rfl <| o_getRc (pc := 22) (a := 66) (ci := 7) (j := 9) (nn := 0) dX7_puts_22 (hF.1 _ _ rfl) rfl (Nat.le_of_ble_eq_true rfl) k_892 rfl (hF.2 _ _ _ rfl) <| o_iload (pc := 25) 4 dX7_puts_25 rfl <| o_iconst (pc := 27) dX7_puts_27 lc_1 <| o_iadd (pc := 28) dX7_puts_28 <| ?_
      refine S_ck fun h2 => ?_
      refine o_iald (pc := 29) (nn := 6) dX7_puts_29 (hF.1 _ _ rfl) (ck_in h2) <| ?_
      refine S_ck fun h3 => ?_
      refine o_iast (pc := 30) (nn := 6) dX7_puts_30 (hF.1 _ _ rfl) (ck_in h3) <| ?_
      refine o_lm fun m4 => ?_
      refine o_iinc (pc := 31) 4 (v := v4 + 1) (ls' := [(4, .int (v4 + 1)), (0, .ref 61), (1, .int u1), (2, .int u2), (3, .int u3)]) dX7_puts_31 rfl rfl (Nat.le_of_ble_eq_true rfl) rfl <| ?_
      refine o_ltL (ls := fun x5 => [(4, .int x5), (0, .ref 61), (1, .int u1), (2, .int u2), (3, .int u3)]) fun x5 => ?_
      refine o_goto (pc := 34) (tgt := 9) dX7_puts_34 rfl <| ?_
      refine o_sub [1, 2, 3, 4, 0] (ls' := [(0, .ref 61), (1, .int u1), (2, .int u2), (3, .int u3), (4, .int x5)]) rfl ?_
      exact ih0 m4 x5
def fM_puts_l40 (u1 : Int32) (u2 : Int32) (u3 : Int32) (k0_0 : MI → Int32 → Option (MI)) : Nat → MI → Int32 → Option (MI)
  | 0, _, _ => none
  | n0 + 1, m, v4 =>
    if v4 ≤ u2 then
      k0_0 m v4
    else
      if ck (v4 - 1) 6 = true then
        if ck v4 6 = true then
          lm (mI m 66 (upd (m.1 66) v4.toNatClampNeg (m.1 66 (v4 - 1).toNatClampNeg))) fun m4 =>
          lt (v4 + (-1)) fun x5 =>
          fM_puts_l40 u1 u2 u3 k0_0 n0 m4 x5
        else none
      else none
theorem sM_puts_l40 {sh : Sh} {R : RR} (hF : Fx sh R) (u1 : Int32) (u2 : Int32) (u3 : Int32) (k0_0 : MI → Int32 → Option (MI)) (hk0_0 : ∀ (m : MI) (v4 : Int32) , S (eV sh R) false 1 0 0 YX7_puts sh R m 68 [(0, .ref 61), (1, .int u1), (2, .int u2), (3, .int u3), (4, .int v4)] [] (k0_0 m v4)) : ∀ (n : Nat) (m : MI) (v4 : Int32) , S (eV sh R) false 1 0 0 YX7_puts sh R m 40 [(0, .ref 61), (1, .int u1), (2, .int u2), (3, .int u3), (4, .int v4)] [] (fM_puts_l40 u1 u2 u3 k0_0 n m v4) := by
  intro n
  induction n with
  | zero => intros; exact S_none
  | succ n0 ih0 =>
    intro m v4
    rw [fM_puts_l40]
    refine o_iload (pc := 40) 4 dX7_puts_40 rfl <| o_iload_n (pc := 42) 2 dX7_puts_42 rfl rfl <| ?_
    refine o_icmp_le (pc := 43) (tgt := 68) dX7_puts_43 rfl (fun h1 => ?_) (fun h1 => ?_)
    · exact hk0_0 m v4
    · refine o_aload_n (pc := 46) 0 dX7_puts_46 rfl rfl <| o_getRc (pc := 47) (a := 66) (ci := 7) (j := 9) (nn := 0) dX7_puts_47 (hF.1 _ _ rfl) rfl (Nat.le_of_ble_eq_true rfl) k_892 rfl (hF.2 _ _ _ rfl) <| o_iload (pc := 50) 4 dX7_puts_50 rfl <| o_aload_n (pc := 52) 0 dX7_puts_52 rfl rfl <| o_getRc (pc := 53) (a := 66) (ci := 7) (j := 9) (nn := 0) dX7_puts_53 (hF.1 _ _ rfl) rfl (Nat.le_of_ble_eq_true rfl) k_892 rfl (hF.2 _ _ _ rfl) <| o_iload (pc := 56) 4 dX7_puts_56 rfl <| o_iconst (pc := 58) dX7_puts_58 lc_1 <| o_isub (pc := 59) dX7_puts_59 <| ?_
      refine S_ck fun h2 => ?_
      refine o_iald (pc := 60) (nn := 6) dX7_puts_60 (hF.1 _ _ rfl) (ck_in h2) <| ?_
      refine S_ck fun h3 => ?_
      refine o_iast (pc := 61) (nn := 6) dX7_puts_61 (hF.1 _ _ rfl) (ck_in h3) <| ?_
      refine o_lm fun m4 => ?_
      refine o_iinc (pc := 62) 4 (v := v4 + (-1)) (ls' := [(4, .int (v4 + (-1))), (0, .ref 61), (1, .int u1), (2, .int u2), (3, .int u3)]) dX7_puts_62 rfl rfl (Nat.le_of_ble_eq_true rfl) rfl <| ?_
      refine o_ltL (ls := fun x5 => [(4, .int x5), (0, .ref 61), (1, .int u1), (2, .int u2), (3, .int u3)]) fun x5 => ?_
      refine o_goto (pc := 65) (tgt := 40) dX7_puts_65 rfl <| ?_
      refine o_sub [1, 2, 3, 4, 0] (ls' := [(0, .ref 61), (1, .int u1), (2, .int u2), (3, .int u3), (4, .int x5)]) rfl ?_
      exact ih0 m4 x5
def fM_puts (m : MI) (a : Int32) (b : Int32) : Option (MI) :=
  (fM_placeOf m a).bind fun r1 =>
  fM_puts_l9 a b r1.1
    (fun m3 z2 =>
      fM_puts_l40 a b r1.1
        (fun m5 z4 =>
          if ck b 6 = true then
            lm (mI m5 66 (upd (m5.1 66) b.toNatClampNeg a)) fun m7 =>
            some m7
          else none
          )
        1000 m3 r1.1
      )
    1000 r1.2 r1.1
theorem sM_puts {sh : Sh} {R : RR} (hF : Fx sh R) (m : MI) (a : Int32) (b : Int32) : KS (eV sh R) false 1 0 0 YX7_puts sh R m [.ref 61, .int a, .int b] (fM_puts m a b) := by
  refine KS_of pn_X7 (fun _ => Nat.le_of_ble_eq_true rfl) ?_
  change S _ _ _ _ _ _ _ _ _ _ [(0, .ref 61), (1, .int a), (2, .int b)] [] _
  unfold fM_puts
  refine o_aload_n (pc := 0) 0 dX7_puts_0 rfl rfl <| o_iload_n (pc := 1) 1 dX7_puts_1 rfl rfl <| ?_
  refine o_callVI (Y2 := YX7_placeOf) (pc := 2) (av := [.int a]) (rest := []) dX7_puts_2 k_1116 cm_X7_placeOf (sM_placeOf hF m a) (hF.1 _ _ rfl) rfl rfl (Nat.le_of_ble_eq_true rfl) (Nat.le_of_ble_eq_true rfl) fun r1 => ?_
  refine o_istore_n (pc := 5) (ls' := [(3, .int r1.1), (0, .ref 61), (1, .int a), (2, .int b)]) dX7_puts_5 rfl (Nat.le_of_ble_eq_true rfl) rfl <| o_iload_n (pc := 6) 0 dX7_puts_6 rfl rfl <| o_istore (pc := 7) (ls' := [(4, .int r1.1), (3, .int r1.1), (0, .ref 61), (1, .int a), (2, .int b)]) dX7_puts_7 (Nat.le_of_ble_eq_true rfl) rfl <| ?_
  refine o_sub [2, 3, 4, 1, 0] (ls' := [(0, .ref 61), (1, .int a), (2, .int b), (3, .int r1.1), (4, .int r1.1)]) rfl ?_
  refine sM_puts_l9 hF a b r1.1 _ ?_ 1000 r1.2 r1.1
  · intro m3 z2
    refine o_iload_n (pc := 37) 3 dX7_puts_37 rfl rfl <| o_istore (pc := 38) (ls' := [(4, .int r1.1), (0, .ref 61), (1, .int a), (2, .int b), (3, .int r1.1)]) dX7_puts_38 (Nat.le_of_ble_eq_true rfl) rfl <| ?_
    refine o_sub [1, 2, 3, 4, 0] (ls' := [(0, .ref 61), (1, .int a), (2, .int b), (3, .int r1.1), (4, .int r1.1)]) rfl ?_
    refine sM_puts_l40 hF a b r1.1 _ ?_ 1000 m3 r1.1
    · intro m5 z4
      refine o_aload_n (pc := 68) 0 dX7_puts_68 rfl rfl <| o_getRc (pc := 69) (a := 66) (ci := 7) (j := 9) (nn := 0) dX7_puts_69 (hF.1 _ _ rfl) rfl (Nat.le_of_ble_eq_true rfl) k_892 rfl (hF.2 _ _ _ rfl) <| o_iload_n (pc := 72) 2 dX7_puts_72 rfl rfl <| o_iload_n (pc := 73) 1 dX7_puts_73 rfl rfl <| ?_
      refine S_ck fun h6 => ?_
      refine o_iast (pc := 74) (nn := 6) dX7_puts_74 (hF.1 _ _ rfl) (ck_in h6) <| ?_
      refine o_lm fun m7 => ?_
      exact o_vret (pc := 75) dX7_puts_75 rfl rfl
def fM_begin (m : MI) : Option (Int32 × MI) :=
  if 0 ≤ m.1 61 11 then
    some ((10 : Int32) * (m.1 61 11), m)
  else
    some (0, m)
theorem sM_begin {sh : Sh} {R : RR} (hF : Fx sh R) (m : MI) : KS (eI sh R) false 0 0 0 YX7_begin sh R m [.ref 61] (fM_begin m ) := by
  refine KS_of pn_X7 (fun _ => Nat.le_of_ble_eq_true rfl) ?_
  change S _ _ _ _ _ _ _ _ _ _ [(0, .ref 61)] [] _
  unfold fM_begin
  refine o_aload_n (pc := 0) 0 dX7_begin_0 rfl rfl <| o_getI (pc := 1) (ci := 7) (j := 11) (nn := 0) dX7_begin_1 (hF.1 _ _ rfl) rfl (Nat.le_of_ble_eq_true rfl) k_894 rfl <| ?_
  refine o_if_ge (pc := 4) (tgt := 11) dX7_begin_4 rfl (fun h1 => ?_) (fun h1 => ?_)
  · refine o_bipush (pc := 11) dX7_begin_11 lb_10 <| o_aload_n (pc := 13) 0 dX7_begin_13 rfl rfl <| o_getI (pc := 14) (ci := 7) (j := 11) (nn := 0) dX7_begin_14 (hF.1 _ _ rfl) rfl (Nat.le_of_ble_eq_true rfl) k_894 rfl <| o_imul (pc := 17) dX7_begin_17 <| ?_
    exact o_iret (pc := 18) dX7_begin_18 rfl rfl
  · refine o_iconst (pc := 7) dX7_begin_7 lc_0 <| o_goto (pc := 8) (tgt := 18) dX7_begin_8 rfl <| ?_
    exact o_iret (pc := 18) dX7_begin_18 rfl rfl
def fM_behind (m : MI) : Option (Int32 × MI) :=
  if 0 ≤ m.1 61 11 then
    if ck (m.1 61 11) 6 = true then
      some (((10 : Int32) * (m.1 61 11)) + (m.1 68 (m.1 61 11).toNatClampNeg), m)
    else none
  else
    some (0, m)
theorem sM_behind {sh : Sh} {R : RR} (hF : Fx sh R) (m : MI) : KS (eI sh R) false 0 0 0 YX7_behind sh R m [.ref 61] (fM_behind m ) := by
  refine KS_of pn_X7 (fun _ => Nat.le_of_ble_eq_true rfl) ?_
  change S _ _ _ _ _ _ _ _ _ _ [(0, .ref 61)] [] _
  unfold fM_behind
  refine o_aload_n (pc := 0) 0 dX7_behind_0 rfl rfl <| o_getI (pc := 1) (ci := 7) (j := 11) (nn := 0) dX7_behind_1 (hF.1 _ _ rfl) rfl (Nat.le_of_ble_eq_true rfl) k_894 rfl <| ?_
  refine o_if_ge (pc := 4) (tgt := 11) dX7_behind_4 rfl (fun h1 => ?_) (fun h1 => ?_)
  · refine o_bipush (pc := 11) dX7_behind_11 lb_10 <| o_aload_n (pc := 13) 0 dX7_behind_13 rfl rfl <| o_getI (pc := 14) (ci := 7) (j := 11) (nn := 0) dX7_behind_14 (hF.1 _ _ rfl) rfl (Nat.le_of_ble_eq_true rfl) k_894 rfl <| o_imul (pc := 17) dX7_behind_17 <| o_aload_n (pc := 18) 0 dX7_behind_18 rfl rfl <| o_getRc (pc := 19) (a := 68) (ci := 7) (j := 16) (nn := 0) dX7_behind_19 (hF.1 _ _ rfl) rfl (Nat.le_of_ble_eq_true rfl) k_899 rfl (hF.2 _ _ _ rfl) <| o_aload_n (pc := 22) 0 dX7_behind_22 rfl rfl <| o_getI (pc := 23) (ci := 7) (j := 11) (nn := 0) dX7_behind_23 (hF.1 _ _ rfl) rfl (Nat.le_of_ble_eq_true rfl) k_894 rfl <| ?_
    refine S_ck fun h2 => ?_
    refine o_iald (pc := 26) (nn := 6) dX7_behind_26 (hF.1 _ _ rfl) (ck_in h2) <| o_iadd (pc := 27) dX7_behind_27 <| ?_
    exact o_iret (pc := 28) dX7_behind_28 rfl rfl
  · refine o_iconst (pc := 7) dX7_behind_7 lc_0 <| o_goto (pc := 8) (tgt := 28) dX7_behind_8 rfl <| ?_
    exact o_iret (pc := 28) dX7_behind_28 rfl rfl
def fM_lastOf_l8 (u1 : Int32) (u2 : Int32) (k0_0 : MI → Int32 → Int32 → Option (Int32 × MI)) : Nat → MI → Int32 → Int32 → Option (Int32 × MI)
  | 0, _, _, _ => none
  | n0 + 1, m, v3, v4 =>
    (fM_behind m).bind fun r1 =>
    if r1.1 ≤ v4 then
      k0_0 r1.2 v3 v4
    else
      if ck v4 60 = true then
        if r1.2.1 69 v4.toNatClampNeg = u1 then
          if ck v4 60 = true then
            lt (r1.2.1 70 v4.toNatClampNeg) fun x6 =>
            lt (v4 + 1) fun x7 =>
            fM_lastOf_l8 u1 u2 k0_0 n0 r1.2 x6 x7
          else none
        else
          lt (v4 + 1) fun x8 =>
          fM_lastOf_l8 u1 u2 k0_0 n0 r1.2 v3 x8
      else none
theorem sM_lastOf_l8 {sh : Sh} {R : RR} (hF : Fx sh R) (u1 : Int32) (u2 : Int32) (k0_0 : MI → Int32 → Int32 → Option (Int32 × MI)) (hk0_0 : ∀ (m : MI) (v3 : Int32) (v4 : Int32) , S (eI sh R) false 1 0 0 YX7_lastOf sh R m 46 [(0, .ref 61), (1, .int u1), (2, .int u2), (3, .int v3), (4, .int v4)] [] (k0_0 m v3 v4)) : ∀ (n : Nat) (m : MI) (v3 : Int32) (v4 : Int32) , S (eI sh R) false 1 0 0 YX7_lastOf sh R m 8 [(0, .ref 61), (1, .int u1), (2, .int u2), (3, .int v3), (4, .int v4)] [] (fM_lastOf_l8 u1 u2 k0_0 n m v3 v4) := by
  intro n
  induction n with
  | zero => intros; exact S_none
  | succ n0 ih0 =>
    intro m v3 v4
    rw [fM_lastOf_l8]
    refine o_iload (pc := 8) 4 dX7_lastOf_8 rfl <| o_aload_n (pc := 10) 0 dX7_lastOf_10 rfl rfl <| ?_
    refine o_callVI (Y2 := YX7_behind) (pc := 11) (av := []) (rest := [.int v4]) dX7_lastOf_11 k_875 cm_X7_behind (sM_behind hF m ) (hF.1 _ _ rfl) rfl rfl (Nat.le_of_ble_eq_true rfl) (Nat.le_of_ble_eq_true rfl) fun r1 => ?_
    refine o_icmp_ge (pc := 14) (tgt := 46) dX7_lastOf_14 rfl (fun h2 => ?_) (fun h2 => ?_)
    · exact hk0_0 r1.2 v3 v4
    · refine o_aload_n (pc := 17) 0 dX7_lastOf_17 rfl rfl <| o_getRc (pc := 18) (a := 69) (ci := 7) (j := 17) (nn := 0) dX7_lastOf_18 (hF.1 _ _ rfl) rfl (Nat.le_of_ble_eq_true rfl) k_900 rfl (hF.2 _ _ _ rfl) <| o_iload (pc := 21) 4 dX7_lastOf_21 rfl <| ?_
      refine S_ck fun h3 => ?_
      refine o_iald (pc := 23) (nn := 60) dX7_lastOf_23 (hF.1 _ _ rfl) (ck_in h3) <| o_iload_n (pc := 24) 1 dX7_lastOf_24 rfl rfl <| ?_
      refine o_icmp_ne (pc := 25) (tgt := 38) dX7_lastOf_25 rfl (fun h4 => ?_) (fun h4 => ?_)
      · refine o_aload_n (pc := 28) 0 dX7_lastOf_28 rfl rfl <| o_getRc (pc := 29) (a := 70) (ci := 7) (j := 18) (nn := 0) dX7_lastOf_29 (hF.1 _ _ rfl) rfl (Nat.le_of_ble_eq_true rfl) k_901 rfl (hF.2 _ _ _ rfl) <| o_iload (pc := 32) 4 dX7_lastOf_32 rfl <| ?_
        refine S_ck fun h5 => ?_
        refine o_iald (pc := 34) (nn := 60) dX7_lastOf_34 (hF.1 _ _ rfl) (ck_in h5) <| o_goto (pc := 35) (tgt := 39) dX7_lastOf_35 rfl <| ?_
        refine o_lt fun x6 => ?_
        refine o_istore_n (pc := 39) (ls' := [(3, .int x6), (0, .ref 61), (1, .int u1), (2, .int u2), (4, .int v4)]) dX7_lastOf_39 rfl (Nat.le_of_ble_eq_true rfl) rfl <| o_iinc (pc := 40) 4 (v := v4 + 1) (ls' := [(4, .int (v4 + 1)), (3, .int x6), (0, .ref 61), (1, .int u1), (2, .int u2)]) dX7_lastOf_40 rfl rfl (Nat.le_of_ble_eq_true rfl) rfl <| ?_
        refine o_ltL (ls := fun x7 => [(4, .int x7), (3, .int x6), (0, .ref 61), (1, .int u1), (2, .int u2)]) fun x7 => ?_
        refine o_goto (pc := 43) (tgt := 8) dX7_lastOf_43 rfl <| ?_
        refine o_sub [2, 3, 4, 1, 0] (ls' := [(0, .ref 61), (1, .int u1), (2, .int u2), (3, .int x6), (4, .int x7)]) rfl ?_
        exact ih0 r1.2 x6 x7
      · refine o_iload_n (pc := 38) 3 dX7_lastOf_38 rfl rfl <| o_istore_n (pc := 39) (ls' := [(3, .int v3), (0, .ref 61), (1, .int u1), (2, .int u2), (4, .int v4)]) dX7_lastOf_39 rfl (Nat.le_of_ble_eq_true rfl) rfl <| o_iinc (pc := 40) 4 (v := v4 + 1) (ls' := [(4, .int (v4 + 1)), (3, .int v3), (0, .ref 61), (1, .int u1), (2, .int u2)]) dX7_lastOf_40 rfl rfl (Nat.le_of_ble_eq_true rfl) rfl <| ?_
        refine o_ltL (ls := fun x8 => [(4, .int x8), (3, .int v3), (0, .ref 61), (1, .int u1), (2, .int u2)]) fun x8 => ?_
        refine o_goto (pc := 43) (tgt := 8) dX7_lastOf_43 rfl <| ?_
        refine o_sub [2, 3, 4, 1, 0] (ls' := [(0, .ref 61), (1, .int u1), (2, .int u2), (3, .int v3), (4, .int x8)]) rfl ?_
        exact ih0 r1.2 v3 x8
def fM_lastOf (m : MI) (a : Int32) (b : Int32) : Option (Int32 × MI) :=
  (fM_begin m).bind fun r1 =>
  fM_lastOf_l8 a b
    (fun m4 z2 z3 =>
      some (z2, m4)
      )
    1000 r1.2 b r1.1
theorem sM_lastOf {sh : Sh} {R : RR} (hF : Fx sh R) (m : MI) (a : Int32) (b : Int32) : KS (eI sh R) false 1 0 0 YX7_lastOf sh R m [.ref 61, .int a, .int b] (fM_lastOf m a b) := by
  refine KS_of pn_X7 (fun _ => Nat.le_of_ble_eq_true rfl) ?_
  change S _ _ _ _ _ _ _ _ _ _ [(0, .ref 61), (1, .int a), (2, .int b)] [] _
  unfold fM_lastOf
  refine o_iload_n (pc := 0) 2 dX7_lastOf_0 rfl rfl <| o_istore_n (pc := 1) (ls' := [(3, .int b), (0, .ref 61), (1, .int a), (2, .int b)]) dX7_lastOf_1 rfl (Nat.le_of_ble_eq_true rfl) rfl <| o_aload_n (pc := 2) 1 dX7_lastOf_2 rfl rfl <| ?_
  refine o_callVI (Y2 := YX7_begin) (pc := 3) (av := []) (rest := []) dX7_lastOf_3 k_871 cm_X7_begin (sM_begin hF m ) (hF.1 _ _ rfl) rfl rfl (Nat.le_of_ble_eq_true rfl) (Nat.le_of_ble_eq_true rfl) fun r1 => ?_
  refine o_istore (pc := 6) (ls' := [(4, .int r1.1), (3, .int b), (0, .ref 61), (1, .int a), (2, .int b)]) dX7_lastOf_6 (Nat.le_of_ble_eq_true rfl) rfl <| ?_
  refine o_sub [2, 3, 4, 1, 0] (ls' := [(0, .ref 61), (1, .int a), (2, .int b), (3, .int b), (4, .int r1.1)]) rfl ?_
  refine sM_lastOf_l8 hF a b _ ?_ 1000 r1.2 b r1.1
  · intro m4 z2 z3
    refine o_iload_n (pc := 46) 3 dX7_lastOf_46 rfl rfl <| ?_
    exact o_iret (pc := 47) dX7_lastOf_47 rfl rfl
def fM_wholeShorts (m : MI) : Option (Int32 × MI) :=
  (fM_lastOf m 2 1).bind fun r1 =>
  if 1 ≤ r1.1 then
    if r1.1 ≤ 3 then
      some (r1.1, r1.2)
    else
      some (3, r1.2)
  else
    some (1, r1.2)
theorem sM_wholeShorts {sh : Sh} {R : RR} (hF : Fx sh R) (m : MI) : KS (eI sh R) false 2 0 0 YX7_wholeShorts sh R m [.ref 61] (fM_wholeShorts m ) := by
  refine KS_of pn_X7 (fun _ => Nat.le_of_ble_eq_true rfl) ?_
  change S _ _ _ _ _ _ _ _ _ _ [(0, .ref 61)] [] _
  unfold fM_wholeShorts
  refine o_aload_n (pc := 0) 0 dX7_wholeShorts_0 rfl rfl <| o_iconst (pc := 1) dX7_wholeShorts_1 lc_2 <| o_iconst (pc := 2) dX7_wholeShorts_2 lc_1 <| ?_
  refine o_callVI (Y2 := YX7_lastOf) (pc := 3) (av := [.int 2, .int 1]) (rest := []) dX7_wholeShorts_3 k_867 cm_X7_lastOf (sM_lastOf hF m 2 1) (hF.1 _ _ rfl) rfl rfl (Nat.le_of_ble_eq_true rfl) (Nat.le_of_ble_eq_true rfl) fun r1 => ?_
  refine o_istore_n (pc := 6) (ls' := [(1, .int r1.1), (0, .ref 61)]) dX7_wholeShorts_6 rfl (Nat.le_of_ble_eq_true rfl) rfl <| o_iload_n (pc := 7) 0 dX7_wholeShorts_7 rfl rfl <| o_iconst (pc := 8) dX7_wholeShorts_8 lc_1 <| ?_
  refine o_icmp_ge (pc := 9) (tgt := 16) dX7_wholeShorts_9 rfl (fun h2 => ?_) (fun h2 => ?_)
  · refine o_iload_n (pc := 16) 0 dX7_wholeShorts_16 rfl rfl <| o_iconst (pc := 17) dX7_wholeShorts_17 lc_3 <| ?_
    refine o_icmp_le (pc := 18) (tgt := 25) dX7_wholeShorts_18 rfl (fun h3 => ?_) (fun h3 => ?_)
    · refine o_iload_n (pc := 25) 0 dX7_wholeShorts_25 rfl rfl <| ?_
      exact o_iret (pc := 26) dX7_wholeShorts_26 rfl rfl
    · refine o_iconst (pc := 21) dX7_wholeShorts_21 lc_3 <| o_goto (pc := 22) (tgt := 26) dX7_wholeShorts_22 rfl <| ?_
      exact o_iret (pc := 26) dX7_wholeShorts_26 rfl rfl
  · refine o_iconst (pc := 12) dX7_wholeShorts_12 lc_1 <| o_goto (pc := 13) (tgt := 26) dX7_wholeShorts_13 rfl <| ?_
    exact o_iret (pc := 26) dX7_wholeShorts_26 rfl rfl
def fM_wholeLongs (m : MI) : Option (Int32 × MI) :=
  (fM_lastOf m 3 0).bind fun r1 =>
  if r1.1 ≤ 9 then
    (fM_wholeShorts r1.2).bind fun r3 =>
    lt (((r1.2.1 61 0) + r1.1) - r3.1) fun x4 =>
    if 0 ≤ x4 then
      some (x4, r3.2)
    else
      some (0, r3.2)
  else
    (fM_wholeShorts r1.2).bind fun r6 =>
    lt (((r1.2.1 61 0) + 9) - r6.1) fun x7 =>
    if 0 ≤ x7 then
      some (x7, r6.2)
    else
      some (0, r6.2)
theorem sM_wholeLongs {sh : Sh} {R : RR} (hF : Fx sh R) (m : MI) : KS (eI sh R) false 3 0 0 YX7_wholeLongs sh R m [.ref 61] (fM_wholeLongs m ) := by
  refine KS_of pn_X7 (fun _ => Nat.le_of_ble_eq_true rfl) ?_
  change S _ _ _ _ _ _ _ _ _ _ [(0, .ref 61)] [] _
  unfold fM_wholeLongs
  refine o_aload_n (pc := 0) 0 dX7_wholeLongs_0 rfl rfl <| o_iconst (pc := 1) dX7_wholeLongs_1 lc_3 <| o_iconst (pc := 2) dX7_wholeLongs_2 lc_0 <| ?_
  refine o_callVI (Y2 := YX7_lastOf) (pc := 3) (av := [.int 3, .int 0]) (rest := []) dX7_wholeLongs_3 k_867 cm_X7_lastOf (sM_lastOf hF m 3 0) (hF.1 _ _ rfl) rfl rfl (Nat.le_of_ble_eq_true rfl) (Nat.le_of_ble_eq_true rfl) fun r1 => ?_
  refine o_istore_n (pc := 6) (ls' := [(1, .int r1.1), (0, .ref 61)]) dX7_wholeLongs_6 rfl (Nat.le_of_ble_eq_true rfl) rfl <| o_aload_n (pc := 7) 1 dX7_wholeLongs_7 rfl rfl <| o_getI (pc := 8) (ci := 7) (j := 0) (nn := 0) dX7_wholeLongs_8 (hF.1 _ _ rfl) rfl (Nat.le_of_ble_eq_true rfl) k_883 rfl <| o_iload_n (pc := 11) 0 dX7_wholeLongs_11 rfl rfl <| o_bipush (pc := 12) dX7_wholeLongs_12 lb_9 <| ?_
  refine o_icmp_le (pc := 14) (tgt := 22) dX7_wholeLongs_14 rfl (fun h2 => ?_) (fun h2 => ?_)
  · refine o_iload_n (pc := 22) 0 dX7_wholeLongs_22 rfl rfl <| o_iadd (pc := 23) dX7_wholeLongs_23 <| o_aload_n (pc := 24) 1 dX7_wholeLongs_24 rfl rfl <| ?_
    refine o_callVI (Y2 := YX7_wholeShorts) (pc := 25) (av := []) (rest := [.int ((r1.2.1 61 0) + r1.1)]) dX7_wholeLongs_25 k_863 cm_X7_wholeShorts (sM_wholeShorts hF r1.2 ) (hF.1 _ _ rfl) rfl rfl (Nat.le_of_ble_eq_true rfl) (Nat.le_of_ble_eq_true rfl) fun r3 => ?_
    refine o_isub (pc := 28) dX7_wholeLongs_28 <| ?_
    refine o_lt fun x4 => ?_
    refine o_istore_n (pc := 29) (ls' := [(2, .int x4), (1, .int r1.1), (0, .ref 61)]) dX7_wholeLongs_29 rfl (Nat.le_of_ble_eq_true rfl) rfl <| o_iload_n (pc := 30) 0 dX7_wholeLongs_30 rfl rfl <| ?_
    refine o_if_ge (pc := 31) (tgt := 38) dX7_wholeLongs_31 rfl (fun h5 => ?_) (fun h5 => ?_)
    · refine o_iload_n (pc := 38) 0 dX7_wholeLongs_38 rfl rfl <| ?_
      exact o_iret (pc := 39) dX7_wholeLongs_39 rfl rfl
    · refine o_iconst (pc := 34) dX7_wholeLongs_34 lc_0 <| o_goto (pc := 35) (tgt := 39) dX7_wholeLongs_35 rfl <| ?_
      exact o_iret (pc := 39) dX7_wholeLongs_39 rfl rfl
  · refine o_bipush (pc := 17) dX7_wholeLongs_17 lb_9 <| o_goto (pc := 19) (tgt := 23) dX7_wholeLongs_19 rfl <| o_iadd (pc := 23) dX7_wholeLongs_23 <| o_aload_n (pc := 24) 1 dX7_wholeLongs_24 rfl rfl <| ?_
    refine o_callVI (Y2 := YX7_wholeShorts) (pc := 25) (av := []) (rest := [.int ((r1.2.1 61 0) + 9)]) dX7_wholeLongs_25 k_863 cm_X7_wholeShorts (sM_wholeShorts hF r1.2 ) (hF.1 _ _ rfl) rfl rfl (Nat.le_of_ble_eq_true rfl) (Nat.le_of_ble_eq_true rfl) fun r6 => ?_
    refine o_isub (pc := 28) dX7_wholeLongs_28 <| ?_
    refine o_lt fun x7 => ?_
    refine o_istore_n (pc := 29) (ls' := [(2, .int x7), (1, .int r1.1), (0, .ref 61)]) dX7_wholeLongs_29 rfl (Nat.le_of_ble_eq_true rfl) rfl <| o_iload_n (pc := 30) 0 dX7_wholeLongs_30 rfl rfl <| ?_
    refine o_if_ge (pc := 31) (tgt := 38) dX7_wholeLongs_31 rfl (fun h8 => ?_) (fun h8 => ?_)
    · refine o_iload_n (pc := 38) 0 dX7_wholeLongs_38 rfl rfl <| ?_
      exact o_iret (pc := 39) dX7_wholeLongs_39 rfl rfl
    · refine o_iconst (pc := 34) dX7_wholeLongs_34 lc_0 <| o_goto (pc := 35) (tgt := 39) dX7_wholeLongs_35 rfl <| ?_
      exact o_iret (pc := 39) dX7_wholeLongs_39 rfl rfl
def fM_layFist (m : MI) : Option (MI) :=
  (fM_wholeShorts m).bind fun r1 =>
  lm (mI r1.2 61 (upd (r1.2.1 61) 2 r1.1)) fun m2 =>
  (fM_wholeLongs m2).bind fun r3 =>
  lm (mI r3.2 61 (upd (r3.2.1 61) 3 r3.1)) fun m4 =>
  lm (mI m4 61 (upd (m4.1 61) 4 0)) fun m5 =>
  some m5
theorem sM_layFist {sh : Sh} {R : RR} (hF : Fx sh R) (m : MI) : KS (eV sh R) false 4 0 0 YX7_layFist sh R m [.ref 61] (fM_layFist m ) := by
  refine KS_of pn_X7 (fun _ => Nat.le_of_ble_eq_true rfl) ?_
  change S _ _ _ _ _ _ _ _ _ _ [(0, .ref 61)] [] _
  unfold fM_layFist
  refine o_aload_n (pc := 0) 0 dX7_layFist_0 rfl rfl <| o_aload_n (pc := 1) 0 dX7_layFist_1 rfl rfl <| ?_
  refine o_callVI (Y2 := YX7_wholeShorts) (pc := 2) (av := []) (rest := [.ref 61]) dX7_layFist_2 k_863 cm_X7_wholeShorts (sM_wholeShorts hF m ) (hF.1 _ _ rfl) rfl rfl (Nat.le_of_ble_eq_true rfl) (Nat.le_of_ble_eq_true rfl) fun r1 => ?_
  refine o_putI (pc := 5) (ci := 7) (j := 2) (nn := 0) dX7_layFist_5 (hF.1 _ _ rfl) rfl (Nat.le_of_ble_eq_true rfl) k_885 rfl rfl rfl rfl rfl <| ?_
  refine o_lm fun m2 => ?_
  refine o_aload_n (pc := 8) 0 dX7_layFist_8 rfl rfl <| o_aload_n (pc := 9) 0 dX7_layFist_9 rfl rfl <| ?_
  refine o_callVI (Y2 := YX7_wholeLongs) (pc := 10) (av := []) (rest := [.ref 61]) dX7_layFist_10 k_879 cm_X7_wholeLongs (sM_wholeLongs hF m2 ) (hF.1 _ _ rfl) rfl rfl (Nat.le_of_ble_eq_true rfl) (Nat.le_of_ble_eq_true rfl) fun r3 => ?_
  refine o_putI (pc := 13) (ci := 7) (j := 3) (nn := 0) dX7_layFist_13 (hF.1 _ _ rfl) rfl (Nat.le_of_ble_eq_true rfl) k_886 rfl rfl rfl rfl rfl <| ?_
  refine o_lm fun m4 => ?_
  refine o_aload_n (pc := 16) 0 dX7_layFist_16 rfl rfl <| o_iconst (pc := 17) dX7_layFist_17 lc_0 <| o_putI (pc := 18) (ci := 7) (j := 4) (nn := 0) dX7_layFist_18 (hF.1 _ _ rfl) rfl (Nat.le_of_ble_eq_true rfl) k_887 rfl rfl rfl rfl rfl <| ?_
  refine o_lm fun m5 => ?_
  exact o_vret (pc := 21) dX7_layFist_21 rfl rfl
def fM_drawer_l84 (u1 : Int32) (u2 : Int32) (k0_0 : MI → Int32 → Option (Int32 × MI)) : Nat → MI → Int32 → Option (Int32 × MI)
  | 0, _, _ => none
  | n0 + 1, m, v3 =>
    if 4 ≤ v3 then
      k0_0 m v3
    else
      if ck (((4 : Int32) * (m.1 61 0)) + v3) 24 = true then
        lm (mI m 65 (upd (m.1 65) (((4 : Int32) * (m.1 61 0)) + v3).toNatClampNeg 5)) fun m3 =>
        lt (v3 + 1) fun x4 =>
        fM_drawer_l84 u1 u2 k0_0 n0 m3 x4
      else none
theorem sM_drawer_l84 {sh : Sh} {R : RR} (hF : Fx sh R) (u1 : Int32) (u2 : Int32) (k0_0 : MI → Int32 → Option (Int32 × MI)) (hk0_0 : ∀ (m : MI) (v3 : Int32) , S (eI sh R) false 5 0 0 YX7_drawer sh R m 109 [(0, .ref 61), (1, .int u1), (2, .int u2), (3, .int v3)] [] (k0_0 m v3)) : ∀ (n : Nat) (m : MI) (v3 : Int32) , S (eI sh R) false 5 0 0 YX7_drawer sh R m 84 [(0, .ref 61), (1, .int u1), (2, .int u2), (3, .int v3)] [] (fM_drawer_l84 u1 u2 k0_0 n m v3) := by
  intro n
  induction n with
  | zero => intros; exact S_none
  | succ n0 ih0 =>
    intro m v3
    rw [fM_drawer_l84]
    refine o_iload_n (pc := 84) 3 dX7_drawer_84 rfl rfl <| o_iconst (pc := 85) dX7_drawer_85 lc_4 <| ?_
    refine o_icmp_ge (pc := 86) (tgt := 109) dX7_drawer_86 rfl (fun h1 => ?_) (fun h1 => ?_)
    · exact hk0_0 m v3
    · refine o_aload_n (pc := 89) 0 dX7_drawer_89 rfl rfl <| o_getRc (pc := 90) (a := 65) (ci := 7) (j := 8) (nn := 0) dX7_drawer_90 (hF.1 _ _ rfl) rfl (Nat.le_of_ble_eq_true rfl) k_891 rfl (hF.2 _ _ _ rfl) <| o_iconst (pc := 93) dX7_drawer_93 lc_4 <| o_aload_n (pc := 94) 0 dX7_drawer_94 rfl rfl <| o_getI (pc := 95) (ci := 7) (j := 0) (nn := 0) dX7_drawer_95 (hF.1 _ _ rfl) rfl (Nat.le_of_ble_eq_true rfl) k_883 rfl <| o_imul (pc := 98) dX7_drawer_98 <| o_iload_n (pc := 99) 3 dX7_drawer_99 rfl rfl <| o_iadd (pc := 100) dX7_drawer_100 <| o_iconst (pc := 101) dX7_drawer_101 lc_5 <| ?_
      refine S_ck fun h2 => ?_
      refine o_iast (pc := 102) (nn := 24) dX7_drawer_102 (hF.1 _ _ rfl) (ck_in h2) <| ?_
      refine o_lm fun m3 => ?_
      refine o_iinc (pc := 103) 3 (v := v3 + 1) (ls' := [(3, .int (v3 + 1)), (0, .ref 61), (1, .int u1), (2, .int u2)]) dX7_drawer_103 rfl rfl (Nat.le_of_ble_eq_true rfl) rfl <| ?_
      refine o_ltL (ls := fun x4 => [(3, .int x4), (0, .ref 61), (1, .int u1), (2, .int u2)]) fun x4 => ?_
      refine o_goto (pc := 106) (tgt := 84) dX7_drawer_106 rfl <| ?_
      refine o_sub [1, 2, 3, 0] (ls' := [(0, .ref 61), (1, .int u1), (2, .int u2), (3, .int x4)]) rfl ?_
      exact ih0 m3 x4
def fM_drawer (m : MI) (a : Int32) (b : Int32) : Option (Int32 × MI) :=
  (fM_in m a 0 6).bind fun r1 =>
  if r1.1 = 0 then
    some (-1, r1.2)
  else
    (fM_in r1.2 b 0 9).bind fun r3 =>
    if r3.1 = 0 then
      some (-2, r3.2)
    else
      if r3.2.1 61 0 = 6 then
        some (-4, r3.2)
      else
        if ck (r3.2.1 61 0) 6 = true then
          lm (mI r3.2 62 (upd (r3.2.1 62) (r3.2.1 61 0).toNatClampNeg a)) fun m7 =>
          if ck (m7.1 61 0) 6 = true then
            lm (mI m7 63 (upd (m7.1 63) (m7.1 61 0).toNatClampNeg b)) fun m9 =>
            if ck (m9.1 61 0) 6 = true then
              lm (mI m9 64 (upd (m9.1 64) (m9.1 61 0).toNatClampNeg 0)) fun m11 =>
              if ck (m11.1 61 0) 6 = true then
                lm (mI m11 66 (upd (m11.1 66) (m11.1 61 0).toNatClampNeg (m11.1 61 0))) fun m13 =>
                fM_drawer_l84 a b
                  (fun m15 z14 =>
                    lm (mI m15 61 (upd (m15.1 61) 0 ((m15.1 61 0) + 1))) fun m16 =>
                    (fM_layFist m16).bind fun r17 =>
                    some ((r17.1 61 0) - 1, r17)
                    )
                  1000 m13 0
              else none
            else none
          else none
        else none
theorem sM_drawer {sh : Sh} {R : RR} (hF : Fx sh R) (m : MI) (a : Int32) (b : Int32) : KS (eI sh R) false 5 0 0 YX7_drawer sh R m [.ref 61, .int a, .int b] (fM_drawer m a b) := by
  refine KS_of pn_X7 (fun _ => Nat.le_of_ble_eq_true rfl) ?_
  change S _ _ _ _ _ _ _ _ _ _ [(0, .ref 61), (1, .int a), (2, .int b)] [] _
  unfold fM_drawer
  refine o_aload_n (pc := 0) 0 dX7_drawer_0 rfl rfl <| o_iload_n (pc := 1) 1 dX7_drawer_1 rfl rfl <| o_iconst (pc := 2) dX7_drawer_2 lc_0 <| o_bipush (pc := 3) dX7_drawer_3 lb_6 <| ?_
  refine o_callVI (Y2 := YX7_in) (pc := 5) (av := [.int a, .int 0, .int 6]) (rest := []) dX7_drawer_5 k_1096 cm_X7_in (sM_in hF m a 0 6) (hF.1 _ _ rfl) rfl rfl (Nat.le_of_ble_eq_true rfl) (Nat.le_of_ble_eq_true rfl) fun r1 => ?_
  refine o_if_ne (pc := 8) (tgt := 13) dX7_drawer_8 rfl (fun h2 => ?_) (fun h2 => ?_)
  · refine o_iconst (pc := 11) dX7_drawer_11 lc_m1 <| ?_
    exact o_iret (pc := 12) dX7_drawer_12 rfl rfl
  · refine o_aload_n (pc := 13) 0 dX7_drawer_13 rfl rfl <| o_iload_n (pc := 14) 2 dX7_drawer_14 rfl rfl <| o_iconst (pc := 15) dX7_drawer_15 lc_0 <| o_bipush (pc := 16) dX7_drawer_16 lb_9 <| ?_
    refine o_callVI (Y2 := YX7_in) (pc := 18) (av := [.int b, .int 0, .int 9]) (rest := []) dX7_drawer_18 k_1096 cm_X7_in (sM_in hF r1.2 b 0 9) (hF.1 _ _ rfl) rfl rfl (Nat.le_of_ble_eq_true rfl) (Nat.le_of_ble_eq_true rfl) fun r3 => ?_
    refine o_if_ne (pc := 21) (tgt := 27) dX7_drawer_21 rfl (fun h4 => ?_) (fun h4 => ?_)
    · refine o_bipush (pc := 24) dX7_drawer_24 lb_m2 <| ?_
      exact o_iret (pc := 26) dX7_drawer_26 rfl rfl
    · refine o_aload_n (pc := 27) 0 dX7_drawer_27 rfl rfl <| o_getI (pc := 28) (ci := 7) (j := 0) (nn := 0) dX7_drawer_28 (hF.1 _ _ rfl) rfl (Nat.le_of_ble_eq_true rfl) k_883 rfl <| o_bipush (pc := 31) dX7_drawer_31 lb_6 <| ?_
      refine o_icmp_ne (pc := 33) (tgt := 39) dX7_drawer_33 rfl (fun h5 => ?_) (fun h5 => ?_)
      · refine o_bipush (pc := 36) dX7_drawer_36 lb_m4 <| ?_
        exact o_iret (pc := 38) dX7_drawer_38 rfl rfl
      · refine o_aload_n (pc := 39) 0 dX7_drawer_39 rfl rfl <| o_getRc (pc := 40) (a := 62) (ci := 7) (j := 5) (nn := 0) dX7_drawer_40 (hF.1 _ _ rfl) rfl (Nat.le_of_ble_eq_true rfl) k_888 rfl (hF.2 _ _ _ rfl) <| o_aload_n (pc := 43) 0 dX7_drawer_43 rfl rfl <| o_getI (pc := 44) (ci := 7) (j := 0) (nn := 0) dX7_drawer_44 (hF.1 _ _ rfl) rfl (Nat.le_of_ble_eq_true rfl) k_883 rfl <| o_iload_n (pc := 47) 1 dX7_drawer_47 rfl rfl <| ?_
        refine S_ck fun h6 => ?_
        refine o_iast (pc := 48) (nn := 6) dX7_drawer_48 (hF.1 _ _ rfl) (ck_in h6) <| ?_
        refine o_lm fun m7 => ?_
        refine o_aload_n (pc := 49) 0 dX7_drawer_49 rfl rfl <| o_getRc (pc := 50) (a := 63) (ci := 7) (j := 6) (nn := 0) dX7_drawer_50 (hF.1 _ _ rfl) rfl (Nat.le_of_ble_eq_true rfl) k_889 rfl (hF.2 _ _ _ rfl) <| o_aload_n (pc := 53) 0 dX7_drawer_53 rfl rfl <| o_getI (pc := 54) (ci := 7) (j := 0) (nn := 0) dX7_drawer_54 (hF.1 _ _ rfl) rfl (Nat.le_of_ble_eq_true rfl) k_883 rfl <| o_iload_n (pc := 57) 2 dX7_drawer_57 rfl rfl <| ?_
        refine S_ck fun h8 => ?_
        refine o_iast (pc := 58) (nn := 6) dX7_drawer_58 (hF.1 _ _ rfl) (ck_in h8) <| ?_
        refine o_lm fun m9 => ?_
        refine o_aload_n (pc := 59) 0 dX7_drawer_59 rfl rfl <| o_getRc (pc := 60) (a := 64) (ci := 7) (j := 7) (nn := 0) dX7_drawer_60 (hF.1 _ _ rfl) rfl (Nat.le_of_ble_eq_true rfl) k_890 rfl (hF.2 _ _ _ rfl) <| o_aload_n (pc := 63) 0 dX7_drawer_63 rfl rfl <| o_getI (pc := 64) (ci := 7) (j := 0) (nn := 0) dX7_drawer_64 (hF.1 _ _ rfl) rfl (Nat.le_of_ble_eq_true rfl) k_883 rfl <| o_iconst (pc := 67) dX7_drawer_67 lc_0 <| ?_
        refine S_ck fun h10 => ?_
        refine o_iast (pc := 68) (nn := 6) dX7_drawer_68 (hF.1 _ _ rfl) (ck_in h10) <| ?_
        refine o_lm fun m11 => ?_
        refine o_aload_n (pc := 69) 0 dX7_drawer_69 rfl rfl <| o_getRc (pc := 70) (a := 66) (ci := 7) (j := 9) (nn := 0) dX7_drawer_70 (hF.1 _ _ rfl) rfl (Nat.le_of_ble_eq_true rfl) k_892 rfl (hF.2 _ _ _ rfl) <| o_aload_n (pc := 73) 0 dX7_drawer_73 rfl rfl <| o_getI (pc := 74) (ci := 7) (j := 0) (nn := 0) dX7_drawer_74 (hF.1 _ _ rfl) rfl (Nat.le_of_ble_eq_true rfl) k_883 rfl <| o_aload_n (pc := 77) 0 dX7_drawer_77 rfl rfl <| o_getI (pc := 78) (ci := 7) (j := 0) (nn := 0) dX7_drawer_78 (hF.1 _ _ rfl) rfl (Nat.le_of_ble_eq_true rfl) k_883 rfl <| ?_
        refine S_ck fun h12 => ?_
        refine o_iast (pc := 81) (nn := 6) dX7_drawer_81 (hF.1 _ _ rfl) (ck_in h12) <| ?_
        refine o_lm fun m13 => ?_
        refine o_iconst (pc := 82) dX7_drawer_82 lc_0 <| o_istore_n (pc := 83) (ls' := [(3, .int 0), (0, .ref 61), (1, .int a), (2, .int b)]) dX7_drawer_83 rfl (Nat.le_of_ble_eq_true rfl) rfl <| ?_
        refine o_sub [1, 2, 3, 0] (ls' := [(0, .ref 61), (1, .int a), (2, .int b), (3, .int 0)]) rfl ?_
        refine sM_drawer_l84 hF a b _ ?_ 1000 m13 0
        · intro m15 z14
          refine o_aload_n (pc := 109) 0 dX7_drawer_109 rfl rfl <| o_dup (pc := 110) dX7_drawer_110 rfl <| o_getI (pc := 111) (ci := 7) (j := 0) (nn := 0) dX7_drawer_111 (hF.1 _ _ rfl) rfl (Nat.le_of_ble_eq_true rfl) k_883 rfl <| o_iconst (pc := 114) dX7_drawer_114 lc_1 <| o_iadd (pc := 115) dX7_drawer_115 <| o_putI (pc := 116) (ci := 7) (j := 0) (nn := 0) dX7_drawer_116 (hF.1 _ _ rfl) rfl (Nat.le_of_ble_eq_true rfl) k_883 rfl rfl rfl rfl rfl <| ?_
          refine o_lm fun m16 => ?_
          refine o_aload_n (pc := 119) 0 dX7_drawer_119 rfl rfl <| ?_
          refine o_callVV (Y2 := YX7_layFist) (pc := 120) (av := []) (rest := []) dX7_drawer_120 k_859 cm_X7_layFist (sM_layFist hF m16 ) (hF.1 _ _ rfl) rfl rfl (Nat.le_of_ble_eq_true rfl) (Nat.le_of_ble_eq_true rfl) fun r17 => ?_
          refine o_aload_n (pc := 123) 0 dX7_drawer_123 rfl rfl <| o_getI (pc := 124) (ci := 7) (j := 0) (nn := 0) dX7_drawer_124 (hF.1 _ _ rfl) rfl (Nat.le_of_ble_eq_true rfl) k_883 rfl <| o_iconst (pc := 127) dX7_drawer_127 lc_1 <| o_isub (pc := 128) dX7_drawer_128 <| ?_
          exact o_iret (pc := 129) dX7_drawer_129 rfl rfl
def fM_sent (m : MI) (a : Int32) (b : Int32) : Option (Int32 × MI) :=
  (fM_isDrawer m a).bind fun r1 =>
  if r1.1 = 0 then
    some (-1, r1.2)
  else
    (fM_in r1.2 b 0 999).bind fun r3 =>
    if r3.1 = 0 then
      some (-2, r3.2)
    else
      if ck a 6 = true then
        lt (r3.2.1 64 a.toNatClampNeg) fun x6 =>
        if ck a 6 = true then
          lm (mI r3.2 64 (upd (r3.2.1 64) a.toNatClampNeg b)) fun m8 =>
          some (x6, m8)
        else none
      else none
theorem sM_sent {sh : Sh} {R : RR} (hF : Fx sh R) (m : MI) (a : Int32) (b : Int32) : KS (eI sh R) false 2 0 0 YX7_sent sh R m [.ref 61, .int a, .int b] (fM_sent m a b) := by
  refine KS_of pn_X7 (fun _ => Nat.le_of_ble_eq_true rfl) ?_
  change S _ _ _ _ _ _ _ _ _ _ [(0, .ref 61), (1, .int a), (2, .int b)] [] _
  unfold fM_sent
  refine o_aload_n (pc := 0) 0 dX7_sent_0 rfl rfl <| o_iload_n (pc := 1) 1 dX7_sent_1 rfl rfl <| ?_
  refine o_callVI (Y2 := YX7_isDrawer) (pc := 2) (av := [.int a]) (rest := []) dX7_sent_2 k_1104 cm_X7_isDrawer (sM_isDrawer hF m a) (hF.1 _ _ rfl) rfl rfl (Nat.le_of_ble_eq_true rfl) (Nat.le_of_ble_eq_true rfl) fun r1 => ?_
  refine o_if_ne (pc := 5) (tgt := 10) dX7_sent_5 rfl (fun h2 => ?_) (fun h2 => ?_)
  · refine o_iconst (pc := 8) dX7_sent_8 lc_m1 <| ?_
    exact o_iret (pc := 9) dX7_sent_9 rfl rfl
  · refine o_aload_n (pc := 10) 0 dX7_sent_10 rfl rfl <| o_iload_n (pc := 11) 2 dX7_sent_11 rfl rfl <| o_iconst (pc := 12) dX7_sent_12 lc_0 <| o_sipush (pc := 13) dX7_sent_13 ls_999 <| ?_
    refine o_callVI (Y2 := YX7_in) (pc := 16) (av := [.int b, .int 0, .int 999]) (rest := []) dX7_sent_16 k_1096 cm_X7_in (sM_in hF r1.2 b 0 999) (hF.1 _ _ rfl) rfl rfl (Nat.le_of_ble_eq_true rfl) (Nat.le_of_ble_eq_true rfl) fun r3 => ?_
    refine o_if_ne (pc := 19) (tgt := 25) dX7_sent_19 rfl (fun h4 => ?_) (fun h4 => ?_)
    · refine o_bipush (pc := 22) dX7_sent_22 lb_m2 <| ?_
      exact o_iret (pc := 24) dX7_sent_24 rfl rfl
    · refine o_aload_n (pc := 25) 0 dX7_sent_25 rfl rfl <| o_getRc (pc := 26) (a := 64) (ci := 7) (j := 7) (nn := 0) dX7_sent_26 (hF.1 _ _ rfl) rfl (Nat.le_of_ble_eq_true rfl) k_890 rfl (hF.2 _ _ _ rfl) <| o_iload_n (pc := 29) 1 dX7_sent_29 rfl rfl <| ?_
      refine S_ck fun h5 => ?_
      refine o_iald (pc := 30) (nn := 6) dX7_sent_30 (hF.1 _ _ rfl) (ck_in h5) <| ?_
      refine o_lt fun x6 => ?_
      refine o_istore_n (pc := 31) (ls' := [(3, .int x6), (0, .ref 61), (1, .int a), (2, .int b)]) dX7_sent_31 rfl (Nat.le_of_ble_eq_true rfl) rfl <| o_aload_n (pc := 32) 1 dX7_sent_32 rfl rfl <| o_getRc (pc := 33) (a := 64) (ci := 7) (j := 7) (nn := 0) dX7_sent_33 (hF.1 _ _ rfl) rfl (Nat.le_of_ble_eq_true rfl) k_890 rfl (hF.2 _ _ _ rfl) <| o_iload_n (pc := 36) 2 dX7_sent_36 rfl rfl <| o_iload_n (pc := 37) 3 dX7_sent_37 rfl rfl <| ?_
      refine S_ck fun h7 => ?_
      refine o_iast (pc := 38) (nn := 6) dX7_sent_38 (hF.1 _ _ rfl) (ck_in h7) <| ?_
      refine o_lm fun m8 => ?_
      refine o_iload_n (pc := 39) 0 dX7_sent_39 rfl rfl <| ?_
      exact o_iret (pc := 40) dX7_sent_40 rfl rfl
def fM_row (m : MI) (a : Int32) (b : Int32) (c : Int32) : Option (Int32 × MI) :=
  (fM_isDrawer m a).bind fun r1 =>
  if r1.1 = 0 then
    some (-1, r1.2)
  else
    (fM_in r1.2 b 0 3).bind fun r3 =>
    if r3.1 = 0 then
      some (-1, r3.2)
    else
      (fM_in r3.2 c 0 9).bind fun r5 =>
      if r5.1 = 0 then
        some (-2, r5.2)
      else
        if ck a 6 = true then
          if r5.2.1 62 a.toNatClampNeg = 6 then
            if ck (((4 : Int32) * a) + b) 24 = true then
              lt (r5.2.1 65 (((4 : Int32) * a) + b).toNatClampNeg) fun x10 =>
              if ck (((4 : Int32) * a) + b) 24 = true then
                lm (mI r5.2 65 (upd (r5.2.1 65) (((4 : Int32) * a) + b).toNatClampNeg c)) fun m12 =>
                some (x10, m12)
              else none
            else none
          else
            some (-3, r5.2)
        else none
theorem sM_row {sh : Sh} {R : RR} (hF : Fx sh R) (m : MI) (a : Int32) (b : Int32) (c : Int32) : KS (eI sh R) false 2 0 0 YX7_row sh R m [.ref 61, .int a, .int b, .int c] (fM_row m a b c) := by
  refine KS_of pn_X7 (fun _ => Nat.le_of_ble_eq_true rfl) ?_
  change S _ _ _ _ _ _ _ _ _ _ [(0, .ref 61), (1, .int a), (2, .int b), (3, .int c)] [] _
  unfold fM_row
  refine o_aload_n (pc := 0) 0 dX7_row_0 rfl rfl <| o_iload_n (pc := 1) 1 dX7_row_1 rfl rfl <| ?_
  refine o_callVI (Y2 := YX7_isDrawer) (pc := 2) (av := [.int a]) (rest := []) dX7_row_2 k_1104 cm_X7_isDrawer (sM_isDrawer hF m a) (hF.1 _ _ rfl) rfl rfl (Nat.le_of_ble_eq_true rfl) (Nat.le_of_ble_eq_true rfl) fun r1 => ?_
  refine o_if_eq (pc := 5) (tgt := 18) dX7_row_5 rfl (fun h2 => ?_) (fun h2 => ?_)
  · refine o_iconst (pc := 18) dX7_row_18 lc_m1 <| ?_
    exact o_iret (pc := 19) dX7_row_19 rfl rfl
  · refine o_aload_n (pc := 8) 0 dX7_row_8 rfl rfl <| o_iload_n (pc := 9) 2 dX7_row_9 rfl rfl <| o_iconst (pc := 10) dX7_row_10 lc_0 <| o_iconst (pc := 11) dX7_row_11 lc_3 <| ?_
    refine o_callVI (Y2 := YX7_in) (pc := 12) (av := [.int b, .int 0, .int 3]) (rest := []) dX7_row_12 k_1096 cm_X7_in (sM_in hF r1.2 b 0 3) (hF.1 _ _ rfl) rfl rfl (Nat.le_of_ble_eq_true rfl) (Nat.le_of_ble_eq_true rfl) fun r3 => ?_
    refine o_if_ne (pc := 15) (tgt := 20) dX7_row_15 rfl (fun h4 => ?_) (fun h4 => ?_)
    · refine o_iconst (pc := 18) dX7_row_18 lc_m1 <| ?_
      exact o_iret (pc := 19) dX7_row_19 rfl rfl
    · refine o_aload_n (pc := 20) 0 dX7_row_20 rfl rfl <| o_iload_n (pc := 21) 3 dX7_row_21 rfl rfl <| o_iconst (pc := 22) dX7_row_22 lc_0 <| o_bipush (pc := 23) dX7_row_23 lb_9 <| ?_
      refine o_callVI (Y2 := YX7_in) (pc := 25) (av := [.int c, .int 0, .int 9]) (rest := []) dX7_row_25 k_1096 cm_X7_in (sM_in hF r3.2 c 0 9) (hF.1 _ _ rfl) rfl rfl (Nat.le_of_ble_eq_true rfl) (Nat.le_of_ble_eq_true rfl) fun r5 => ?_
      refine o_if_ne (pc := 28) (tgt := 34) dX7_row_28 rfl (fun h6 => ?_) (fun h6 => ?_)
      · refine o_bipush (pc := 31) dX7_row_31 lb_m2 <| ?_
        exact o_iret (pc := 33) dX7_row_33 rfl rfl
      · refine o_aload_n (pc := 34) 0 dX7_row_34 rfl rfl <| o_getRc (pc := 35) (a := 62) (ci := 7) (j := 5) (nn := 0) dX7_row_35 (hF.1 _ _ rfl) rfl (Nat.le_of_ble_eq_true rfl) k_888 rfl (hF.2 _ _ _ rfl) <| o_iload_n (pc := 38) 1 dX7_row_38 rfl rfl <| ?_
        refine S_ck fun h7 => ?_
        refine o_iald (pc := 39) (nn := 6) dX7_row_39 (hF.1 _ _ rfl) (ck_in h7) <| o_bipush (pc := 40) dX7_row_40 lb_6 <| ?_
        refine o_icmp_eq (pc := 42) (tgt := 48) dX7_row_42 rfl (fun h8 => ?_) (fun h8 => ?_)
        · refine o_aload_n (pc := 48) 0 dX7_row_48 rfl rfl <| o_getRc (pc := 49) (a := 65) (ci := 7) (j := 8) (nn := 0) dX7_row_49 (hF.1 _ _ rfl) rfl (Nat.le_of_ble_eq_true rfl) k_891 rfl (hF.2 _ _ _ rfl) <| o_iconst (pc := 52) dX7_row_52 lc_4 <| o_iload_n (pc := 53) 1 dX7_row_53 rfl rfl <| o_imul (pc := 54) dX7_row_54 <| o_iload_n (pc := 55) 2 dX7_row_55 rfl rfl <| o_iadd (pc := 56) dX7_row_56 <| ?_
          refine S_ck fun h9 => ?_
          refine o_iald (pc := 57) (nn := 24) dX7_row_57 (hF.1 _ _ rfl) (ck_in h9) <| ?_
          refine o_lt fun x10 => ?_
          refine o_istore (pc := 58) (ls' := [(4, .int x10), (0, .ref 61), (1, .int a), (2, .int b), (3, .int c)]) dX7_row_58 (Nat.le_of_ble_eq_true rfl) rfl <| o_aload_n (pc := 60) 1 dX7_row_60 rfl rfl <| o_getRc (pc := 61) (a := 65) (ci := 7) (j := 8) (nn := 0) dX7_row_61 (hF.1 _ _ rfl) rfl (Nat.le_of_ble_eq_true rfl) k_891 rfl (hF.2 _ _ _ rfl) <| o_iconst (pc := 64) dX7_row_64 lc_4 <| o_iload_n (pc := 65) 2 dX7_row_65 rfl rfl <| o_imul (pc := 66) dX7_row_66 <| o_iload_n (pc := 67) 3 dX7_row_67 rfl rfl <| o_iadd (pc := 68) dX7_row_68 <| o_iload_n (pc := 69) 4 dX7_row_69 rfl rfl <| ?_
          refine S_ck fun h11 => ?_
          refine o_iast (pc := 70) (nn := 24) dX7_row_70 (hF.1 _ _ rfl) (ck_in h11) <| ?_
          refine o_lm fun m12 => ?_
          refine o_iload (pc := 71) 0 dX7_row_71 rfl <| ?_
          exact o_iret (pc := 73) dX7_row_73 rfl rfl
        · refine o_bipush (pc := 45) dX7_row_45 lb_m3 <| ?_
          exact o_iret (pc := 47) dX7_row_47 rfl rfl
def fM_place (m : MI) (a : Int32) (b : Int32) : Option (Int32 × MI) :=
  (fM_isDrawer m a).bind fun r1 =>
  if r1.1 = 0 then
    some (-1, r1.2)
  else
    (fM_in r1.2 b 0 ((r1.2.1 61 0) - 1)).bind fun r3 =>
    if r3.1 = 0 then
      some (-1, r3.2)
    else
      (fM_placeOf r3.2 a).bind fun r5 =>
      (fM_puts r5.2 a b).bind fun r6 =>
      (fM_layFist r6).bind fun r7 =>
      some (r5.1, r7)
theorem sM_place {sh : Sh} {R : RR} (hF : Fx sh R) (m : MI) (a : Int32) (b : Int32) : KS (eI sh R) false 5 0 0 YX7_place sh R m [.ref 61, .int a, .int b] (fM_place m a b) := by
  refine KS_of pn_X7 (fun _ => Nat.le_of_ble_eq_true rfl) ?_
  change S _ _ _ _ _ _ _ _ _ _ [(0, .ref 61), (1, .int a), (2, .int b)] [] _
  unfold fM_place
  refine o_aload_n (pc := 0) 0 dX7_place_0 rfl rfl <| o_iload_n (pc := 1) 1 dX7_place_1 rfl rfl <| ?_
  refine o_callVI (Y2 := YX7_isDrawer) (pc := 2) (av := [.int a]) (rest := []) dX7_place_2 k_1104 cm_X7_isDrawer (sM_isDrawer hF m a) (hF.1 _ _ rfl) rfl rfl (Nat.le_of_ble_eq_true rfl) (Nat.le_of_ble_eq_true rfl) fun r1 => ?_
  refine o_if_eq (pc := 5) (tgt := 23) dX7_place_5 rfl (fun h2 => ?_) (fun h2 => ?_)
  · refine o_iconst (pc := 23) dX7_place_23 lc_m1 <| ?_
    exact o_iret (pc := 24) dX7_place_24 rfl rfl
  · refine o_aload_n (pc := 8) 0 dX7_place_8 rfl rfl <| o_iload_n (pc := 9) 2 dX7_place_9 rfl rfl <| o_iconst (pc := 10) dX7_place_10 lc_0 <| o_aload_n (pc := 11) 0 dX7_place_11 rfl rfl <| o_getI (pc := 12) (ci := 7) (j := 0) (nn := 0) dX7_place_12 (hF.1 _ _ rfl) rfl (Nat.le_of_ble_eq_true rfl) k_883 rfl <| o_iconst (pc := 15) dX7_place_15 lc_1 <| o_isub (pc := 16) dX7_place_16 <| ?_
    refine o_callVI (Y2 := YX7_in) (pc := 17) (av := [.int b, .int 0, .int ((r1.2.1 61 0) - 1)]) (rest := []) dX7_place_17 k_1096 cm_X7_in (sM_in hF r1.2 b 0 ((r1.2.1 61 0) - 1)) (hF.1 _ _ rfl) rfl rfl (Nat.le_of_ble_eq_true rfl) (Nat.le_of_ble_eq_true rfl) fun r3 => ?_
    refine o_if_ne (pc := 20) (tgt := 25) dX7_place_20 rfl (fun h4 => ?_) (fun h4 => ?_)
    · refine o_iconst (pc := 23) dX7_place_23 lc_m1 <| ?_
      exact o_iret (pc := 24) dX7_place_24 rfl rfl
    · refine o_aload_n (pc := 25) 0 dX7_place_25 rfl rfl <| o_iload_n (pc := 26) 1 dX7_place_26 rfl rfl <| ?_
      refine o_callVI (Y2 := YX7_placeOf) (pc := 27) (av := [.int a]) (rest := []) dX7_place_27 k_1116 cm_X7_placeOf (sM_placeOf hF r3.2 a) (hF.1 _ _ rfl) rfl rfl (Nat.le_of_ble_eq_true rfl) (Nat.le_of_ble_eq_true rfl) fun r5 => ?_
      refine o_istore_n (pc := 30) (ls' := [(3, .int r5.1), (0, .ref 61), (1, .int a), (2, .int b)]) dX7_place_30 rfl (Nat.le_of_ble_eq_true rfl) rfl <| o_aload_n (pc := 31) 1 dX7_place_31 rfl rfl <| o_iload_n (pc := 32) 2 dX7_place_32 rfl rfl <| o_iload_n (pc := 33) 3 dX7_place_33 rfl rfl <| ?_
      refine o_callVV (Y2 := YX7_puts) (pc := 34) (av := [.int a, .int b]) (rest := []) dX7_place_34 k_1120 cm_X7_puts (sM_puts hF r5.2 a b) (hF.1 _ _ rfl) rfl rfl (Nat.le_of_ble_eq_true rfl) (Nat.le_of_ble_eq_true rfl) fun r6 => ?_
      refine o_aload_n (pc := 37) 1 dX7_place_37 rfl rfl <| ?_
      refine o_callVV (Y2 := YX7_layFist) (pc := 38) (av := []) (rest := []) dX7_place_38 k_859 cm_X7_layFist (sM_layFist hF r6 ) (hF.1 _ _ rfl) rfl rfl (Nat.le_of_ble_eq_true rfl) (Nat.le_of_ble_eq_true rfl) fun r7 => ?_
      refine o_iload_n (pc := 41) 0 dX7_place_41 rfl rfl <| ?_
      exact o_iret (pc := 42) dX7_place_42 rfl rfl
def fM_feed (m : MI) (a : Int32) : Option (Int32 × MI) :=
  (fM_in m a 0 127).bind fun r1 =>
  if r1.1 = 0 then
    some (-2, r1.2)
  else
    if r1.2.1 61 12 = 100 then
      some (-4, r1.2)
    else
      if ck (r1.2.1 61 12) 100 = true then
        lm (mI r1.2 67 (upd (r1.2.1 67) (r1.2.1 61 12).toNatClampNeg a)) fun m5 =>
        lm (mI m5 61 (upd (m5.1 61) 12 ((m5.1 61 12) + 1))) fun m6 =>
        some (m6.1 61 12, m6)
      else none
theorem sM_feed {sh : Sh} {R : RR} (hF : Fx sh R) (m : MI) (a : Int32) : KS (eI sh R) false 1 0 0 YX7_feed sh R m [.ref 61, .int a] (fM_feed m a) := by
  refine KS_of pn_X7 (fun _ => Nat.le_of_ble_eq_true rfl) ?_
  change S _ _ _ _ _ _ _ _ _ _ [(0, .ref 61), (1, .int a)] [] _
  unfold fM_feed
  refine o_aload_n (pc := 0) 0 dX7_feed_0 rfl rfl <| o_iload_n (pc := 1) 1 dX7_feed_1 rfl rfl <| o_iconst (pc := 2) dX7_feed_2 lc_0 <| o_bipush (pc := 3) dX7_feed_3 lb_127 <| ?_
  refine o_callVI (Y2 := YX7_in) (pc := 5) (av := [.int a, .int 0, .int 127]) (rest := []) dX7_feed_5 k_1096 cm_X7_in (sM_in hF m a 0 127) (hF.1 _ _ rfl) rfl rfl (Nat.le_of_ble_eq_true rfl) (Nat.le_of_ble_eq_true rfl) fun r1 => ?_
  refine o_if_ne (pc := 8) (tgt := 14) dX7_feed_8 rfl (fun h2 => ?_) (fun h2 => ?_)
  · refine o_bipush (pc := 11) dX7_feed_11 lb_m2 <| ?_
    exact o_iret (pc := 13) dX7_feed_13 rfl rfl
  · refine o_aload_n (pc := 14) 0 dX7_feed_14 rfl rfl <| o_getI (pc := 15) (ci := 7) (j := 12) (nn := 0) dX7_feed_15 (hF.1 _ _ rfl) rfl (Nat.le_of_ble_eq_true rfl) k_895 rfl <| o_bipush (pc := 18) dX7_feed_18 lb_100 <| ?_
    refine o_icmp_ne (pc := 20) (tgt := 26) dX7_feed_20 rfl (fun h3 => ?_) (fun h3 => ?_)
    · refine o_bipush (pc := 23) dX7_feed_23 lb_m4 <| ?_
      exact o_iret (pc := 25) dX7_feed_25 rfl rfl
    · refine o_aload_n (pc := 26) 0 dX7_feed_26 rfl rfl <| o_getRc (pc := 27) (a := 67) (ci := 7) (j := 15) (nn := 0) dX7_feed_27 (hF.1 _ _ rfl) rfl (Nat.le_of_ble_eq_true rfl) k_898 rfl (hF.2 _ _ _ rfl) <| o_aload_n (pc := 30) 0 dX7_feed_30 rfl rfl <| o_getI (pc := 31) (ci := 7) (j := 12) (nn := 0) dX7_feed_31 (hF.1 _ _ rfl) rfl (Nat.le_of_ble_eq_true rfl) k_895 rfl <| o_iload_n (pc := 34) 1 dX7_feed_34 rfl rfl <| ?_
      refine S_ck fun h4 => ?_
      refine o_iast (pc := 35) (nn := 100) dX7_feed_35 (hF.1 _ _ rfl) (ck_in h4) <| ?_
      refine o_lm fun m5 => ?_
      refine o_aload_n (pc := 36) 0 dX7_feed_36 rfl rfl <| o_dup (pc := 37) dX7_feed_37 rfl <| o_getI (pc := 38) (ci := 7) (j := 12) (nn := 0) dX7_feed_38 (hF.1 _ _ rfl) rfl (Nat.le_of_ble_eq_true rfl) k_895 rfl <| o_iconst (pc := 41) dX7_feed_41 lc_1 <| o_iadd (pc := 42) dX7_feed_42 <| o_putI (pc := 43) (ci := 7) (j := 12) (nn := 0) dX7_feed_43 (hF.1 _ _ rfl) rfl (Nat.le_of_ble_eq_true rfl) k_895 rfl rfl rfl rfl rfl <| ?_
      refine o_lm fun m6 => ?_
      refine o_aload_n (pc := 46) 0 dX7_feed_46 rfl rfl <| o_getI (pc := 47) (ci := 7) (j := 12) (nn := 0) dX7_feed_47 (hF.1 _ _ rfl) rfl (Nat.le_of_ble_eq_true rfl) k_895 rfl <| ?_
      exact o_iret (pc := 50) dX7_feed_50 rfl rfl
def fM_next (m : MI) : Option (Int32 × MI) :=
  if m.1 61 12 ≤ m.1 61 13 then
    some (-1, m)
  else
    if ck (m.1 61 13) 100 = true then
      some (m.1 67 (m.1 61 13).toNatClampNeg, m)
    else none
theorem sM_next {sh : Sh} {R : RR} (hF : Fx sh R) (m : MI) : KS (eI sh R) false 0 0 0 YX7_next sh R m [.ref 61] (fM_next m ) := by
  refine KS_of pn_X7 (fun _ => Nat.le_of_ble_eq_true rfl) ?_
  change S _ _ _ _ _ _ _ _ _ _ [(0, .ref 61)] [] _
  unfold fM_next
  refine o_aload_n (pc := 0) 0 dX7_next_0 rfl rfl <| o_getI (pc := 1) (ci := 7) (j := 13) (nn := 0) dX7_next_1 (hF.1 _ _ rfl) rfl (Nat.le_of_ble_eq_true rfl) k_896 rfl <| o_aload_n (pc := 4) 0 dX7_next_4 rfl rfl <| o_getI (pc := 5) (ci := 7) (j := 12) (nn := 0) dX7_next_5 (hF.1 _ _ rfl) rfl (Nat.le_of_ble_eq_true rfl) k_895 rfl <| ?_
  refine o_icmp_ge (pc := 8) (tgt := 23) dX7_next_8 rfl (fun h1 => ?_) (fun h1 => ?_)
  · refine o_iconst (pc := 23) dX7_next_23 lc_m1 <| ?_
    exact o_iret (pc := 24) dX7_next_24 rfl rfl
  · refine o_aload_n (pc := 11) 0 dX7_next_11 rfl rfl <| o_getRc (pc := 12) (a := 67) (ci := 7) (j := 15) (nn := 0) dX7_next_12 (hF.1 _ _ rfl) rfl (Nat.le_of_ble_eq_true rfl) k_898 rfl (hF.2 _ _ _ rfl) <| o_aload_n (pc := 15) 0 dX7_next_15 rfl rfl <| o_getI (pc := 16) (ci := 7) (j := 13) (nn := 0) dX7_next_16 (hF.1 _ _ rfl) rfl (Nat.le_of_ble_eq_true rfl) k_896 rfl <| ?_
    refine S_ck fun h2 => ?_
    refine o_iald (pc := 19) (nn := 100) dX7_next_19 (hF.1 _ _ rfl) (ck_in h2) <| o_goto (pc := 20) (tgt := 24) dX7_next_20 rfl <| ?_
    exact o_iret (pc := 24) dX7_next_24 rfl rfl
def fM_second (m : MI) : Option (Int32 × MI) :=
  if m.1 61 12 ≤ (m.1 61 13) + 1 then
    some (-1, m)
  else
    if ck ((m.1 61 13) + 1) 100 = true then
      some (m.1 67 ((m.1 61 13) + 1).toNatClampNeg, m)
    else none
theorem sM_second {sh : Sh} {R : RR} (hF : Fx sh R) (m : MI) : KS (eI sh R) false 0 0 0 YX7_second sh R m [.ref 61] (fM_second m ) := by
  refine KS_of pn_X7 (fun _ => Nat.le_of_ble_eq_true rfl) ?_
  change S _ _ _ _ _ _ _ _ _ _ [(0, .ref 61)] [] _
  unfold fM_second
  refine o_aload_n (pc := 0) 0 dX7_second_0 rfl rfl <| o_getI (pc := 1) (ci := 7) (j := 13) (nn := 0) dX7_second_1 (hF.1 _ _ rfl) rfl (Nat.le_of_ble_eq_true rfl) k_896 rfl <| o_iconst (pc := 4) dX7_second_4 lc_1 <| o_iadd (pc := 5) dX7_second_5 <| o_aload_n (pc := 6) 0 dX7_second_6 rfl rfl <| o_getI (pc := 7) (ci := 7) (j := 12) (nn := 0) dX7_second_7 (hF.1 _ _ rfl) rfl (Nat.le_of_ble_eq_true rfl) k_895 rfl <| ?_
  refine o_icmp_ge (pc := 10) (tgt := 27) dX7_second_10 rfl (fun h1 => ?_) (fun h1 => ?_)
  · refine o_iconst (pc := 27) dX7_second_27 lc_m1 <| ?_
    exact o_iret (pc := 28) dX7_second_28 rfl rfl
  · refine o_aload_n (pc := 13) 0 dX7_second_13 rfl rfl <| o_getRc (pc := 14) (a := 67) (ci := 7) (j := 15) (nn := 0) dX7_second_14 (hF.1 _ _ rfl) rfl (Nat.le_of_ble_eq_true rfl) k_898 rfl (hF.2 _ _ _ rfl) <| o_aload_n (pc := 17) 0 dX7_second_17 rfl rfl <| o_getI (pc := 18) (ci := 7) (j := 13) (nn := 0) dX7_second_18 (hF.1 _ _ rfl) rfl (Nat.le_of_ble_eq_true rfl) k_896 rfl <| o_iconst (pc := 21) dX7_second_21 lc_1 <| o_iadd (pc := 22) dX7_second_22 <| ?_
    refine S_ck fun h2 => ?_
    refine o_iald (pc := 23) (nn := 100) dX7_second_23 (hF.1 _ _ rfl) (ck_in h2) <| o_goto (pc := 24) (tgt := 28) dX7_second_24 rfl <| ?_
    exact o_iret (pc := 28) dX7_second_28 rfl rfl
def fM_takes (m : MI) (a : Int32) : Option (Int32 × MI) :=
  (fM_next m).bind fun r1 =>
  if r1.1 = a then
    lm (mI r1.2 61 (upd (r1.2.1 61) 13 ((r1.2.1 61 13) + 1))) fun m3 =>
    some (1, m3)
  else
    some (0, r1.2)
theorem sM_takes {sh : Sh} {R : RR} (hF : Fx sh R) (m : MI) (a : Int32) : KS (eI sh R) false 1 0 0 YX7_takes sh R m [.ref 61, .int a] (fM_takes m a) := by
  refine KS_of pn_X7 (fun _ => Nat.le_of_ble_eq_true rfl) ?_
  change S _ _ _ _ _ _ _ _ _ _ [(0, .ref 61), (1, .int a)] [] _
  unfold fM_takes
  refine o_aload_n (pc := 0) 0 dX7_takes_0 rfl rfl <| ?_
  refine o_callVI (Y2 := YX7_next) (pc := 1) (av := []) (rest := []) dX7_takes_1 k_1144 cm_X7_next (sM_next hF m ) (hF.1 _ _ rfl) rfl rfl (Nat.le_of_ble_eq_true rfl) (Nat.le_of_ble_eq_true rfl) fun r1 => ?_
  refine o_iload_n (pc := 4) 1 dX7_takes_4 rfl rfl <| ?_
  refine o_icmp_eq (pc := 5) (tgt := 10) dX7_takes_5 rfl (fun h2 => ?_) (fun h2 => ?_)
  · refine o_aload_n (pc := 10) 0 dX7_takes_10 rfl rfl <| o_dup (pc := 11) dX7_takes_11 rfl <| o_getI (pc := 12) (ci := 7) (j := 13) (nn := 0) dX7_takes_12 (hF.1 _ _ rfl) rfl (Nat.le_of_ble_eq_true rfl) k_896 rfl <| o_iconst (pc := 15) dX7_takes_15 lc_1 <| o_iadd (pc := 16) dX7_takes_16 <| o_putI (pc := 17) (ci := 7) (j := 13) (nn := 0) dX7_takes_17 (hF.1 _ _ rfl) rfl (Nat.le_of_ble_eq_true rfl) k_896 rfl rfl rfl rfl rfl <| ?_
    refine o_lm fun m3 => ?_
    refine o_iconst (pc := 20) dX7_takes_20 lc_1 <| ?_
    exact o_zret (pc := 21) dX7_takes_21 rfl rfl rfl
  · refine o_iconst (pc := 8) dX7_takes_8 lc_0 <| ?_
    exact o_zret (pc := 9) dX7_takes_9 rfl rfl rfl
def fM_takesWord_l2 (u1 : Int32) (u2 : Int32) (k0_0 : MI → Int32 → Option (Int32 × MI)) : Nat → MI → Int32 → Option (Int32 × MI)
  | 0, _, _ => none
  | n0 + 1, m, v3 =>
    if u2 ≤ v3 then
      k0_0 m v3
    else
      if ck (u1 + v3) 16 = true then
        (fM_takes m (m.1 75 (u1 + v3).toNatClampNeg)).bind fun r3 =>
        if r3.1 = 0 then
          some (0, r3.2)
        else
          lt (v3 + 1) fun x5 =>
          fM_takesWord_l2 u1 u2 k0_0 n0 r3.2 x5
      else none
theorem sM_takesWord_l2 {sh : Sh} {R : RR} (hF : Fx sh R) (u1 : Int32) (u2 : Int32) (k0_0 : MI → Int32 → Option (Int32 × MI)) (hk0_0 : ∀ (m : MI) (v3 : Int32) , S (eI sh R) false 2 0 0 YX7_takesWord sh R m 30 [(0, .ref 61), (1, .int u1), (2, .int u2), (3, .int v3)] [] (k0_0 m v3)) : ∀ (n : Nat) (m : MI) (v3 : Int32) , S (eI sh R) false 2 0 0 YX7_takesWord sh R m 2 [(0, .ref 61), (1, .int u1), (2, .int u2), (3, .int v3)] [] (fM_takesWord_l2 u1 u2 k0_0 n m v3) := by
  intro n
  induction n with
  | zero => intros; exact S_none
  | succ n0 ih0 =>
    intro m v3
    rw [fM_takesWord_l2]
    refine o_iload_n (pc := 2) 3 dX7_takesWord_2 rfl rfl <| o_iload_n (pc := 3) 2 dX7_takesWord_3 rfl rfl <| ?_
    refine o_icmp_ge (pc := 4) (tgt := 30) dX7_takesWord_4 rfl (fun h1 => ?_) (fun h1 => ?_)
    · exact hk0_0 m v3
    · refine o_aload_n (pc := 7) 0 dX7_takesWord_7 rfl rfl <| o_aload_n (pc := 8) 0 dX7_takesWord_8 rfl rfl <| o_getRc (pc := 9) (a := 75) (ci := 7) (j := 26) (nn := 0) dX7_takesWord_9 (hF.1 _ _ rfl) rfl (Nat.le_of_ble_eq_true rfl) k_909 rfl (hF.2 _ _ _ rfl) <| o_iload_n (pc := 12) 1 dX7_takesWord_12 rfl rfl <| o_iload_n (pc := 13) 3 dX7_takesWord_13 rfl rfl <| o_iadd (pc := 14) dX7_takesWord_14 <| ?_
      refine S_ck fun h2 => ?_
      refine o_iald (pc := 15) (nn := 16) dX7_takesWord_15 (hF.1 _ _ rfl) (ck_in h2) <| ?_
      refine o_callVI (Y2 := YX7_takes) (pc := 16) (av := [.int (m.1 75 (u1 + v3).toNatClampNeg)]) (rest := []) dX7_takesWord_16 k_1152 cm_X7_takes (sM_takes hF m (m.1 75 (u1 + v3).toNatClampNeg)) (hF.1 _ _ rfl) rfl rfl (Nat.le_of_ble_eq_true rfl) (Nat.le_of_ble_eq_true rfl) fun r3 => ?_
      refine o_if_ne (pc := 19) (tgt := 24) dX7_takesWord_19 rfl (fun h4 => ?_) (fun h4 => ?_)
      · refine o_iconst (pc := 22) dX7_takesWord_22 lc_0 <| ?_
        exact o_zret (pc := 23) dX7_takesWord_23 rfl rfl rfl
      · refine o_iinc (pc := 24) 3 (v := v3 + 1) (ls' := [(3, .int (v3 + 1)), (0, .ref 61), (1, .int u1), (2, .int u2)]) dX7_takesWord_24 rfl rfl (Nat.le_of_ble_eq_true rfl) rfl <| ?_
        refine o_ltL (ls := fun x5 => [(3, .int x5), (0, .ref 61), (1, .int u1), (2, .int u2)]) fun x5 => ?_
        refine o_goto (pc := 27) (tgt := 2) dX7_takesWord_27 rfl <| ?_
        refine o_sub [1, 2, 3, 0] (ls' := [(0, .ref 61), (1, .int u1), (2, .int u2), (3, .int x5)]) rfl ?_
        exact ih0 r3.2 x5
def fM_takesWord (m : MI) (a : Int32) (b : Int32) : Option (Int32 × MI) :=
  fM_takesWord_l2 a b
    (fun m2 z1 =>
      (fM_takes m2 32).bind fun r3 =>
      if zb r3.1 = true then some (r3.1, r3.2) else none
      )
    1000 m 0
theorem sM_takesWord {sh : Sh} {R : RR} (hF : Fx sh R) (m : MI) (a : Int32) (b : Int32) : KS (eI sh R) false 2 0 0 YX7_takesWord sh R m [.ref 61, .int a, .int b] (fM_takesWord m a b) := by
  refine KS_of pn_X7 (fun _ => Nat.le_of_ble_eq_true rfl) ?_
  change S _ _ _ _ _ _ _ _ _ _ [(0, .ref 61), (1, .int a), (2, .int b)] [] _
  unfold fM_takesWord
  refine o_iconst (pc := 0) dX7_takesWord_0 lc_0 <| o_istore_n (pc := 1) (ls' := [(3, .int 0), (0, .ref 61), (1, .int a), (2, .int b)]) dX7_takesWord_1 rfl (Nat.le_of_ble_eq_true rfl) rfl <| ?_
  refine o_sub [1, 2, 3, 0] (ls' := [(0, .ref 61), (1, .int a), (2, .int b), (3, .int 0)]) rfl ?_
  refine sM_takesWord_l2 hF a b _ ?_ 1000 m 0
  · intro m2 z1
    refine o_aload_n (pc := 30) 0 dX7_takesWord_30 rfl rfl <| o_bipush (pc := 31) dX7_takesWord_31 lb_32 <| ?_
    refine o_callVI (Y2 := YX7_takes) (pc := 33) (av := [.int 32]) (rest := []) dX7_takesWord_33 k_1152 cm_X7_takes (sM_takes hF m2 32) (hF.1 _ _ rfl) rfl rfl (Nat.le_of_ble_eq_true rfl) (Nat.le_of_ble_eq_true rfl) fun r3 => ?_
    refine S_ck fun h4 => ?_
    exact o_zret (pc := 36) dX7_takesWord_36 rfl (zb_ok h4) rfl
def fM_isDigit (m : MI) : Option (Int32 × MI) :=
  (fM_next m).bind fun r1 =>
  (fM_in r1.2 r1.1 48 57).bind fun r2 =>
  if zb r2.1 = true then some (r2.1, r2.2) else none
theorem sM_isDigit {sh : Sh} {R : RR} (hF : Fx sh R) (m : MI) : KS (eI sh R) false 1 0 0 YX7_isDigit sh R m [.ref 61] (fM_isDigit m ) := by
  refine KS_of pn_X7 (fun _ => Nat.le_of_ble_eq_true rfl) ?_
  change S _ _ _ _ _ _ _ _ _ _ [(0, .ref 61)] [] _
  unfold fM_isDigit
  refine o_aload_n (pc := 0) 0 dX7_isDigit_0 rfl rfl <| o_aload_n (pc := 1) 0 dX7_isDigit_1 rfl rfl <| ?_
  refine o_callVI (Y2 := YX7_next) (pc := 2) (av := []) (rest := [.ref 61]) dX7_isDigit_2 k_1144 cm_X7_next (sM_next hF m ) (hF.1 _ _ rfl) rfl rfl (Nat.le_of_ble_eq_true rfl) (Nat.le_of_ble_eq_true rfl) fun r1 => ?_
  refine o_bipush (pc := 5) dX7_isDigit_5 lb_48 <| o_bipush (pc := 7) dX7_isDigit_7 lb_57 <| ?_
  refine o_callVI (Y2 := YX7_in) (pc := 9) (av := [.int r1.1, .int 48, .int 57]) (rest := []) dX7_isDigit_9 k_1096 cm_X7_in (sM_in hF r1.2 r1.1 48 57) (hF.1 _ _ rfl) rfl rfl (Nat.le_of_ble_eq_true rfl) (Nat.le_of_ble_eq_true rfl) fun r2 => ?_
  refine S_ck fun h3 => ?_
  exact o_zret (pc := 12) dX7_isDigit_12 rfl (zb_ok h3) rfl
def fM_takesNumber_l16 (k0_0 : MI → Int32 → Option (Int32 × MI)) : Nat → MI → Int32 → Option (Int32 × MI)
  | 0, _, _ => none
  | n0 + 1, m, v1 =>
    if 2 ≤ v1 then
      k0_0 m v1
    else
      (fM_isDigit m).bind fun r2 =>
      if r2.1 = 0 then
        k0_0 r2.2 v1
      else
        (fM_next r2.2).bind fun r4 =>
        lm (mI r4.2 61 (upd (r4.2.1 61) 14 ((((10 : Int32) * (r2.2.1 61 14)) + r4.1) - 48))) fun m5 =>
        lm (mI m5 61 (upd (m5.1 61) 13 ((m5.1 61 13) + 1))) fun m6 =>
        lt (v1 + 1) fun x7 =>
        fM_takesNumber_l16 k0_0 n0 m6 x7
theorem sM_takesNumber_l16 {sh : Sh} {R : RR} (hF : Fx sh R) (k0_0 : MI → Int32 → Option (Int32 × MI)) (hk0_0 : ∀ (m : MI) (v1 : Int32) , S (eI sh R) false 2 0 0 YX7_takesNumber sh R m 63 [(0, .ref 61), (1, .int v1)] [] (k0_0 m v1)) : ∀ (n : Nat) (m : MI) (v1 : Int32) , S (eI sh R) false 2 0 0 YX7_takesNumber sh R m 16 [(0, .ref 61), (1, .int v1)] [] (fM_takesNumber_l16 k0_0 n m v1) := by
  intro n
  induction n with
  | zero => intros; exact S_none
  | succ n0 ih0 =>
    intro m v1
    rw [fM_takesNumber_l16]
    refine o_iload_n (pc := 16) 1 dX7_takesNumber_16 rfl rfl <| o_iconst (pc := 17) dX7_takesNumber_17 lc_2 <| ?_
    refine o_icmp_ge (pc := 18) (tgt := 63) dX7_takesNumber_18 rfl (fun h1 => ?_) (fun h1 => ?_)
    · exact hk0_0 m v1
    · refine o_aload_n (pc := 21) 0 dX7_takesNumber_21 rfl rfl <| ?_
      refine o_callVI (Y2 := YX7_isDigit) (pc := 22) (av := []) (rest := []) dX7_takesNumber_22 k_1168 cm_X7_isDigit (sM_isDigit hF m ) (hF.1 _ _ rfl) rfl rfl (Nat.le_of_ble_eq_true rfl) (Nat.le_of_ble_eq_true rfl) fun r2 => ?_
      refine o_if_eq (pc := 25) (tgt := 63) dX7_takesNumber_25 rfl (fun h3 => ?_) (fun h3 => ?_)
      · exact hk0_0 r2.2 v1
      · refine o_aload_n (pc := 28) 0 dX7_takesNumber_28 rfl rfl <| o_bipush (pc := 29) dX7_takesNumber_29 lb_10 <| o_aload_n (pc := 31) 0 dX7_takesNumber_31 rfl rfl <| o_getI (pc := 32) (ci := 7) (j := 14) (nn := 0) dX7_takesNumber_32 (hF.1 _ _ rfl) rfl (Nat.le_of_ble_eq_true rfl) k_897 rfl <| o_imul (pc := 35) dX7_takesNumber_35 <| o_aload_n (pc := 36) 0 dX7_takesNumber_36 rfl rfl <| ?_
        refine o_callVI (Y2 := YX7_next) (pc := 37) (av := []) (rest := [.int ((10 : Int32) * (r2.2.1 61 14)), .ref 61]) dX7_takesNumber_37 k_1144 cm_X7_next (sM_next hF r2.2 ) (hF.1 _ _ rfl) rfl rfl (Nat.le_of_ble_eq_true rfl) (Nat.le_of_ble_eq_true rfl) fun r4 => ?_
        refine o_iadd (pc := 40) dX7_takesNumber_40 <| o_bipush (pc := 41) dX7_takesNumber_41 lb_48 <| o_isub (pc := 43) dX7_takesNumber_43 <| o_putI (pc := 44) (ci := 7) (j := 14) (nn := 0) dX7_takesNumber_44 (hF.1 _ _ rfl) rfl (Nat.le_of_ble_eq_true rfl) k_897 rfl rfl rfl rfl rfl <| ?_
        refine o_lm fun m5 => ?_
        refine o_aload_n (pc := 47) 0 dX7_takesNumber_47 rfl rfl <| o_dup (pc := 48) dX7_takesNumber_48 rfl <| o_getI (pc := 49) (ci := 7) (j := 13) (nn := 0) dX7_takesNumber_49 (hF.1 _ _ rfl) rfl (Nat.le_of_ble_eq_true rfl) k_896 rfl <| o_iconst (pc := 52) dX7_takesNumber_52 lc_1 <| o_iadd (pc := 53) dX7_takesNumber_53 <| o_putI (pc := 54) (ci := 7) (j := 13) (nn := 0) dX7_takesNumber_54 (hF.1 _ _ rfl) rfl (Nat.le_of_ble_eq_true rfl) k_896 rfl rfl rfl rfl rfl <| ?_
        refine o_lm fun m6 => ?_
        refine o_iinc (pc := 57) 1 (v := v1 + 1) (ls' := [(1, .int (v1 + 1)), (0, .ref 61)]) dX7_takesNumber_57 rfl rfl (Nat.le_of_ble_eq_true rfl) rfl <| ?_
        refine o_ltL (ls := fun x7 => [(1, .int x7), (0, .ref 61)]) fun x7 => ?_
        refine o_goto (pc := 60) (tgt := 16) dX7_takesNumber_60 rfl <| ?_
        refine o_sub [1, 0] (ls' := [(0, .ref 61), (1, .int x7)]) rfl ?_
        exact ih0 m6 x7
def fM_takesNumber (m : MI) : Option (Int32 × MI) :=
  (fM_isDigit m).bind fun r1 =>
  if r1.1 = 0 then
    some (0, r1.2)
  else
    lm (mI r1.2 61 (upd (r1.2.1 61) 14 0)) fun m3 =>
    fM_takesNumber_l16 
      (fun m5 z4 =>
        some (1, m5)
        )
      1000 m3 0
theorem sM_takesNumber {sh : Sh} {R : RR} (hF : Fx sh R) (m : MI) : KS (eI sh R) false 2 0 0 YX7_takesNumber sh R m [.ref 61] (fM_takesNumber m ) := by
  refine KS_of pn_X7 (fun _ => Nat.le_of_ble_eq_true rfl) ?_
  change S _ _ _ _ _ _ _ _ _ _ [(0, .ref 61)] [] _
  unfold fM_takesNumber
  refine o_aload_n (pc := 0) 0 dX7_takesNumber_0 rfl rfl <| ?_
  refine o_callVI (Y2 := YX7_isDigit) (pc := 1) (av := []) (rest := []) dX7_takesNumber_1 k_1168 cm_X7_isDigit (sM_isDigit hF m ) (hF.1 _ _ rfl) rfl rfl (Nat.le_of_ble_eq_true rfl) (Nat.le_of_ble_eq_true rfl) fun r1 => ?_
  refine o_if_ne (pc := 4) (tgt := 9) dX7_takesNumber_4 rfl (fun h2 => ?_) (fun h2 => ?_)
  · refine o_iconst (pc := 7) dX7_takesNumber_7 lc_0 <| ?_
    exact o_zret (pc := 8) dX7_takesNumber_8 rfl rfl rfl
  · refine o_aload_n (pc := 9) 0 dX7_takesNumber_9 rfl rfl <| o_iconst (pc := 10) dX7_takesNumber_10 lc_0 <| o_putI (pc := 11) (ci := 7) (j := 14) (nn := 0) dX7_takesNumber_11 (hF.1 _ _ rfl) rfl (Nat.le_of_ble_eq_true rfl) k_897 rfl rfl rfl rfl rfl <| ?_
    refine o_lm fun m3 => ?_
    refine o_iconst (pc := 14) dX7_takesNumber_14 lc_0 <| o_istore_n (pc := 15) (ls' := [(1, .int 0), (0, .ref 61)]) dX7_takesNumber_15 rfl (Nat.le_of_ble_eq_true rfl) rfl <| ?_
    refine o_sub [1, 0] (ls' := [(0, .ref 61), (1, .int 0)]) rfl ?_
    refine sM_takesNumber_l16 hF  _ ?_ 1000 m3 0
    · intro m5 z4
      refine o_iconst (pc := 63) dX7_takesNumber_63 lc_1 <| ?_
      exact o_zret (pc := 64) dX7_takesNumber_64 rfl rfl rfl
def fM_emits (m : MI) (a : Int32) : Option (MI) :=
  if ck (m.1 61 23) 600 = true then
    lm (mI m 73 (upd (m.1 73) (m.1 61 23).toNatClampNeg a)) fun m2 =>
    lm (mI m2 61 (upd (m2.1 61) 23 ((m2.1 61 23) + 1))) fun m3 =>
    some m3
  else none
theorem sM_emits {sh : Sh} {R : RR} (hF : Fx sh R) (m : MI) (a : Int32) : KS (eV sh R) false 0 0 0 YX7_emits sh R m [.ref 61, .int a] (fM_emits m a) := by
  refine KS_of pn_X7 (fun _ => Nat.le_of_ble_eq_true rfl) ?_
  change S _ _ _ _ _ _ _ _ _ _ [(0, .ref 61), (1, .int a)] [] _
  unfold fM_emits
  refine o_aload_n (pc := 0) 0 dX7_emits_0 rfl rfl <| o_getRc (pc := 1) (a := 73) (ci := 7) (j := 21) (nn := 0) dX7_emits_1 (hF.1 _ _ rfl) rfl (Nat.le_of_ble_eq_true rfl) k_904 rfl (hF.2 _ _ _ rfl) <| o_aload_n (pc := 4) 0 dX7_emits_4 rfl rfl <| o_getI (pc := 5) (ci := 7) (j := 23) (nn := 0) dX7_emits_5 (hF.1 _ _ rfl) rfl (Nat.le_of_ble_eq_true rfl) k_906 rfl <| o_iload_n (pc := 8) 1 dX7_emits_8 rfl rfl <| ?_
  refine S_ck fun h1 => ?_
  refine o_iast (pc := 9) (nn := 600) dX7_emits_9 (hF.1 _ _ rfl) (ck_in h1) <| ?_
  refine o_lm fun m2 => ?_
  refine o_aload_n (pc := 10) 0 dX7_emits_10 rfl rfl <| o_dup (pc := 11) dX7_emits_11 rfl <| o_getI (pc := 12) (ci := 7) (j := 23) (nn := 0) dX7_emits_12 (hF.1 _ _ rfl) rfl (Nat.le_of_ble_eq_true rfl) k_906 rfl <| o_iconst (pc := 15) dX7_emits_15 lc_1 <| o_iadd (pc := 16) dX7_emits_16 <| o_putI (pc := 17) (ci := 7) (j := 23) (nn := 0) dX7_emits_17 (hF.1 _ _ rfl) rfl (Nat.le_of_ble_eq_true rfl) k_906 rfl rfl rfl rfl rfl <| ?_
  refine o_lm fun m3 => ?_
  exact o_vret (pc := 20) dX7_emits_20 rfl rfl
def fM_whole_l0 (k0_0 : MI → Option (MI)) : Nat → MI → Option (MI)
  | 0, _ => none
  | n0 + 1, m =>
    if m.1 61 24 ≤ 0 then
      k0_0 m 
    else
      if ck ((m.1 61 24) - 1) 101 = true then
        if m.1 74 ((m.1 61 24) - 1).toNatClampNeg = 33 then
          (fM_emits m (-33)).bind fun r4 =>
          lm (mI r4 61 (upd (r4.1 61) 24 ((r4.1 61 24) - 1))) fun m5 =>
          lm (mI m5 61 (upd (m5.1 61) 25 ((m5.1 61 25) - 1))) fun m6 =>
          fM_whole_l0 k0_0 n0 m6 
        else
          k0_0 m 
      else none
theorem sM_whole_l0 {sh : Sh} {R : RR} (hF : Fx sh R) (k0_0 : MI → Option (MI)) (hk0_0 : ∀ (m : MI) , S (eV sh R) false 1 0 0 YX7_whole sh R m 52 [(0, .ref 61)] [] (k0_0 m )) : ∀ (n : Nat) (m : MI) , S (eV sh R) false 1 0 0 YX7_whole sh R m 0 [(0, .ref 61)] [] (fM_whole_l0 k0_0 n m ) := by
  intro n
  induction n with
  | zero => intros; exact S_none
  | succ n0 ih0 =>
    intro m 
    rw [fM_whole_l0]
    refine o_aload_n (pc := 0) 0 dX7_whole_0 rfl rfl <| o_getI (pc := 1) (ci := 7) (j := 24) (nn := 0) dX7_whole_1 (hF.1 _ _ rfl) rfl (Nat.le_of_ble_eq_true rfl) k_907 rfl <| ?_
    refine o_if_le (pc := 4) (tgt := 52) dX7_whole_4 rfl (fun h1 => ?_) (fun h1 => ?_)
    · exact hk0_0 m 
    · refine o_aload_n (pc := 7) 0 dX7_whole_7 rfl rfl <| o_getRc (pc := 8) (a := 74) (ci := 7) (j := 22) (nn := 0) dX7_whole_8 (hF.1 _ _ rfl) rfl (Nat.le_of_ble_eq_true rfl) k_905 rfl (hF.2 _ _ _ rfl) <| o_aload_n (pc := 11) 0 dX7_whole_11 rfl rfl <| o_getI (pc := 12) (ci := 7) (j := 24) (nn := 0) dX7_whole_12 (hF.1 _ _ rfl) rfl (Nat.le_of_ble_eq_true rfl) k_907 rfl <| o_iconst (pc := 15) dX7_whole_15 lc_1 <| o_isub (pc := 16) dX7_whole_16 <| ?_
      refine S_ck fun h2 => ?_
      refine o_iald (pc := 17) (nn := 101) dX7_whole_17 (hF.1 _ _ rfl) (ck_in h2) <| o_bipush (pc := 18) dX7_whole_18 lb_33 <| ?_
      refine o_icmp_ne (pc := 20) (tgt := 52) dX7_whole_20 rfl (fun h3 => ?_) (fun h3 => ?_)
      · refine o_aload_n (pc := 23) 0 dX7_whole_23 rfl rfl <| o_bipush (pc := 24) dX7_whole_24 lb_m33 <| ?_
        refine o_callVV (Y2 := YX7_emits) (pc := 26) (av := [.int (-33)]) (rest := []) dX7_whole_26 k_1184 cm_X7_emits (sM_emits hF m (-33)) (hF.1 _ _ rfl) rfl rfl (Nat.le_of_ble_eq_true rfl) (Nat.le_of_ble_eq_true rfl) fun r4 => ?_
        refine o_aload_n (pc := 29) 0 dX7_whole_29 rfl rfl <| o_dup (pc := 30) dX7_whole_30 rfl <| o_getI (pc := 31) (ci := 7) (j := 24) (nn := 0) dX7_whole_31 (hF.1 _ _ rfl) rfl (Nat.le_of_ble_eq_true rfl) k_907 rfl <| o_iconst (pc := 34) dX7_whole_34 lc_1 <| o_isub (pc := 35) dX7_whole_35 <| o_putI (pc := 36) (ci := 7) (j := 24) (nn := 0) dX7_whole_36 (hF.1 _ _ rfl) rfl (Nat.le_of_ble_eq_true rfl) k_907 rfl rfl rfl rfl rfl <| ?_
        refine o_lm fun m5 => ?_
        refine o_aload_n (pc := 39) 0 dX7_whole_39 rfl rfl <| o_dup (pc := 40) dX7_whole_40 rfl <| o_getI (pc := 41) (ci := 7) (j := 25) (nn := 0) dX7_whole_41 (hF.1 _ _ rfl) rfl (Nat.le_of_ble_eq_true rfl) k_908 rfl <| o_iconst (pc := 44) dX7_whole_44 lc_1 <| o_isub (pc := 45) dX7_whole_45 <| o_putI (pc := 46) (ci := 7) (j := 25) (nn := 0) dX7_whole_46 (hF.1 _ _ rfl) rfl (Nat.le_of_ble_eq_true rfl) k_908 rfl rfl rfl rfl rfl <| ?_
        refine o_lm fun m6 => ?_
        refine o_goto (pc := 49) (tgt := 0) dX7_whole_49 rfl <| ?_
        exact ih0 m6 
      · exact hk0_0 m 
def fM_whole (m : MI) : Option (MI) :=
  fM_whole_l0 
    (fun m1  =>
      some m1
      )
    1000 m 
theorem sM_whole {sh : Sh} {R : RR} (hF : Fx sh R) (m : MI) : KS (eV sh R) false 1 0 0 YX7_whole sh R m [.ref 61] (fM_whole m ) := by
  refine KS_of pn_X7 (fun _ => Nat.le_of_ble_eq_true rfl) ?_
  change S _ _ _ _ _ _ _ _ _ _ [(0, .ref 61)] [] _
  unfold fM_whole
  refine sM_whole_l0 hF  _ ?_ 1000 m 
  · intro m1 
    exact o_vret (pc := 52) dX7_whole_52 rfl rfl
def fM_settle_l0 (u1 : Int32) (k0_0 : MI → Option (MI)) : Nat → MI → Option (MI)
  | 0, _ => none
  | n0 + 1, m =>
    if m.1 61 24 ≤ 0 then
      k0_0 m 
    else
      if ck ((m.1 61 24) - 1) 101 = true then
        if m.1 74 ((m.1 61 24) - 1).toNatClampNeg = 38 then
          lm (mI m 61 (upd (m.1 61) 24 ((m.1 61 24) - 1))) fun m4 =>
          if ck (m4.1 61 24) 101 = true then
            (fM_emits m4 (-(m4.1 74 (m4.1 61 24).toNatClampNeg))).bind fun r6 =>
            fM_settle_l0 u1 k0_0 n0 r6 
          else none
        else
          if ck ((m.1 61 24) - 1) 101 = true then
            if m.1 74 ((m.1 61 24) - 1).toNatClampNeg = 124 then
              if u1 = 38 then
                k0_0 m 
              else
                lm (mI m 61 (upd (m.1 61) 24 ((m.1 61 24) - 1))) fun m10 =>
                if ck (m10.1 61 24) 101 = true then
                  (fM_emits m10 (-(m10.1 74 (m10.1 61 24).toNatClampNeg))).bind fun r12 =>
                  fM_settle_l0 u1 k0_0 n0 r12 
                else none
            else
              k0_0 m 
          else none
      else none
theorem sM_settle_l0 {sh : Sh} {R : RR} (hF : Fx sh R) (u1 : Int32) (k0_0 : MI → Option (MI)) (hk0_0 : ∀ (m : MI) , S (eV sh R) false 1 0 0 YX7_settle sh R m 72 [(0, .ref 61), (1, .int u1)] [] (k0_0 m )) : ∀ (n : Nat) (m : MI) , S (eV sh R) false 1 0 0 YX7_settle sh R m 0 [(0, .ref 61), (1, .int u1)] [] (fM_settle_l0 u1 k0_0 n m ) := by
  intro n
  induction n with
  | zero => intros; exact S_none
  | succ n0 ih0 =>
    intro m 
    rw [fM_settle_l0]
    refine o_aload_n (pc := 0) 0 dX7_settle_0 rfl rfl <| o_getI (pc := 1) (ci := 7) (j := 24) (nn := 0) dX7_settle_1 (hF.1 _ _ rfl) rfl (Nat.le_of_ble_eq_true rfl) k_907 rfl <| ?_
    refine o_if_le (pc := 4) (tgt := 72) dX7_settle_4 rfl (fun h1 => ?_) (fun h1 => ?_)
    · exact hk0_0 m 
    · refine o_aload_n (pc := 7) 0 dX7_settle_7 rfl rfl <| o_getRc (pc := 8) (a := 74) (ci := 7) (j := 22) (nn := 0) dX7_settle_8 (hF.1 _ _ rfl) rfl (Nat.le_of_ble_eq_true rfl) k_905 rfl (hF.2 _ _ _ rfl) <| o_aload_n (pc := 11) 0 dX7_settle_11 rfl rfl <| o_getI (pc := 12) (ci := 7) (j := 24) (nn := 0) dX7_settle_12 (hF.1 _ _ rfl) rfl (Nat.le_of_ble_eq_true rfl) k_907 rfl <| o_iconst (pc := 15) dX7_settle_15 lc_1 <| o_isub (pc := 16) dX7_settle_16 <| ?_
      refine S_ck fun h2 => ?_
      refine o_iald (pc := 17) (nn := 101) dX7_settle_17 (hF.1 _ _ rfl) (ck_in h2) <| o_bipush (pc := 18) dX7_settle_18 lb_38 <| ?_
      refine o_icmp_eq (pc := 20) (tgt := 45) dX7_settle_20 rfl (fun h3 => ?_) (fun h3 => ?_)
      · refine o_aload_n (pc := 45) 0 dX7_settle_45 rfl rfl <| o_dup (pc := 46) dX7_settle_46 rfl <| o_getI (pc := 47) (ci := 7) (j := 24) (nn := 0) dX7_settle_47 (hF.1 _ _ rfl) rfl (Nat.le_of_ble_eq_true rfl) k_907 rfl <| o_iconst (pc := 50) dX7_settle_50 lc_1 <| o_isub (pc := 51) dX7_settle_51 <| o_putI (pc := 52) (ci := 7) (j := 24) (nn := 0) dX7_settle_52 (hF.1 _ _ rfl) rfl (Nat.le_of_ble_eq_true rfl) k_907 rfl rfl rfl rfl rfl <| ?_
        refine o_lm fun m4 => ?_
        refine o_aload_n (pc := 55) 0 dX7_settle_55 rfl rfl <| o_aload_n (pc := 56) 0 dX7_settle_56 rfl rfl <| o_getRc (pc := 57) (a := 74) (ci := 7) (j := 22) (nn := 0) dX7_settle_57 (hF.1 _ _ rfl) rfl (Nat.le_of_ble_eq_true rfl) k_905 rfl (hF.2 _ _ _ rfl) <| o_aload_n (pc := 60) 0 dX7_settle_60 rfl rfl <| o_getI (pc := 61) (ci := 7) (j := 24) (nn := 0) dX7_settle_61 (hF.1 _ _ rfl) rfl (Nat.le_of_ble_eq_true rfl) k_907 rfl <| ?_
        refine S_ck fun h5 => ?_
        refine o_iald (pc := 64) (nn := 101) dX7_settle_64 (hF.1 _ _ rfl) (ck_in h5) <| o_ineg (pc := 65) dX7_settle_65 <| ?_
        refine o_callVV (Y2 := YX7_emits) (pc := 66) (av := [.int (-(m4.1 74 (m4.1 61 24).toNatClampNeg))]) (rest := []) dX7_settle_66 k_1184 cm_X7_emits (sM_emits hF m4 (-(m4.1 74 (m4.1 61 24).toNatClampNeg))) (hF.1 _ _ rfl) rfl rfl (Nat.le_of_ble_eq_true rfl) (Nat.le_of_ble_eq_true rfl) fun r6 => ?_
        refine o_goto (pc := 69) (tgt := 0) dX7_settle_69 rfl <| ?_
        exact ih0 r6 
      · refine o_aload_n (pc := 23) 0 dX7_settle_23 rfl rfl <| o_getRc (pc := 24) (a := 74) (ci := 7) (j := 22) (nn := 0) dX7_settle_24 (hF.1 _ _ rfl) rfl (Nat.le_of_ble_eq_true rfl) k_905 rfl (hF.2 _ _ _ rfl) <| o_aload_n (pc := 27) 0 dX7_settle_27 rfl rfl <| o_getI (pc := 28) (ci := 7) (j := 24) (nn := 0) dX7_settle_28 (hF.1 _ _ rfl) rfl (Nat.le_of_ble_eq_true rfl) k_907 rfl <| o_iconst (pc := 31) dX7_settle_31 lc_1 <| o_isub (pc := 32) dX7_settle_32 <| ?_
        refine S_ck fun h7 => ?_
        refine o_iald (pc := 33) (nn := 101) dX7_settle_33 (hF.1 _ _ rfl) (ck_in h7) <| o_bipush (pc := 34) dX7_settle_34 lb_124 <| ?_
        refine o_icmp_ne (pc := 36) (tgt := 72) dX7_settle_36 rfl (fun h8 => ?_) (fun h8 => ?_)
        · refine o_iload_n (pc := 39) 1 dX7_settle_39 rfl rfl <| o_bipush (pc := 40) dX7_settle_40 lb_38 <| ?_
          refine o_icmp_eq (pc := 42) (tgt := 72) dX7_settle_42 rfl (fun h9 => ?_) (fun h9 => ?_)
          · exact hk0_0 m 
          · refine o_aload_n (pc := 45) 0 dX7_settle_45 rfl rfl <| o_dup (pc := 46) dX7_settle_46 rfl <| o_getI (pc := 47) (ci := 7) (j := 24) (nn := 0) dX7_settle_47 (hF.1 _ _ rfl) rfl (Nat.le_of_ble_eq_true rfl) k_907 rfl <| o_iconst (pc := 50) dX7_settle_50 lc_1 <| o_isub (pc := 51) dX7_settle_51 <| o_putI (pc := 52) (ci := 7) (j := 24) (nn := 0) dX7_settle_52 (hF.1 _ _ rfl) rfl (Nat.le_of_ble_eq_true rfl) k_907 rfl rfl rfl rfl rfl <| ?_
            refine o_lm fun m10 => ?_
            refine o_aload_n (pc := 55) 0 dX7_settle_55 rfl rfl <| o_aload_n (pc := 56) 0 dX7_settle_56 rfl rfl <| o_getRc (pc := 57) (a := 74) (ci := 7) (j := 22) (nn := 0) dX7_settle_57 (hF.1 _ _ rfl) rfl (Nat.le_of_ble_eq_true rfl) k_905 rfl (hF.2 _ _ _ rfl) <| o_aload_n (pc := 60) 0 dX7_settle_60 rfl rfl <| o_getI (pc := 61) (ci := 7) (j := 24) (nn := 0) dX7_settle_61 (hF.1 _ _ rfl) rfl (Nat.le_of_ble_eq_true rfl) k_907 rfl <| ?_
            refine S_ck fun h11 => ?_
            refine o_iald (pc := 64) (nn := 101) dX7_settle_64 (hF.1 _ _ rfl) (ck_in h11) <| o_ineg (pc := 65) dX7_settle_65 <| ?_
            refine o_callVV (Y2 := YX7_emits) (pc := 66) (av := [.int (-(m10.1 74 (m10.1 61 24).toNatClampNeg))]) (rest := []) dX7_settle_66 k_1184 cm_X7_emits (sM_emits hF m10 (-(m10.1 74 (m10.1 61 24).toNatClampNeg))) (hF.1 _ _ rfl) rfl rfl (Nat.le_of_ble_eq_true rfl) (Nat.le_of_ble_eq_true rfl) fun r12 => ?_
            refine o_goto (pc := 69) (tgt := 0) dX7_settle_69 rfl <| ?_
            exact ih0 r12 
        · exact hk0_0 m 
def fM_settle (m : MI) (a : Int32) : Option (MI) :=
  fM_settle_l0 a
    (fun m1  =>
      some m1
      )
    1000 m 
theorem sM_settle {sh : Sh} {R : RR} (hF : Fx sh R) (m : MI) (a : Int32) : KS (eV sh R) false 1 0 0 YX7_settle sh R m [.ref 61, .int a] (fM_settle m a) := by
  refine KS_of pn_X7 (fun _ => Nat.le_of_ble_eq_true rfl) ?_
  change S _ _ _ _ _ _ _ _ _ _ [(0, .ref 61), (1, .int a)] [] _
  unfold fM_settle
  refine sM_settle_l0 hF a _ ?_ 1000 m 
  · intro m1 
    exact o_vret (pc := 72) dX7_settle_72 rfl rfl
