def fC_power_l5 (u0 : Int32) (u1 : Int32) (k0_0 : MI → Int64 → Int32 → Option (Int64 × MI)) : Nat → MI → Int64 → Int32 → Option (Int64 × MI)
  | 0, _, _, _ => none
  | n0 + 1, m, v2, v4 =>
    if u1 ≤ v4 then
      k0_0 m v2 v4
    else
      ltl (v2 * (u0.toInt64)) fun y2 =>
      lt (v4 + 1) fun x3 =>
      fC_power_l5 u0 u1 k0_0 n0 m y2 x3
theorem sC_power_l5 {sh : Sh} {R : RR} (hF : Fx sh R) (u0 : Int32) (u1 : Int32) (k0_0 : MI → Int64 → Int32 → Option (Int64 × MI)) (hk0_0 : ∀ (m : MI) (v2 : Int64) (v4 : Int32) , S (eL sh R) false 0 0 0 YX6_power sh R m 22 [(0, .int u0), (1, .int u1), (2, .long v2), (4, .int v4)] [] (k0_0 m v2 v4)) : ∀ (n : Nat) (m : MI) (v2 : Int64) (v4 : Int32) , S (eL sh R) false 0 0 0 YX6_power sh R m 5 [(0, .int u0), (1, .int u1), (2, .long v2), (4, .int v4)] [] (fC_power_l5 u0 u1 k0_0 n m v2 v4) := by
  intro n
  induction n with
  | zero => intros; exact S_none
  | succ n0 ih0 =>
    intro m v2 v4
    rw [fC_power_l5]
    refine o_iload (pc := 5) 3 dX6_power_5 rfl <| o_iload_n (pc := 7) 1 dX6_power_7 rfl rfl <| ?_
    refine o_icmp_ge (pc := 8) (tgt := 22) dX6_power_8 rfl (fun h1 => ?_) (fun h1 => ?_)
    · exact hk0_0 m v2 v4
    · refine o_lload_n (pc := 11) 2 dX6_power_11 rfl rfl <| o_iload_n (pc := 12) 0 dX6_power_12 rfl rfl <| o_i2l (pc := 13) dX6_power_13 <| o_lmul (pc := 14) dX6_power_14 <| ?_
      refine o_ltl fun y2 => ?_
      refine o_lstore_n (pc := 15) (ls' := [(2, .long y2), (0, .int u0), (1, .int u1), (4, .int v4)]) dX6_power_15 rfl (Nat.le_of_ble_eq_true rfl) rfl <| o_iinc (pc := 16) 3 (v := v4 + 1) (ls' := [(4, .int (v4 + 1)), (2, .long y2), (0, .int u0), (1, .int u1)]) dX6_power_16 rfl rfl (Nat.le_of_ble_eq_true rfl) rfl <| ?_
      refine o_ltL (ls := fun x3 => [(4, .int x3), (2, .long y2), (0, .int u0), (1, .int u1)]) fun x3 => ?_
      refine o_goto (pc := 19) (tgt := 5) dX6_power_19 rfl <| ?_
      refine o_sub [2, 3, 1, 0] (ls' := [(0, .int u0), (1, .int u1), (2, .long y2), (4, .int x3)]) rfl ?_
      exact ih0 m y2 x3
def fC_power (m : MI) (a : Int32) (b : Int32) : Option (Int64 × MI) :=
  fC_power_l5 a b
    (fun m3 z1 z2 =>
      some (z1, m3)
      )
    1000 m 1 0
theorem sC_power {sh : Sh} {R : RR} (hF : Fx sh R) (m : MI) (a : Int32) (b : Int32) : KS (eL sh R) false 0 0 0 YX6_power sh R m [.int a, .int b] (fC_power m a b) := by
  refine KS_of pn_X6 (fun _ => Nat.le_of_ble_eq_true rfl) ?_
  change S _ _ _ _ _ _ _ _ _ _ [(0, .int a), (1, .int b)] [] _
  unfold fC_power
  refine o_lconst (pc := 0) (x := 1) dX6_power_0 rfl <| o_lstore_n (pc := 1) (ls' := [(2, .long 1), (0, .int a), (1, .int b)]) dX6_power_1 rfl (Nat.le_of_ble_eq_true rfl) rfl <| o_iconst (pc := 2) dX6_power_2 lc_0 <| o_istore (pc := 3) (ls' := [(4, .int 0), (2, .long 1), (0, .int a), (1, .int b)]) dX6_power_3 (Nat.le_of_ble_eq_true rfl) rfl <| ?_
  refine o_sub [2, 3, 1, 0] (ls' := [(0, .int a), (1, .int b), (2, .long 1), (4, .int 0)]) rfl ?_
  refine sC_power_l5 hF a b _ ?_ 1000 m 1 0
  · intro m3 z1 z2
    refine o_lload_n (pc := 22) 2 dX6_power_22 rfl rfl <| ?_
    exact o_lret (pc := 23) dX6_power_23 rfl rfl
def fC_throwsFor_l2 (u0 : Int32) (u1 : Int32) (k0_0 : MI → Int32 → Option (Int32 × MI)) : Nat → MI → Int32 → Option (Int32 × MI)
  | 0, _, _ => none
  | n0 + 1, m, v2 =>
    if 16 ≤ v2 then
      k0_0 m v2
    else
      (fC_power m u0 v2).bind fun r2 =>
      if 0 ≤ lg_cmp r2.1 (u1.toInt64) then
        k0_0 r2.2 v2
      else
        lt (v2 + 1) fun x4 =>
        fC_throwsFor_l2 u0 u1 k0_0 n0 r2.2 x4
theorem sC_throwsFor_l2 {sh : Sh} {R : RR} (hF : Fx sh R) (u0 : Int32) (u1 : Int32) (k0_0 : MI → Int32 → Option (Int32 × MI)) (hk0_0 : ∀ (m : MI) (v2 : Int32) , S (eI sh R) false 1 0 0 YX6_throwsFor sh R m 25 [(0, .int u0), (1, .int u1), (2, .int v2)] [] (k0_0 m v2)) : ∀ (n : Nat) (m : MI) (v2 : Int32) , S (eI sh R) false 1 0 0 YX6_throwsFor sh R m 2 [(0, .int u0), (1, .int u1), (2, .int v2)] [] (fC_throwsFor_l2 u0 u1 k0_0 n m v2) := by
  intro n
  induction n with
  | zero => intros; exact S_none
  | succ n0 ih0 =>
    intro m v2
    rw [fC_throwsFor_l2]
    refine o_iload_n (pc := 2) 2 dX6_throwsFor_2 rfl rfl <| o_bipush (pc := 3) dX6_throwsFor_3 lb_16 <| ?_
    refine o_icmp_ge (pc := 5) (tgt := 25) dX6_throwsFor_5 rfl (fun h1 => ?_) (fun h1 => ?_)
    · exact hk0_0 m v2
    · refine o_iload_n (pc := 8) 0 dX6_throwsFor_8 rfl rfl <| o_iload_n (pc := 9) 2 dX6_throwsFor_9 rfl rfl <| ?_
      refine o_callSL (Y2 := YX6_power) (pc := 10) (av := [.int u0, .int v2]) (rest := []) dX6_throwsFor_10 k_694 cs_X6_power (sC_power hF m u0 v2) rfl rfl (Nat.le_of_ble_eq_true rfl) (Nat.le_of_ble_eq_true rfl) fun r2 => ?_
      refine o_iload_n (pc := 13) 1 dX6_throwsFor_13 rfl rfl <| o_i2l (pc := 14) dX6_throwsFor_14 <| o_lcmp (pc := 15) dX6_throwsFor_15 <| ?_
      refine o_if_ge (pc := 16) (tgt := 25) dX6_throwsFor_16 rfl (fun h3 => ?_) (fun h3 => ?_)
      · exact hk0_0 r2.2 v2
      · refine o_iinc (pc := 19) 2 (v := v2 + 1) (ls' := [(2, .int (v2 + 1)), (0, .int u0), (1, .int u1)]) dX6_throwsFor_19 rfl rfl (Nat.le_of_ble_eq_true rfl) rfl <| ?_
        refine o_ltL (ls := fun x4 => [(2, .int x4), (0, .int u0), (1, .int u1)]) fun x4 => ?_
        refine o_goto (pc := 22) (tgt := 2) dX6_throwsFor_22 rfl <| ?_
        refine o_sub [1, 2, 0] (ls' := [(0, .int u0), (1, .int u1), (2, .int x4)]) rfl ?_
        exact ih0 r2.2 x4
def fC_throwsFor (m : MI) (a : Int32) (b : Int32) : Option (Int32 × MI) :=
  fC_throwsFor_l2 a b
    (fun m2 z1 =>
      some (z1, m2)
      )
    1000 m 0
theorem sC_throwsFor {sh : Sh} {R : RR} (hF : Fx sh R) (m : MI) (a : Int32) (b : Int32) : KS (eI sh R) false 1 0 0 YX6_throwsFor sh R m [.int a, .int b] (fC_throwsFor m a b) := by
  refine KS_of pn_X6 (fun _ => Nat.le_of_ble_eq_true rfl) ?_
  change S _ _ _ _ _ _ _ _ _ _ [(0, .int a), (1, .int b)] [] _
  unfold fC_throwsFor
  refine o_iconst (pc := 0) dX6_throwsFor_0 lc_0 <| o_istore_n (pc := 1) (ls' := [(2, .int 0), (0, .int a), (1, .int b)]) dX6_throwsFor_1 rfl (Nat.le_of_ble_eq_true rfl) rfl <| ?_
  refine o_sub [1, 2, 0] (ls' := [(0, .int a), (1, .int b), (2, .int 0)]) rfl ?_
  refine sC_throwsFor_l2 hF a b _ ?_ 1000 m 0
  · intro m2 z1
    refine o_iload_n (pc := 25) 2 dX6_throwsFor_25 rfl rfl <| ?_
    exact o_iret (pc := 26) dX6_throwsFor_26 rfl rfl
def fC_commonDivisor_l9 (u0 : Int64) (u2 : Int64) (k0_0 : MI → Int64 → Int64 → Int32 → Option (Int64 × MI)) : Nat → MI → Int64 → Int64 → Int32 → Option (Int64 × MI)
  | 0, _, _, _, _ => none
  | n0 + 1, m, v4, v6, v8 =>
    if 100 ≤ v8 then
      k0_0 m v4 v6 v8
    else
      if lg_cmp v6 0 = 0 then
        k0_0 m v4 v6 v8
      else
        if ¬ (v6 = 0) then
          ltl (v4 - v4 / v6 * v6) fun y4 =>
          lt (v8 + 1) fun x5 =>
          fC_commonDivisor_l9 u0 u2 k0_0 n0 m v6 y4 x5
        else none
theorem sC_commonDivisor_l9 {sh : Sh} {R : RR} (hF : Fx sh R) (u0 : Int64) (u2 : Int64) (k0_0 : MI → Int64 → Int64 → Int32 → Option (Int64 × MI)) (hk0_0 : ∀ (m : MI) (v4 : Int64) (v6 : Int64) (v8 : Int32) , S (eL sh R) false 0 0 0 YX6_commonDivisor sh R m 44 [(0, .long u0), (2, .long u2), (4, .long v4), (6, .long v6), (8, .int v8)] [] (k0_0 m v4 v6 v8)) : ∀ (n : Nat) (m : MI) (v4 : Int64) (v6 : Int64) (v8 : Int32) , S (eL sh R) false 0 0 0 YX6_commonDivisor sh R m 9 [(0, .long u0), (2, .long u2), (4, .long v4), (6, .long v6), (8, .int v8)] [] (fC_commonDivisor_l9 u0 u2 k0_0 n m v4 v6 v8) := by
  intro n
  induction n with
  | zero => intros; exact S_none
  | succ n0 ih0 =>
    intro m v4 v6 v8
    rw [fC_commonDivisor_l9]
    refine o_iload (pc := 9) 4 dX6_commonDivisor_9 rfl <| o_bipush (pc := 11) dX6_commonDivisor_11 lb_100 <| ?_
    refine o_icmp_ge (pc := 13) (tgt := 44) dX6_commonDivisor_13 rfl (fun h1 => ?_) (fun h1 => ?_)
    · exact hk0_0 m v4 v6 v8
    · refine o_lload (pc := 16) 3 dX6_commonDivisor_16 rfl <| o_lconst (pc := 18) (x := 0) dX6_commonDivisor_18 rfl <| o_lcmp (pc := 19) dX6_commonDivisor_19 <| ?_
      refine o_if_eq (pc := 20) (tgt := 44) dX6_commonDivisor_20 rfl (fun h2 => ?_) (fun h2 => ?_)
      · exact hk0_0 m v4 v6 v8
      · refine o_lload (pc := 23) 2 dX6_commonDivisor_23 rfl <| o_lload (pc := 25) 3 dX6_commonDivisor_25 rfl <| ?_
        refine S_ck fun h3 => ?_
        refine o_lrem (pc := 27) dX6_commonDivisor_27 h3 <| ?_
        refine o_ltl fun y4 => ?_
        refine o_lstore (pc := 28) (ls' := [(9, .long y4), (0, .long u0), (2, .long u2), (4, .long v4), (6, .long v6), (8, .int v8)]) dX6_commonDivisor_28 (Nat.le_of_ble_eq_true rfl) rfl <| o_lload (pc := 30) 4 dX6_commonDivisor_30 rfl <| o_lstore (pc := 32) (ls' := [(4, .long v6), (9, .long y4), (0, .long u0), (2, .long u2), (6, .long v6), (8, .int v8)]) dX6_commonDivisor_32 (Nat.le_of_ble_eq_true rfl) rfl <| o_lload (pc := 34) 1 dX6_commonDivisor_34 rfl <| o_lstore (pc := 36) (ls' := [(6, .long y4), (4, .long v6), (9, .long y4), (0, .long u0), (2, .long u2), (8, .int v8)]) dX6_commonDivisor_36 (Nat.le_of_ble_eq_true rfl) rfl <| o_iinc (pc := 38) 5 (v := v8 + 1) (ls' := [(8, .int (v8 + 1)), (6, .long y4), (4, .long v6), (9, .long y4), (0, .long u0), (2, .long u2)]) dX6_commonDivisor_38 rfl rfl (Nat.le_of_ble_eq_true rfl) rfl <| ?_
        refine o_ltL (ls := fun x5 => [(8, .int x5), (6, .long y4), (4, .long v6), (9, .long y4), (0, .long u0), (2, .long u2)]) fun x5 => ?_
        refine o_goto (pc := 41) (tgt := 9) dX6_commonDivisor_41 rfl <| ?_
        refine o_sub [4, 5, 2, 1, 0] (ls' := [(0, .long u0), (2, .long u2), (4, .long v6), (6, .long y4), (8, .int x5)]) rfl ?_
        exact ih0 m v6 y4 x5
def fC_commonDivisor (m : MI) (a : Int64) (b : Int64) : Option (Int64 × MI) :=
  fC_commonDivisor_l9 a b
    (fun m4 z1 z2 z3 =>
      some (z1, m4)
      )
    1000 m a b 0
theorem sC_commonDivisor {sh : Sh} {R : RR} (hF : Fx sh R) (m : MI) (a : Int64) (b : Int64) : KS (eL sh R) false 0 0 0 YX6_commonDivisor sh R m [.long a, .long b] (fC_commonDivisor m a b) := by
  refine KS_of pn_X6 (fun _ => Nat.le_of_ble_eq_true rfl) ?_
  change S _ _ _ _ _ _ _ _ _ _ [(0, .long a), (2, .long b)] [] _
  unfold fC_commonDivisor
  refine o_lload_n (pc := 0) 0 dX6_commonDivisor_0 rfl rfl <| o_lstore (pc := 1) (ls' := [(4, .long a), (0, .long a), (2, .long b)]) dX6_commonDivisor_1 (Nat.le_of_ble_eq_true rfl) rfl <| o_lload_n (pc := 3) 2 dX6_commonDivisor_3 rfl rfl <| o_lstore (pc := 4) (ls' := [(6, .long b), (4, .long a), (0, .long a), (2, .long b)]) dX6_commonDivisor_4 (Nat.le_of_ble_eq_true rfl) rfl <| o_iconst (pc := 6) dX6_commonDivisor_6 lc_0 <| o_istore (pc := 7) (ls' := [(8, .int 0), (6, .long b), (4, .long a), (0, .long a), (2, .long b)]) dX6_commonDivisor_7 (Nat.le_of_ble_eq_true rfl) rfl <| ?_
  refine o_sub [3, 4, 2, 1, 0] (ls' := [(0, .long a), (2, .long b), (4, .long a), (6, .long b), (8, .int 0)]) rfl ?_
  refine sC_commonDivisor_l9 hF a b _ ?_ 1000 m a b 0
  · intro m4 z1 z2 z3
    refine o_lload (pc := 44) 2 dX6_commonDivisor_44 rfl <| ?_
    exact o_lret (pc := 46) dX6_commonDivisor_46 rfl rfl
def fC_lowest (m : MI) (a : Int64) (b : Int64) (c : Int32) : Option (Int64 × MI) :=
  (fC_commonDivisor m a b).bind fun r1 =>
  if 0 < lg_cmp r1.1 0 then
    if c = 0 then
      if ¬ (r1.1 = 0) then
        some (a / r1.1, r1.2)
      else none
    else
      if ¬ (r1.1 = 0) then
        some (b / r1.1, r1.2)
      else none
  else
    some (-9223372036854775808, r1.2)
theorem sC_lowest {sh : Sh} {R : RR} (hF : Fx sh R) (m : MI) (a : Int64) (b : Int64) (c : Int32) : KS (eL sh R) false 1 0 0 YX6_lowest sh R m [.long a, .long b, .int c] (fC_lowest m a b c) := by
  refine KS_of pn_X6 (fun _ => Nat.le_of_ble_eq_true rfl) ?_
  change S _ _ _ _ _ _ _ _ _ _ [(0, .long a), (2, .long b), (4, .int c)] [] _
  unfold fC_lowest
  refine o_lload_n (pc := 0) 0 dX6_lowest_0 rfl rfl <| o_lload_n (pc := 1) 1 dX6_lowest_1 rfl rfl <| ?_
  refine o_callSL (Y2 := YX6_commonDivisor) (pc := 2) (av := [.long a, .long b]) (rest := []) dX6_lowest_2 k_700 cs_X6_commonDivisor (sC_commonDivisor hF m a b) rfl rfl (Nat.le_of_ble_eq_true rfl) (Nat.le_of_ble_eq_true rfl) fun r1 => ?_
  refine o_lstore (pc := 5) (ls' := [(5, .long r1.1), (0, .long a), (2, .long b), (4, .int c)]) dX6_lowest_5 (Nat.le_of_ble_eq_true rfl) rfl <| o_lload (pc := 7) 0 dX6_lowest_7 rfl <| o_lconst (pc := 9) (x := 0) dX6_lowest_9 rfl <| o_lcmp (pc := 10) dX6_lowest_10 <| ?_
  refine o_if_gt (pc := 11) (tgt := 18) dX6_lowest_11 rfl (fun h2 => ?_) (fun h2 => ?_)
  · refine o_iload (pc := 18) 3 dX6_lowest_18 rfl <| ?_
    refine o_if_ne (pc := 20) (tgt := 27) dX6_lowest_20 rfl (fun h3 => ?_) (fun h3 => ?_)
    · refine o_lload_n (pc := 23) 1 dX6_lowest_23 rfl rfl <| o_goto (pc := 24) (tgt := 28) dX6_lowest_24 rfl <| o_lload (pc := 28) 0 dX6_lowest_28 rfl <| ?_
      refine S_ck fun h4 => ?_
      refine o_ldiv (pc := 30) dX6_lowest_30 h4 <| ?_
      exact o_lret (pc := 31) dX6_lowest_31 rfl rfl
    · refine o_lload_n (pc := 27) 2 dX6_lowest_27 rfl rfl <| o_lload (pc := 28) 0 dX6_lowest_28 rfl <| ?_
      refine S_ck fun h5 => ?_
      refine o_ldiv (pc := 30) dX6_lowest_30 h5 <| ?_
      exact o_lret (pc := 31) dX6_lowest_31 rfl rfl
  · refine o_ldc2 (pc := 14) dX6_lowest_14 k_690 <| ?_
    exact o_lret (pc := 17) dX6_lowest_17 rfl rfl
def fC_coin (m : MI) (a : Int32) (b : Int32) (c : Int32) : Option (Int64 × MI) :=
  if a < 1 then
    some (-9223372036854775808, m)
  else
    if 99 < a then
      some (-9223372036854775808, m)
    else
      (fC_isChosen m b).bind fun r3 =>
      if r3.1 = 0 then
        some (-9223372036854775808, r3.2)
      else
        (fC_isPart r3.2 c).bind fun r5 =>
        if r5.1 = 0 then
          some (-9223372036854775808, r5.2)
        else
          (fC_throwsFor r5.2 2 b).bind fun r7 =>
          (fC_power r7.2 2 r7.1).bind fun r8 =>
          ltl ((r7.1.toInt64) * r8.1) fun y9 =>
          if a = 50 then
            (fC_lowest r8.2 y9 (b.toInt64) c).bind fun r11 =>
            some (r11.1, r11.2)
          else
            (fC_lowest r8.2 (10000 * y9) (((b.toInt64) * (a.toInt64)) * ((100 - a).toInt64)) c).bind fun r12 =>
            some (r12.1, r12.2)
theorem sC_coin {sh : Sh} {R : RR} (hF : Fx sh R) (m : MI) (a : Int32) (b : Int32) (c : Int32) : KS (eL sh R) false 2 0 0 YX6_coin sh R m [.ref 0, .int a, .int b, .int c] (fC_coin m a b c) := by
  refine KS_of pn_X6 (fun _ => Nat.le_of_ble_eq_true rfl) ?_
  change S _ _ _ _ _ _ _ _ _ _ [(0, .ref 0), (1, .int a), (2, .int b), (3, .int c)] [] _
  unfold fC_coin
  refine o_iload_n (pc := 0) 1 dX6_coin_0 rfl rfl <| o_iconst (pc := 1) dX6_coin_1 lc_1 <| ?_
  refine o_icmp_lt (pc := 2) (tgt := 25) dX6_coin_2 rfl (fun h1 => ?_) (fun h1 => ?_)
  · refine o_ldc2 (pc := 25) dX6_coin_25 k_690 <| ?_
    exact o_lret (pc := 28) dX6_coin_28 rfl rfl
  · refine o_iload_n (pc := 5) 1 dX6_coin_5 rfl rfl <| o_bipush (pc := 6) dX6_coin_6 lb_99 <| ?_
    refine o_icmp_gt (pc := 8) (tgt := 25) dX6_coin_8 rfl (fun h2 => ?_) (fun h2 => ?_)
    · refine o_ldc2 (pc := 25) dX6_coin_25 k_690 <| ?_
      exact o_lret (pc := 28) dX6_coin_28 rfl rfl
    · refine o_iload_n (pc := 11) 2 dX6_coin_11 rfl rfl <| ?_
      refine o_callSI (Y2 := YX6_isChosen) (pc := 12) (av := [.int b]) (rest := []) dX6_coin_12 k_684 cs_X6_isChosen (sC_isChosen hF m b) rfl rfl (Nat.le_of_ble_eq_true rfl) (Nat.le_of_ble_eq_true rfl) fun r3 => ?_
      refine o_if_eq (pc := 15) (tgt := 25) dX6_coin_15 rfl (fun h4 => ?_) (fun h4 => ?_)
      · refine o_ldc2 (pc := 25) dX6_coin_25 k_690 <| ?_
        exact o_lret (pc := 28) dX6_coin_28 rfl rfl
      · refine o_iload_n (pc := 18) 3 dX6_coin_18 rfl rfl <| ?_
        refine o_callSI (Y2 := YX6_isPart) (pc := 19) (av := [.int c]) (rest := []) dX6_coin_19 k_687 cs_X6_isPart (sC_isPart hF r3.2 c) rfl rfl (Nat.le_of_ble_eq_true rfl) (Nat.le_of_ble_eq_true rfl) fun r5 => ?_
        refine o_if_ne (pc := 22) (tgt := 29) dX6_coin_22 rfl (fun h6 => ?_) (fun h6 => ?_)
        · refine o_ldc2 (pc := 25) dX6_coin_25 k_690 <| ?_
          exact o_lret (pc := 28) dX6_coin_28 rfl rfl
        · refine o_iconst (pc := 29) dX6_coin_29 lc_2 <| o_iload_n (pc := 30) 2 dX6_coin_30 rfl rfl <| ?_
          refine o_callSI (Y2 := YX6_throwsFor) (pc := 31) (av := [.int 2, .int b]) (rest := []) dX6_coin_31 k_691 cs_X6_throwsFor (sC_throwsFor hF r5.2 2 b) rfl rfl (Nat.le_of_ble_eq_true rfl) (Nat.le_of_ble_eq_true rfl) fun r7 => ?_
          refine o_istore (pc := 34) (ls' := [(4, .int r7.1), (0, .ref 0), (1, .int a), (2, .int b), (3, .int c)]) dX6_coin_34 (Nat.le_of_ble_eq_true rfl) rfl <| o_iload (pc := 36) 0 dX6_coin_36 rfl <| o_i2l (pc := 38) dX6_coin_38 <| o_iconst (pc := 39) dX6_coin_39 lc_2 <| o_iload (pc := 40) 0 dX6_coin_40 rfl <| ?_
          refine o_callSL (Y2 := YX6_power) (pc := 42) (av := [.int 2, .int r7.1]) (rest := [.long (r7.1.toInt64)]) dX6_coin_42 k_694 cs_X6_power (sC_power hF r7.2 2 r7.1) rfl rfl (Nat.le_of_ble_eq_true rfl) (Nat.le_of_ble_eq_true rfl) fun r8 => ?_
          refine o_lmul (pc := 45) dX6_coin_45 <| ?_
          refine o_ltl fun y9 => ?_
          refine o_lstore (pc := 46) (ls' := [(5, .long y9), (4, .int r7.1), (0, .ref 0), (1, .int a), (2, .int b), (3, .int c)]) dX6_coin_46 (Nat.le_of_ble_eq_true rfl) rfl <| o_iload_n (pc := 48) 3 dX6_coin_48 rfl rfl <| o_bipush (pc := 49) dX6_coin_49 lb_50 <| ?_
          refine o_icmp_ne (pc := 51) (tgt := 63) dX6_coin_51 rfl (fun h10 => ?_) (fun h10 => ?_)
          · refine o_lload (pc := 54) 0 dX6_coin_54 rfl <| o_iload_n (pc := 56) 4 dX6_coin_56 rfl rfl <| o_i2l (pc := 57) dX6_coin_57 <| o_iload_n (pc := 58) 5 dX6_coin_58 rfl rfl <| ?_
            refine o_callSL (Y2 := YX6_lowest) (pc := 59) (av := [.long y9, .long (b.toInt64), .int c]) (rest := []) dX6_coin_59 k_697 cs_X6_lowest (sC_lowest hF r8.2 y9 (b.toInt64) c) rfl rfl (Nat.le_of_ble_eq_true rfl) (Nat.le_of_ble_eq_true rfl) fun r11 => ?_
            exact o_lret (pc := 62) dX6_coin_62 rfl rfl
          · refine o_ldc2 (pc := 63) dX6_coin_63 k_703 <| o_lload (pc := 66) 0 dX6_coin_66 rfl <| o_lmul (pc := 68) dX6_coin_68 <| o_iload_n (pc := 69) 4 dX6_coin_69 rfl rfl <| o_i2l (pc := 70) dX6_coin_70 <| o_iload_n (pc := 71) 3 dX6_coin_71 rfl rfl <| o_i2l (pc := 72) dX6_coin_72 <| o_lmul (pc := 73) dX6_coin_73 <| o_bipush (pc := 74) dX6_coin_74 lb_100 <| o_iload_n (pc := 76) 3 dX6_coin_76 rfl rfl <| ?_
            refine o_isub (pc := 77) dX6_coin_77 <| o_i2l (pc := 78) dX6_coin_78 <| o_lmul (pc := 79) dX6_coin_79 <| o_iload_n (pc := 80) 5 dX6_coin_80 rfl rfl <| ?_
            refine o_callSL (Y2 := YX6_lowest) (pc := 81) (av := [.long (10000 * y9), .long (((b.toInt64) * (a.toInt64)) * ((100 - a).toInt64)), .int c]) (rest := []) dX6_coin_81 k_697 cs_X6_lowest (sC_lowest hF r8.2 (10000 * y9) (((b.toInt64) * (a.toInt64)) * ((100 - a).toInt64)) c) rfl rfl (Nat.le_of_ble_eq_true rfl) (Nat.le_of_ble_eq_true rfl) fun r12 => ?_
            exact o_lret (pc := 84) dX6_coin_84 rfl rfl
def fC_dice (m : MI) (a : Int32) (b : Int32) (c : Int32) : Option (Int64 × MI) :=
  if a < 2 then
    some (-9223372036854775808, m)
  else
    if 20 < a then
      some (-9223372036854775808, m)
    else
      (fC_isChosen m b).bind fun r3 =>
      if r3.1 = 0 then
        some (-9223372036854775808, r3.2)
      else
        (fC_isPart r3.2 c).bind fun r5 =>
        if r5.1 = 0 then
          some (-9223372036854775808, r5.2)
        else
          (fC_throwsFor r5.2 a b).bind fun r7 =>
          (fC_power r7.2 a r7.1).bind fun r8 =>
          if ¬ (b.toInt64 = 0) then
            (fC_lowest r8.2 ((r7.1.toInt64) * r8.1) (r8.1 - (r8.1 - r8.1 / (b.toInt64) * (b.toInt64))) c).bind fun r10 =>
            some (r10.1, r10.2)
          else none
theorem sC_dice {sh : Sh} {R : RR} (hF : Fx sh R) (m : MI) (a : Int32) (b : Int32) (c : Int32) : KS (eL sh R) false 2 0 0 YX6_dice sh R m [.ref 0, .int a, .int b, .int c] (fC_dice m a b c) := by
  refine KS_of pn_X6 (fun _ => Nat.le_of_ble_eq_true rfl) ?_
  change S _ _ _ _ _ _ _ _ _ _ [(0, .ref 0), (1, .int a), (2, .int b), (3, .int c)] [] _
  unfold fC_dice
  refine o_iload_n (pc := 0) 1 dX6_dice_0 rfl rfl <| o_iconst (pc := 1) dX6_dice_1 lc_2 <| ?_
  refine o_icmp_lt (pc := 2) (tgt := 25) dX6_dice_2 rfl (fun h1 => ?_) (fun h1 => ?_)
  · refine o_ldc2 (pc := 25) dX6_dice_25 k_690 <| ?_
    exact o_lret (pc := 28) dX6_dice_28 rfl rfl
  · refine o_iload_n (pc := 5) 1 dX6_dice_5 rfl rfl <| o_bipush (pc := 6) dX6_dice_6 lb_20 <| ?_
    refine o_icmp_gt (pc := 8) (tgt := 25) dX6_dice_8 rfl (fun h2 => ?_) (fun h2 => ?_)
    · refine o_ldc2 (pc := 25) dX6_dice_25 k_690 <| ?_
      exact o_lret (pc := 28) dX6_dice_28 rfl rfl
    · refine o_iload_n (pc := 11) 2 dX6_dice_11 rfl rfl <| ?_
      refine o_callSI (Y2 := YX6_isChosen) (pc := 12) (av := [.int b]) (rest := []) dX6_dice_12 k_684 cs_X6_isChosen (sC_isChosen hF m b) rfl rfl (Nat.le_of_ble_eq_true rfl) (Nat.le_of_ble_eq_true rfl) fun r3 => ?_
      refine o_if_eq (pc := 15) (tgt := 25) dX6_dice_15 rfl (fun h4 => ?_) (fun h4 => ?_)
      · refine o_ldc2 (pc := 25) dX6_dice_25 k_690 <| ?_
        exact o_lret (pc := 28) dX6_dice_28 rfl rfl
      · refine o_iload_n (pc := 18) 3 dX6_dice_18 rfl rfl <| ?_
        refine o_callSI (Y2 := YX6_isPart) (pc := 19) (av := [.int c]) (rest := []) dX6_dice_19 k_687 cs_X6_isPart (sC_isPart hF r3.2 c) rfl rfl (Nat.le_of_ble_eq_true rfl) (Nat.le_of_ble_eq_true rfl) fun r5 => ?_
        refine o_if_ne (pc := 22) (tgt := 29) dX6_dice_22 rfl (fun h6 => ?_) (fun h6 => ?_)
        · refine o_ldc2 (pc := 25) dX6_dice_25 k_690 <| ?_
          exact o_lret (pc := 28) dX6_dice_28 rfl rfl
        · refine o_iload_n (pc := 29) 1 dX6_dice_29 rfl rfl <| o_iload_n (pc := 30) 2 dX6_dice_30 rfl rfl <| ?_
          refine o_callSI (Y2 := YX6_throwsFor) (pc := 31) (av := [.int a, .int b]) (rest := []) dX6_dice_31 k_691 cs_X6_throwsFor (sC_throwsFor hF r5.2 a b) rfl rfl (Nat.le_of_ble_eq_true rfl) (Nat.le_of_ble_eq_true rfl) fun r7 => ?_
          refine o_istore (pc := 34) (ls' := [(4, .int r7.1), (0, .ref 0), (1, .int a), (2, .int b), (3, .int c)]) dX6_dice_34 (Nat.le_of_ble_eq_true rfl) rfl <| o_iload_n (pc := 36) 2 dX6_dice_36 rfl rfl <| o_iload (pc := 37) 0 dX6_dice_37 rfl <| ?_
          refine o_callSL (Y2 := YX6_power) (pc := 39) (av := [.int a, .int r7.1]) (rest := []) dX6_dice_39 k_694 cs_X6_power (sC_power hF r7.2 a r7.1) rfl rfl (Nat.le_of_ble_eq_true rfl) (Nat.le_of_ble_eq_true rfl) fun r8 => ?_
          refine o_lstore (pc := 42) (ls' := [(5, .long r8.1), (4, .int r7.1), (0, .ref 0), (1, .int a), (2, .int b), (3, .int c)]) dX6_dice_42 (Nat.le_of_ble_eq_true rfl) rfl <| o_iload (pc := 44) 1 dX6_dice_44 rfl <| o_i2l (pc := 46) dX6_dice_46 <| o_lload (pc := 47) 0 dX6_dice_47 rfl <| o_lmul (pc := 49) dX6_dice_49 <| o_lload (pc := 50) 0 dX6_dice_50 rfl <| o_lload (pc := 52) 0 dX6_dice_52 rfl <| o_iload_n (pc := 54) 4 dX6_dice_54 rfl rfl <| o_i2l (pc := 55) dX6_dice_55 <| ?_
          refine S_ck fun h9 => ?_
          refine o_lrem (pc := 56) dX6_dice_56 h9 <| o_lsub (pc := 57) dX6_dice_57 <| o_iload_n (pc := 58) 5 dX6_dice_58 rfl rfl <| ?_
          refine o_callSL (Y2 := YX6_lowest) (pc := 59) (av := [.long ((r7.1.toInt64) * r8.1), .long (r8.1 - (r8.1 - r8.1 / (b.toInt64) * (b.toInt64))), .int c]) (rest := []) dX6_dice_59 k_697 cs_X6_lowest (sC_lowest hF r8.2 ((r7.1.toInt64) * r8.1) (r8.1 - (r8.1 - r8.1 / (b.toInt64) * (b.toInt64))) c) rfl rfl (Nat.le_of_ble_eq_true rfl) (Nat.le_of_ble_eq_true rfl) fun r10 => ?_
          exact o_lret (pc := 62) dX6_dice_62 rfl rfl
def fC_turn_l9 (k0_0 : MI → Int32 → Int32 → Int32 → Option (Int32 × MI)) : Nat → MI → Int32 → Int32 → Int32 → Option (Int32 × MI)
  | 0, _, _, _, _ => none
  | n0 + 1, m, v1, v2, v3 =>
    if m.1 1 0 ≤ v3 then
      k0_0 m v1 v2 v3
    else
      if ck v3 6 = true then
        lt (m.1 12 v3.toNatClampNeg) fun x3 =>
        if ck x3 6 = true then
          if v2 ≤ m.1 4 x3.toNatClampNeg then
            lt (v3 + 1) fun x6 =>
            fC_turn_l9 k0_0 n0 m v1 v2 x6
          else
            if ck x3 6 = true then
              lt (m.1 4 x3.toNatClampNeg) fun x8 =>
              lt (v3 + 1) fun x9 =>
              fC_turn_l9 k0_0 n0 m x3 x8 x9
            else none
        else none
      else none
theorem sC_turn_l9 {sh : Sh} {R : RR} (hF : Fx sh R) (k0_0 : MI → Int32 → Int32 → Int32 → Option (Int32 × MI)) (hk0_0 : ∀ (m : MI) (v1 : Int32) (v2 : Int32) (v3 : Int32) , S (eI sh R) false 0 0 0 YX6_turn sh R m 65 [(0, .ref 0), (1, .int v1), (2, .int v2), (3, .int v3)] [] (k0_0 m v1 v2 v3)) : ∀ (n : Nat) (m : MI) (v1 : Int32) (v2 : Int32) (v3 : Int32) , S (eI sh R) false 0 0 0 YX6_turn sh R m 9 [(0, .ref 0), (1, .int v1), (2, .int v2), (3, .int v3)] [] (fC_turn_l9 k0_0 n m v1 v2 v3) := by
  intro n
  induction n with
  | zero => intros; exact S_none
  | succ n0 ih0 =>
    intro m v1 v2 v3
    rw [fC_turn_l9]
    refine o_iload_n (pc := 9) 3 dX6_turn_9 rfl rfl <| o_aload_n (pc := 10) 0 dX6_turn_10 rfl rfl <| o_getRc (pc := 11) (a := 1) (ci := 6) (j := 0) (nn := 0) dX6_turn_11 (hF.1 _ _ rfl) rfl (Nat.le_of_ble_eq_true rfl) k_292 rfl (hF.2 _ _ _ rfl) <| o_getI (pc := 14) (ci := 5) (j := 0) (nn := 0) dX6_turn_14 (hF.1 _ _ rfl) rfl (Nat.le_of_ble_eq_true rfl) k_124 rfl <| ?_
    refine o_icmp_ge (pc := 17) (tgt := 65) dX6_turn_17 rfl (fun h1 => ?_) (fun h1 => ?_)
    · exact hk0_0 m v1 v2 v3
    · refine o_aload_n (pc := 20) 0 dX6_turn_20 rfl rfl <| o_getRc (pc := 21) (a := 1) (ci := 6) (j := 0) (nn := 0) dX6_turn_21 (hF.1 _ _ rfl) rfl (Nat.le_of_ble_eq_true rfl) k_292 rfl (hF.2 _ _ _ rfl) <| o_getRc (pc := 24) (a := 12) (ci := 5) (j := 5) (nn := 0) dX6_turn_24 (hF.1 _ _ rfl) rfl (Nat.le_of_ble_eq_true rfl) k_135 rfl (hF.2 _ _ _ rfl) <| o_iload_n (pc := 27) 3 dX6_turn_27 rfl rfl <| ?_
      refine S_ck fun h2 => ?_
      refine o_iald (pc := 28) (nn := 6) dX6_turn_28 (hF.1 _ _ rfl) (ck_in h2) <| ?_
      refine o_lt fun x3 => ?_
      refine o_istore (pc := 29) (ls' := [(4, .int x3), (0, .ref 0), (1, .int v1), (2, .int v2), (3, .int v3)]) dX6_turn_29 (Nat.le_of_ble_eq_true rfl) rfl <| o_aload_n (pc := 31) 1 dX6_turn_31 rfl rfl <| o_getRc (pc := 32) (a := 1) (ci := 6) (j := 0) (nn := 0) dX6_turn_32 (hF.1 _ _ rfl) rfl (Nat.le_of_ble_eq_true rfl) k_292 rfl (hF.2 _ _ _ rfl) <| o_getRc (pc := 35) (a := 4) (ci := 5) (j := 3) (nn := 0) dX6_turn_35 (hF.1 _ _ rfl) rfl (Nat.le_of_ble_eq_true rfl) k_131 rfl (hF.2 _ _ _ rfl) <| o_iload (pc := 38) 0 dX6_turn_38 rfl <| ?_
      refine S_ck fun h4 => ?_
      refine o_iald (pc := 40) (nn := 6) dX6_turn_40 (hF.1 _ _ rfl) (ck_in h4) <| o_iload_n (pc := 41) 3 dX6_turn_41 rfl rfl <| ?_
      refine o_icmp_ge (pc := 42) (tgt := 59) dX6_turn_42 rfl (fun h5 => ?_) (fun h5 => ?_)
      · refine o_iinc (pc := 59) 4 (v := v3 + 1) (ls' := [(3, .int (v3 + 1)), (4, .int x3), (0, .ref 0), (1, .int v1), (2, .int v2)]) dX6_turn_59 rfl rfl (Nat.le_of_ble_eq_true rfl) rfl <| ?_
        refine o_ltL (ls := fun x6 => [(3, .int x6), (4, .int x3), (0, .ref 0), (1, .int v1), (2, .int v2)]) fun x6 => ?_
        refine o_goto (pc := 62) (tgt := 9) dX6_turn_62 rfl <| ?_
        refine o_sub [2, 3, 4, 0] (ls' := [(0, .ref 0), (1, .int v1), (2, .int v2), (3, .int x6)]) rfl ?_
        exact ih0 m v1 v2 x6
      · refine o_aload_n (pc := 45) 1 dX6_turn_45 rfl rfl <| o_getRc (pc := 46) (a := 1) (ci := 6) (j := 0) (nn := 0) dX6_turn_46 (hF.1 _ _ rfl) rfl (Nat.le_of_ble_eq_true rfl) k_292 rfl (hF.2 _ _ _ rfl) <| o_getRc (pc := 49) (a := 4) (ci := 5) (j := 3) (nn := 0) dX6_turn_49 (hF.1 _ _ rfl) rfl (Nat.le_of_ble_eq_true rfl) k_131 rfl (hF.2 _ _ _ rfl) <| o_iload (pc := 52) 0 dX6_turn_52 rfl <| ?_
        refine S_ck fun h7 => ?_
        refine o_iald (pc := 54) (nn := 6) dX6_turn_54 (hF.1 _ _ rfl) (ck_in h7) <| ?_
        refine o_lt fun x8 => ?_
        refine o_istore_n (pc := 55) (ls' := [(2, .int x8), (4, .int x3), (0, .ref 0), (1, .int v1), (3, .int v3)]) dX6_turn_55 rfl (Nat.le_of_ble_eq_true rfl) rfl <| o_iload (pc := 56) 1 dX6_turn_56 rfl <| o_istore_n (pc := 58) (ls' := [(1, .int x3), (2, .int x8), (4, .int x3), (0, .ref 0), (3, .int v3)]) dX6_turn_58 rfl (Nat.le_of_ble_eq_true rfl) rfl <| o_iinc (pc := 59) 4 (v := v3 + 1) (ls' := [(3, .int (v3 + 1)), (1, .int x3), (2, .int x8), (4, .int x3), (0, .ref 0)]) dX6_turn_59 rfl rfl (Nat.le_of_ble_eq_true rfl) rfl <| ?_
        refine o_ltL (ls := fun x9 => [(3, .int x9), (1, .int x3), (2, .int x8), (4, .int x3), (0, .ref 0)]) fun x9 => ?_
        refine o_goto (pc := 62) (tgt := 9) dX6_turn_62 rfl <| ?_
        refine o_sub [4, 1, 2, 0] (ls' := [(0, .ref 0), (1, .int x3), (2, .int x8), (3, .int x9)]) rfl ?_
        exact ih0 m x3 x8 x9
def fC_turn (m : MI) : Option (Int32 × MI) :=
  fC_turn_l9 
    (fun m4 z1 z2 z3 =>
      some (z1, m4)
      )
    1000 m (-5) 1000 0
theorem sC_turn {sh : Sh} {R : RR} (hF : Fx sh R) (m : MI) : KS (eI sh R) false 0 0 0 YX6_turn sh R m [.ref 0] (fC_turn m ) := by
  refine KS_of pn_X6 (fun _ => Nat.le_of_ble_eq_true rfl) ?_
  change S _ _ _ _ _ _ _ _ _ _ [(0, .ref 0)] [] _
  unfold fC_turn
  refine o_bipush (pc := 0) dX6_turn_0 lb_m5 <| o_istore_n (pc := 2) (ls' := [(1, .int (-5)), (0, .ref 0)]) dX6_turn_2 rfl (Nat.le_of_ble_eq_true rfl) rfl <| o_sipush (pc := 3) dX6_turn_3 ls_1000 <| o_istore_n (pc := 6) (ls' := [(2, .int 1000), (1, .int (-5)), (0, .ref 0)]) dX6_turn_6 rfl (Nat.le_of_ble_eq_true rfl) rfl <| o_iconst (pc := 7) dX6_turn_7 lc_0 <| o_istore_n (pc := 8) (ls' := [(3, .int 0), (2, .int 1000), (1, .int (-5)), (0, .ref 0)]) dX6_turn_8 rfl (Nat.le_of_ble_eq_true rfl) rfl <| ?_
  refine o_sub [3, 2, 1, 0] (ls' := [(0, .ref 0), (1, .int (-5)), (2, .int 1000), (3, .int 0)]) rfl ?_
  refine sC_turn_l9 hF  _ ?_ 1000 m (-5) 1000 0
  · intro m4 z1 z2 z3
    refine o_iload_n (pc := 65) 1 dX6_turn_65 rfl rfl <| ?_
    exact o_iret (pc := 66) dX6_turn_66 rfl rfl
def fC_uneven_l4 (k0_0 : MI → Int32 → Int32 → Option (Int32 × MI)) : Nat → MI → Int32 → Int32 → Option (Int32 × MI)
  | 0, _, _, _ => none
  | n0 + 1, m, v1, v2 =>
    if m.1 1 0 ≤ v2 then
      k0_0 m v1 v2
    else
      if ck v2 6 = true then
        lt (v1 + (m.1 4 v2.toNatClampNeg)) fun x3 =>
        lt (v2 + 1) fun x4 =>
        fC_uneven_l4 k0_0 n0 m x3 x4
      else none
theorem sC_uneven_l4 {sh : Sh} {R : RR} (hF : Fx sh R) (k0_0 : MI → Int32 → Int32 → Option (Int32 × MI)) (hk0_0 : ∀ (m : MI) (v1 : Int32) (v2 : Int32) , S (eI sh R) false 0 0 0 YX6_uneven sh R m 33 [(0, .ref 0), (1, .int v1), (2, .int v2)] [] (k0_0 m v1 v2)) : ∀ (n : Nat) (m : MI) (v1 : Int32) (v2 : Int32) , S (eI sh R) false 0 0 0 YX6_uneven sh R m 4 [(0, .ref 0), (1, .int v1), (2, .int v2)] [] (fC_uneven_l4 k0_0 n m v1 v2) := by
  intro n
  induction n with
  | zero => intros; exact S_none
  | succ n0 ih0 =>
    intro m v1 v2
    rw [fC_uneven_l4]
    refine o_iload_n (pc := 4) 2 dX6_uneven_4 rfl rfl <| o_aload_n (pc := 5) 0 dX6_uneven_5 rfl rfl <| o_getRc (pc := 6) (a := 1) (ci := 6) (j := 0) (nn := 0) dX6_uneven_6 (hF.1 _ _ rfl) rfl (Nat.le_of_ble_eq_true rfl) k_292 rfl (hF.2 _ _ _ rfl) <| o_getI (pc := 9) (ci := 5) (j := 0) (nn := 0) dX6_uneven_9 (hF.1 _ _ rfl) rfl (Nat.le_of_ble_eq_true rfl) k_124 rfl <| ?_
    refine o_icmp_ge (pc := 12) (tgt := 33) dX6_uneven_12 rfl (fun h1 => ?_) (fun h1 => ?_)
    · exact hk0_0 m v1 v2
    · refine o_iload_n (pc := 15) 1 dX6_uneven_15 rfl rfl <| o_aload_n (pc := 16) 0 dX6_uneven_16 rfl rfl <| o_getRc (pc := 17) (a := 1) (ci := 6) (j := 0) (nn := 0) dX6_uneven_17 (hF.1 _ _ rfl) rfl (Nat.le_of_ble_eq_true rfl) k_292 rfl (hF.2 _ _ _ rfl) <| o_getRc (pc := 20) (a := 4) (ci := 5) (j := 3) (nn := 0) dX6_uneven_20 (hF.1 _ _ rfl) rfl (Nat.le_of_ble_eq_true rfl) k_131 rfl (hF.2 _ _ _ rfl) <| o_iload_n (pc := 23) 2 dX6_uneven_23 rfl rfl <| ?_
      refine S_ck fun h2 => ?_
      refine o_iald (pc := 24) (nn := 6) dX6_uneven_24 (hF.1 _ _ rfl) (ck_in h2) <| o_iadd (pc := 25) dX6_uneven_25 <| ?_
      refine o_lt fun x3 => ?_
      refine o_istore_n (pc := 26) (ls' := [(1, .int x3), (0, .ref 0), (2, .int v2)]) dX6_uneven_26 rfl (Nat.le_of_ble_eq_true rfl) rfl <| o_iinc (pc := 27) 2 (v := v2 + 1) (ls' := [(2, .int (v2 + 1)), (1, .int x3), (0, .ref 0)]) dX6_uneven_27 rfl rfl (Nat.le_of_ble_eq_true rfl) rfl <| ?_
      refine o_ltL (ls := fun x4 => [(2, .int x4), (1, .int x3), (0, .ref 0)]) fun x4 => ?_
      refine o_goto (pc := 30) (tgt := 4) dX6_uneven_30 rfl <| ?_
      refine o_sub [2, 1, 0] (ls' := [(0, .ref 0), (1, .int x3), (2, .int x4)]) rfl ?_
      exact ih0 m x3 x4
def fC_uneven_l37 (u1 : Int32) (k0_0 : MI → Int32 → Int32 → Option (Int32 × MI)) : Nat → MI → Int32 → Int32 → Option (Int32 × MI)
  | 0, _, _, _ => none
  | n0 + 1, m, v2, v3 =>
    if m.1 1 0 ≤ v3 then
      k0_0 m v2 v3
    else
      if ck v3 6 = true then
        lt (((m.1 4 v3.toNatClampNeg) * (m.1 1 0)) - u1) fun x3 =>
        lt (v2 + (x3 * x3)) fun x4 =>
        lt (v3 + 1) fun x5 =>
        fC_uneven_l37 u1 k0_0 n0 m x4 x5
      else none
theorem sC_uneven_l37 {sh : Sh} {R : RR} (hF : Fx sh R) (u1 : Int32) (k0_0 : MI → Int32 → Int32 → Option (Int32 × MI)) (hk0_0 : ∀ (m : MI) (v2 : Int32) (v3 : Int32) , S (eI sh R) false 0 0 0 YX6_uneven sh R m 83 [(0, .ref 0), (1, .int u1), (2, .int v2), (3, .int v3)] [] (k0_0 m v2 v3)) : ∀ (n : Nat) (m : MI) (v2 : Int32) (v3 : Int32) , S (eI sh R) false 0 0 0 YX6_uneven sh R m 37 [(0, .ref 0), (1, .int u1), (2, .int v2), (3, .int v3)] [] (fC_uneven_l37 u1 k0_0 n m v2 v3) := by
  intro n
  induction n with
  | zero => intros; exact S_none
  | succ n0 ih0 =>
    intro m v2 v3
    rw [fC_uneven_l37]
    refine o_iload_n (pc := 37) 3 dX6_uneven_37 rfl rfl <| o_aload_n (pc := 38) 0 dX6_uneven_38 rfl rfl <| o_getRc (pc := 39) (a := 1) (ci := 6) (j := 0) (nn := 0) dX6_uneven_39 (hF.1 _ _ rfl) rfl (Nat.le_of_ble_eq_true rfl) k_292 rfl (hF.2 _ _ _ rfl) <| o_getI (pc := 42) (ci := 5) (j := 0) (nn := 0) dX6_uneven_42 (hF.1 _ _ rfl) rfl (Nat.le_of_ble_eq_true rfl) k_124 rfl <| ?_
    refine o_icmp_ge (pc := 45) (tgt := 83) dX6_uneven_45 rfl (fun h1 => ?_) (fun h1 => ?_)
    · exact hk0_0 m v2 v3
    · refine o_aload_n (pc := 48) 0 dX6_uneven_48 rfl rfl <| o_getRc (pc := 49) (a := 1) (ci := 6) (j := 0) (nn := 0) dX6_uneven_49 (hF.1 _ _ rfl) rfl (Nat.le_of_ble_eq_true rfl) k_292 rfl (hF.2 _ _ _ rfl) <| o_getRc (pc := 52) (a := 4) (ci := 5) (j := 3) (nn := 0) dX6_uneven_52 (hF.1 _ _ rfl) rfl (Nat.le_of_ble_eq_true rfl) k_131 rfl (hF.2 _ _ _ rfl) <| o_iload_n (pc := 55) 3 dX6_uneven_55 rfl rfl <| ?_
      refine S_ck fun h2 => ?_
      refine o_iald (pc := 56) (nn := 6) dX6_uneven_56 (hF.1 _ _ rfl) (ck_in h2) <| o_aload_n (pc := 57) 0 dX6_uneven_57 rfl rfl <| o_getRc (pc := 58) (a := 1) (ci := 6) (j := 0) (nn := 0) dX6_uneven_58 (hF.1 _ _ rfl) rfl (Nat.le_of_ble_eq_true rfl) k_292 rfl (hF.2 _ _ _ rfl) <| o_getI (pc := 61) (ci := 5) (j := 0) (nn := 0) dX6_uneven_61 (hF.1 _ _ rfl) rfl (Nat.le_of_ble_eq_true rfl) k_124 rfl <| o_imul (pc := 64) dX6_uneven_64 <| o_iload_n (pc := 65) 1 dX6_uneven_65 rfl rfl <| o_isub (pc := 66) dX6_uneven_66 <| ?_
      refine o_lt fun x3 => ?_
      refine o_istore (pc := 67) (ls' := [(4, .int x3), (0, .ref 0), (1, .int u1), (2, .int v2), (3, .int v3)]) dX6_uneven_67 (Nat.le_of_ble_eq_true rfl) rfl <| o_iload_n (pc := 69) 3 dX6_uneven_69 rfl rfl <| o_iload (pc := 70) 0 dX6_uneven_70 rfl <| o_iload (pc := 72) 0 dX6_uneven_72 rfl <| o_imul (pc := 74) dX6_uneven_74 <| o_iadd (pc := 75) dX6_uneven_75 <| ?_
      refine o_lt fun x4 => ?_
      refine o_istore_n (pc := 76) (ls' := [(2, .int x4), (4, .int x3), (0, .ref 0), (1, .int u1), (3, .int v3)]) dX6_uneven_76 rfl (Nat.le_of_ble_eq_true rfl) rfl <| o_iinc (pc := 77) 4 (v := v3 + 1) (ls' := [(3, .int (v3 + 1)), (2, .int x4), (4, .int x3), (0, .ref 0), (1, .int u1)]) dX6_uneven_77 rfl rfl (Nat.le_of_ble_eq_true rfl) rfl <| ?_
      refine o_ltL (ls := fun x5 => [(3, .int x5), (2, .int x4), (4, .int x3), (0, .ref 0), (1, .int u1)]) fun x5 => ?_
      refine o_goto (pc := 80) (tgt := 37) dX6_uneven_80 rfl <| ?_
      refine o_sub [3, 4, 1, 0] (ls' := [(0, .ref 0), (1, .int u1), (2, .int x4), (3, .int x5)]) rfl ?_
      exact ih0 m x4 x5
def fC_uneven (m : MI) : Option (Int32 × MI) :=
  fC_uneven_l4 
    (fun m3 z1 z2 =>
      fC_uneven_l37 z1
        (fun m6 z4 z5 =>
          some (z4, m6)
          )
        1000 m3 0 0
      )
    1000 m 0 0
theorem sC_uneven {sh : Sh} {R : RR} (hF : Fx sh R) (m : MI) : KS (eI sh R) false 0 0 0 YX6_uneven sh R m [.ref 0] (fC_uneven m ) := by
  refine KS_of pn_X6 (fun _ => Nat.le_of_ble_eq_true rfl) ?_
  change S _ _ _ _ _ _ _ _ _ _ [(0, .ref 0)] [] _
  unfold fC_uneven
  refine o_iconst (pc := 0) dX6_uneven_0 lc_0 <| o_istore_n (pc := 1) (ls' := [(1, .int 0), (0, .ref 0)]) dX6_uneven_1 rfl (Nat.le_of_ble_eq_true rfl) rfl <| o_iconst (pc := 2) dX6_uneven_2 lc_0 <| o_istore_n (pc := 3) (ls' := [(2, .int 0), (1, .int 0), (0, .ref 0)]) dX6_uneven_3 rfl (Nat.le_of_ble_eq_true rfl) rfl <| ?_
  refine o_sub [2, 1, 0] (ls' := [(0, .ref 0), (1, .int 0), (2, .int 0)]) rfl ?_
  refine sC_uneven_l4 hF  _ ?_ 1000 m 0 0
  · intro m3 z1 z2
    refine o_iconst (pc := 33) dX6_uneven_33 lc_0 <| o_istore_n (pc := 34) (ls' := [(2, .int 0), (0, .ref 0), (1, .int z1)]) dX6_uneven_34 rfl (Nat.le_of_ble_eq_true rfl) rfl <| o_iconst (pc := 35) dX6_uneven_35 lc_0 <| o_istore_n (pc := 36) (ls' := [(3, .int 0), (2, .int 0), (0, .ref 0), (1, .int z1)]) dX6_uneven_36 rfl (Nat.le_of_ble_eq_true rfl) rfl <| ?_
    refine o_sub [2, 3, 1, 0] (ls' := [(0, .ref 0), (1, .int z1), (2, .int 0), (3, .int 0)]) rfl ?_
    refine sC_uneven_l37 hF z1 _ ?_ 1000 m3 0 0
    · intro m6 z4 z5
      refine o_iload_n (pc := 83) 2 dX6_uneven_83 rfl rfl <| ?_
      exact o_iret (pc := 84) dX6_uneven_84 rfl rfl
def fC_most_l39 (u1 : Int32) (k0_0 : MI → Int32 → Int32 → Int32 → Option (Int32 × MI)) : Nat → MI → Int32 → Int32 → Int32 → Option (Int32 × MI)
  | 0, _, _, _, _ => none
  | n0 + 1, m, v2, v3, v4 =>
    if m.1 1 0 ≤ v4 then
      k0_0 m v2 v3 v4
    else
      if ck v4 6 = true then
        lt (if m.1 4 v4.toNatClampNeg < v3 then m.1 4 v4.toNatClampNeg else v3) fun x3 =>
        if ck v4 6 = true then
          if ck v2 6 = true then
            if m.1 4 v4.toNatClampNeg ≤ m.1 4 v2.toNatClampNeg then
              lt (v4 + 1) fun x7 =>
              fC_most_l39 u1 k0_0 n0 m v2 x3 x7
            else
              lt (v4 + 1) fun x8 =>
              fC_most_l39 u1 k0_0 n0 m v4 x3 x8
          else none
        else none
      else none
theorem sC_most_l39 {sh : Sh} {R : RR} (hF : Fx sh R) (u1 : Int32) (k0_0 : MI → Int32 → Int32 → Int32 → Option (Int32 × MI)) (hk0_0 : ∀ (m : MI) (v2 : Int32) (v3 : Int32) (v4 : Int32) , S (eI sh R) false 1 0 0 YX6_most sh R m 97 [(0, .ref 0), (1, .int u1), (2, .int v2), (3, .int v3), (4, .int v4)] [] (k0_0 m v2 v3 v4)) : ∀ (n : Nat) (m : MI) (v2 : Int32) (v3 : Int32) (v4 : Int32) , S (eI sh R) false 1 0 0 YX6_most sh R m 39 [(0, .ref 0), (1, .int u1), (2, .int v2), (3, .int v3), (4, .int v4)] [] (fC_most_l39 u1 k0_0 n m v2 v3 v4) := by
  intro n
  induction n with
  | zero => intros; exact S_none
  | succ n0 ih0 =>
    intro m v2 v3 v4
    rw [fC_most_l39]
    refine o_iload (pc := 39) 4 dX6_most_39 rfl <| o_aload_n (pc := 41) 0 dX6_most_41 rfl rfl <| o_getRc (pc := 42) (a := 1) (ci := 6) (j := 0) (nn := 0) dX6_most_42 (hF.1 _ _ rfl) rfl (Nat.le_of_ble_eq_true rfl) k_292 rfl (hF.2 _ _ _ rfl) <| o_getI (pc := 45) (ci := 5) (j := 0) (nn := 0) dX6_most_45 (hF.1 _ _ rfl) rfl (Nat.le_of_ble_eq_true rfl) k_124 rfl <| ?_
    refine o_icmp_ge (pc := 48) (tgt := 97) dX6_most_48 rfl (fun h1 => ?_) (fun h1 => ?_)
    · exact hk0_0 m v2 v3 v4
    · refine o_iload_n (pc := 51) 3 dX6_most_51 rfl rfl <| o_aload_n (pc := 52) 0 dX6_most_52 rfl rfl <| o_getRc (pc := 53) (a := 1) (ci := 6) (j := 0) (nn := 0) dX6_most_53 (hF.1 _ _ rfl) rfl (Nat.le_of_ble_eq_true rfl) k_292 rfl (hF.2 _ _ _ rfl) <| o_getRc (pc := 56) (a := 4) (ci := 5) (j := 3) (nn := 0) dX6_most_56 (hF.1 _ _ rfl) rfl (Nat.le_of_ble_eq_true rfl) k_131 rfl (hF.2 _ _ _ rfl) <| o_iload (pc := 59) 4 dX6_most_59 rfl <| ?_
      refine S_ck fun h2 => ?_
      refine o_iald (pc := 61) (nn := 6) dX6_most_61 (hF.1 _ _ rfl) (ck_in h2) <| o_min (pc := 62) dX6_most_62 k_720 k_519 k_81 k_520 (Nat.le_of_ble_eq_true rfl) (Nat.le_of_ble_eq_true rfl) <| ?_
      refine o_lt fun x3 => ?_
      refine o_istore_n (pc := 65) (ls' := [(3, .int x3), (0, .ref 0), (1, .int u1), (2, .int v2), (4, .int v4)]) dX6_most_65 rfl (Nat.le_of_ble_eq_true rfl) rfl <| o_aload_n (pc := 66) 1 dX6_most_66 rfl rfl <| o_getRc (pc := 67) (a := 1) (ci := 6) (j := 0) (nn := 0) dX6_most_67 (hF.1 _ _ rfl) rfl (Nat.le_of_ble_eq_true rfl) k_292 rfl (hF.2 _ _ _ rfl) <| o_getRc (pc := 70) (a := 4) (ci := 5) (j := 3) (nn := 0) dX6_most_70 (hF.1 _ _ rfl) rfl (Nat.le_of_ble_eq_true rfl) k_131 rfl (hF.2 _ _ _ rfl) <| o_iload (pc := 73) 4 dX6_most_73 rfl <| ?_
      refine S_ck fun h4 => ?_
      refine o_iald (pc := 75) (nn := 6) dX6_most_75 (hF.1 _ _ rfl) (ck_in h4) <| o_aload_n (pc := 76) 1 dX6_most_76 rfl rfl <| o_getRc (pc := 77) (a := 1) (ci := 6) (j := 0) (nn := 0) dX6_most_77 (hF.1 _ _ rfl) rfl (Nat.le_of_ble_eq_true rfl) k_292 rfl (hF.2 _ _ _ rfl) <| o_getRc (pc := 80) (a := 4) (ci := 5) (j := 3) (nn := 0) dX6_most_80 (hF.1 _ _ rfl) rfl (Nat.le_of_ble_eq_true rfl) k_131 rfl (hF.2 _ _ _ rfl) <| o_iload_n (pc := 83) 3 dX6_most_83 rfl rfl <| ?_
      refine S_ck fun h5 => ?_
      refine o_iald (pc := 84) (nn := 6) dX6_most_84 (hF.1 _ _ rfl) (ck_in h5) <| ?_
      refine o_icmp_le (pc := 85) (tgt := 91) dX6_most_85 rfl (fun h6 => ?_) (fun h6 => ?_)
      · refine o_iinc (pc := 91) 4 (v := v4 + 1) (ls' := [(4, .int (v4 + 1)), (3, .int x3), (0, .ref 0), (1, .int u1), (2, .int v2)]) dX6_most_91 rfl rfl (Nat.le_of_ble_eq_true rfl) rfl <| ?_
        refine o_ltL (ls := fun x7 => [(4, .int x7), (3, .int x3), (0, .ref 0), (1, .int u1), (2, .int v2)]) fun x7 => ?_
        refine o_goto (pc := 94) (tgt := 39) dX6_most_94 rfl <| ?_
        refine o_sub [2, 3, 4, 1, 0] (ls' := [(0, .ref 0), (1, .int u1), (2, .int v2), (3, .int x3), (4, .int x7)]) rfl ?_
        exact ih0 m v2 x3 x7
      · refine o_iload (pc := 88) 4 dX6_most_88 rfl <| o_istore_n (pc := 90) (ls' := [(2, .int v4), (3, .int x3), (0, .ref 0), (1, .int u1), (4, .int v4)]) dX6_most_90 rfl (Nat.le_of_ble_eq_true rfl) rfl <| o_iinc (pc := 91) 4 (v := v4 + 1) (ls' := [(4, .int (v4 + 1)), (2, .int v4), (3, .int x3), (0, .ref 0), (1, .int u1)]) dX6_most_91 rfl rfl (Nat.le_of_ble_eq_true rfl) rfl <| ?_
        refine o_ltL (ls := fun x8 => [(4, .int x8), (2, .int v4), (3, .int x3), (0, .ref 0), (1, .int u1)]) fun x8 => ?_
        refine o_goto (pc := 94) (tgt := 39) dX6_most_94 rfl <| ?_
        refine o_sub [3, 4, 1, 2, 0] (ls' := [(0, .ref 0), (1, .int u1), (2, .int v4), (3, .int x3), (4, .int x8)]) rfl ?_
        exact ih0 m v4 x3 x8
def fC_most (m : MI) (a : Int32) : Option (Int32 × MI) :=
  if a < 0 then
    some (-1, m)
  else
    if a ≤ 1 then
      if m.1 1 0 = 0 then
        some (-5, m)
      else
        lt (m.1 4 (0 : Int32).toNatClampNeg) fun x4 =>
        fC_most_l39 a
          (fun m8 z5 z6 z7 =>
            if a = 0 then
              some (z5, m8)
            else
              if ck z5 6 = true then
                some ((m8.1 4 z5.toNatClampNeg) - z6, m8)
              else none
            )
          1000 m 0 x4 1
    else
      some (-1, m)
theorem sC_most {sh : Sh} {R : RR} (hF : Fx sh R) (m : MI) (a : Int32) : KS (eI sh R) false 1 0 0 YX6_most sh R m [.ref 0, .int a] (fC_most m a) := by
  refine KS_of pn_X6 (fun _ => Nat.le_of_ble_eq_true rfl) ?_
  change S _ _ _ _ _ _ _ _ _ _ [(0, .ref 0), (1, .int a)] [] _
  unfold fC_most
  refine o_iload_n (pc := 0) 1 dX6_most_0 rfl rfl <| ?_
  refine o_if_lt (pc := 1) (tgt := 9) dX6_most_1 rfl (fun h1 => ?_) (fun h1 => ?_)
  · refine o_iconst (pc := 9) dX6_most_9 lc_m1 <| ?_
    exact o_iret (pc := 10) dX6_most_10 rfl rfl
  · refine o_iload_n (pc := 4) 1 dX6_most_4 rfl rfl <| o_iconst (pc := 5) dX6_most_5 lc_1 <| ?_
    refine o_icmp_le (pc := 6) (tgt := 11) dX6_most_6 rfl (fun h2 => ?_) (fun h2 => ?_)
    · refine o_aload_n (pc := 11) 0 dX6_most_11 rfl rfl <| o_getRc (pc := 12) (a := 1) (ci := 6) (j := 0) (nn := 0) dX6_most_12 (hF.1 _ _ rfl) rfl (Nat.le_of_ble_eq_true rfl) k_292 rfl (hF.2 _ _ _ rfl) <| o_getI (pc := 15) (ci := 5) (j := 0) (nn := 0) dX6_most_15 (hF.1 _ _ rfl) rfl (Nat.le_of_ble_eq_true rfl) k_124 rfl <| ?_
      refine o_if_ne (pc := 18) (tgt := 24) dX6_most_18 rfl (fun h3 => ?_) (fun h3 => ?_)
      · refine o_bipush (pc := 21) dX6_most_21 lb_m5 <| ?_
        exact o_iret (pc := 23) dX6_most_23 rfl rfl
      · refine o_iconst (pc := 24) dX6_most_24 lc_0 <| o_istore_n (pc := 25) (ls' := [(2, .int 0), (0, .ref 0), (1, .int a)]) dX6_most_25 rfl (Nat.le_of_ble_eq_true rfl) rfl <| o_aload_n (pc := 26) 1 dX6_most_26 rfl rfl <| o_getRc (pc := 27) (a := 1) (ci := 6) (j := 0) (nn := 0) dX6_most_27 (hF.1 _ _ rfl) rfl (Nat.le_of_ble_eq_true rfl) k_292 rfl (hF.2 _ _ _ rfl) <| o_getRc (pc := 30) (a := 4) (ci := 5) (j := 3) (nn := 0) dX6_most_30 (hF.1 _ _ rfl) rfl (Nat.le_of_ble_eq_true rfl) k_131 rfl (hF.2 _ _ _ rfl) <| o_iconst (pc := 33) dX6_most_33 lc_0 <| o_iald (pc := 34) (nn := 6) dX6_most_34 (hF.1 _ _ rfl) (ck_in rfl) <| ?_
        refine o_lt fun x4 => ?_
        refine o_istore_n (pc := 35) (ls' := [(3, .int x4), (2, .int 0), (0, .ref 0), (1, .int a)]) dX6_most_35 rfl (Nat.le_of_ble_eq_true rfl) rfl <| o_iconst (pc := 36) dX6_most_36 lc_1 <| o_istore (pc := 37) (ls' := [(4, .int 1), (3, .int x4), (2, .int 0), (0, .ref 0), (1, .int a)]) dX6_most_37 (Nat.le_of_ble_eq_true rfl) rfl <| ?_
        refine o_sub [3, 4, 2, 1, 0] (ls' := [(0, .ref 0), (1, .int a), (2, .int 0), (3, .int x4), (4, .int 1)]) rfl ?_
        refine sC_most_l39 hF a _ ?_ 1000 m 0 x4 1
        · intro m8 z5 z6 z7
          refine o_iload_n (pc := 97) 1 dX6_most_97 rfl rfl <| ?_
          refine o_if_ne (pc := 98) (tgt := 105) dX6_most_98 rfl (fun h9 => ?_) (fun h9 => ?_)
          · refine o_iload_n (pc := 101) 2 dX6_most_101 rfl rfl <| o_goto (pc := 102) (tgt := 116) dX6_most_102 rfl <| ?_
            exact o_iret (pc := 116) dX6_most_116 rfl rfl
          · refine o_aload_n (pc := 105) 0 dX6_most_105 rfl rfl <| o_getRc (pc := 106) (a := 1) (ci := 6) (j := 0) (nn := 0) dX6_most_106 (hF.1 _ _ rfl) rfl (Nat.le_of_ble_eq_true rfl) k_292 rfl (hF.2 _ _ _ rfl) <| o_getRc (pc := 109) (a := 4) (ci := 5) (j := 3) (nn := 0) dX6_most_109 (hF.1 _ _ rfl) rfl (Nat.le_of_ble_eq_true rfl) k_131 rfl (hF.2 _ _ _ rfl) <| o_iload_n (pc := 112) 2 dX6_most_112 rfl rfl <| ?_
            refine S_ck fun h10 => ?_
            refine o_iald (pc := 113) (nn := 6) dX6_most_113 (hF.1 _ _ rfl) (ck_in h10) <| o_iload_n (pc := 114) 3 dX6_most_114 rfl rfl <| o_isub (pc := 115) dX6_most_115 <| ?_
            exact o_iret (pc := 116) dX6_most_116 rfl rfl
    · refine o_iconst (pc := 9) dX6_most_9 lc_m1 <| ?_
      exact o_iret (pc := 10) dX6_most_10 rfl rfl
def fC_see (m : MI) (a : Int32) (b : Int32) : Option (Int32 × MI) :=
  if a = -1 then
    lm (mI m 1 (upd (m.1 1) 10 0)) fun m2 =>
    some (0, m2)
  else
    (fC_isDrawNumber m a).bind fun r3 =>
    if r3.1 = 0 then
      some (-2, r3.2)
    else
      if r3.2.1 1 10 < 6 then
        if ck (r3.2.1 1 10) 6 = true then
          lm (mI r3.2 13 (upd (r3.2.1 13) (r3.2.1 1 10).toNatClampNeg a)) fun m7 =>
          if b = 0 then
            if ck (m7.1 1 10) 6 = true then
              lm (mI m7 14 (upd (m7.1 14) (m7.1 1 10).toNatClampNeg 0)) fun m10 =>
              lm (mI m10 1 (upd (m10.1 1) 10 ((m10.1 1 10) + 1))) fun m11 =>
              some (m11.1 1 10, m11)
            else none
          else
            if ck (m7.1 1 10) 6 = true then
              lm (mI m7 14 (upd (m7.1 14) (m7.1 1 10).toNatClampNeg 1)) fun m13 =>
              lm (mI m13 1 (upd (m13.1 1) 10 ((m13.1 1 10) + 1))) fun m14 =>
              some (m14.1 1 10, m14)
            else none
        else none
      else
        some (-4, r3.2)
theorem sC_see {sh : Sh} {R : RR} (hF : Fx sh R) (m : MI) (a : Int32) (b : Int32) : KS (eI sh R) false 1 0 0 YX6_see sh R m [.ref 0, .int a, .int b] (fC_see m a b) := by
  refine KS_of pn_X6 (fun _ => Nat.le_of_ble_eq_true rfl) ?_
  change S _ _ _ _ _ _ _ _ _ _ [(0, .ref 0), (1, .int a), (2, .int b)] [] _
  unfold fC_see
  refine o_iload_n (pc := 0) 1 dX6_see_0 rfl rfl <| o_iconst (pc := 1) dX6_see_1 lc_m1 <| ?_
  refine o_icmp_ne (pc := 2) (tgt := 15) dX6_see_2 rfl (fun h1 => ?_) (fun h1 => ?_)
  · refine o_aload_n (pc := 5) 0 dX6_see_5 rfl rfl <| o_getRc (pc := 6) (a := 1) (ci := 6) (j := 0) (nn := 0) dX6_see_6 (hF.1 _ _ rfl) rfl (Nat.le_of_ble_eq_true rfl) k_292 rfl (hF.2 _ _ _ rfl) <| o_iconst (pc := 9) dX6_see_9 lc_0 <| o_putI (pc := 10) (ci := 5) (j := 10) (nn := 0) dX6_see_10 (hF.1 _ _ rfl) rfl (Nat.le_of_ble_eq_true rfl) k_145 rfl rfl rfl rfl rfl <| ?_
    refine o_lm fun m2 => ?_
    refine o_iconst (pc := 13) dX6_see_13 lc_0 <| ?_
    exact o_iret (pc := 14) dX6_see_14 rfl rfl
  · refine o_iload_n (pc := 15) 1 dX6_see_15 rfl rfl <| ?_
    refine o_callSI (Y2 := YX6_isDrawNumber) (pc := 16) (av := [.int a]) (rest := []) dX6_see_16 k_604 cs_X6_isDrawNumber (sC_isDrawNumber hF m a) rfl rfl (Nat.le_of_ble_eq_true rfl) (Nat.le_of_ble_eq_true rfl) fun r3 => ?_
    refine o_if_ne (pc := 19) (tgt := 25) dX6_see_19 rfl (fun h4 => ?_) (fun h4 => ?_)
    · refine o_bipush (pc := 22) dX6_see_22 lb_m2 <| ?_
      exact o_iret (pc := 24) dX6_see_24 rfl rfl
    · refine o_aload_n (pc := 25) 0 dX6_see_25 rfl rfl <| o_getRc (pc := 26) (a := 1) (ci := 6) (j := 0) (nn := 0) dX6_see_26 (hF.1 _ _ rfl) rfl (Nat.le_of_ble_eq_true rfl) k_292 rfl (hF.2 _ _ _ rfl) <| o_getI (pc := 29) (ci := 5) (j := 10) (nn := 0) dX6_see_29 (hF.1 _ _ rfl) rfl (Nat.le_of_ble_eq_true rfl) k_145 rfl <| o_bipush (pc := 32) dX6_see_32 lb_6 <| ?_
      refine o_icmp_lt (pc := 34) (tgt := 40) dX6_see_34 rfl (fun h5 => ?_) (fun h5 => ?_)
      · refine o_aload_n (pc := 40) 0 dX6_see_40 rfl rfl <| o_getRc (pc := 41) (a := 1) (ci := 6) (j := 0) (nn := 0) dX6_see_41 (hF.1 _ _ rfl) rfl (Nat.le_of_ble_eq_true rfl) k_292 rfl (hF.2 _ _ _ rfl) <| o_getRc (pc := 44) (a := 13) (ci := 5) (j := 11) (nn := 0) dX6_see_44 (hF.1 _ _ rfl) rfl (Nat.le_of_ble_eq_true rfl) k_147 rfl (hF.2 _ _ _ rfl) <| o_aload_n (pc := 47) 0 dX6_see_47 rfl rfl <| o_getRc (pc := 48) (a := 1) (ci := 6) (j := 0) (nn := 0) dX6_see_48 (hF.1 _ _ rfl) rfl (Nat.le_of_ble_eq_true rfl) k_292 rfl (hF.2 _ _ _ rfl) <| o_getI (pc := 51) (ci := 5) (j := 10) (nn := 0) dX6_see_51 (hF.1 _ _ rfl) rfl (Nat.le_of_ble_eq_true rfl) k_145 rfl <| o_iload_n (pc := 54) 1 dX6_see_54 rfl rfl <| ?_
        refine S_ck fun h6 => ?_
        refine o_iast (pc := 55) (nn := 6) dX6_see_55 (hF.1 _ _ rfl) (ck_in h6) <| ?_
        refine o_lm fun m7 => ?_
        refine o_aload_n (pc := 56) 0 dX6_see_56 rfl rfl <| o_getRc (pc := 57) (a := 1) (ci := 6) (j := 0) (nn := 0) dX6_see_57 (hF.1 _ _ rfl) rfl (Nat.le_of_ble_eq_true rfl) k_292 rfl (hF.2 _ _ _ rfl) <| o_getRc (pc := 60) (a := 14) (ci := 5) (j := 12) (nn := 0) dX6_see_60 (hF.1 _ _ rfl) rfl (Nat.le_of_ble_eq_true rfl) k_149 rfl (hF.2 _ _ _ rfl) <| o_aload_n (pc := 63) 0 dX6_see_63 rfl rfl <| o_getRc (pc := 64) (a := 1) (ci := 6) (j := 0) (nn := 0) dX6_see_64 (hF.1 _ _ rfl) rfl (Nat.le_of_ble_eq_true rfl) k_292 rfl (hF.2 _ _ _ rfl) <| o_getI (pc := 67) (ci := 5) (j := 10) (nn := 0) dX6_see_67 (hF.1 _ _ rfl) rfl (Nat.le_of_ble_eq_true rfl) k_145 rfl <| o_iload_n (pc := 70) 2 dX6_see_70 rfl rfl <| ?_
        refine o_if_eq (pc := 71) (tgt := 78) dX6_see_71 rfl (fun h8 => ?_) (fun h8 => ?_)
        · refine o_iconst (pc := 78) dX6_see_78 lc_0 <| ?_
          refine S_ck fun h9 => ?_
          refine o_iast (pc := 79) (nn := 6) dX6_see_79 (hF.1 _ _ rfl) (ck_in h9) <| ?_
          refine o_lm fun m10 => ?_
          refine o_aload_n (pc := 80) 0 dX6_see_80 rfl rfl <| o_getRc (pc := 81) (a := 1) (ci := 6) (j := 0) (nn := 0) dX6_see_81 (hF.1 _ _ rfl) rfl (Nat.le_of_ble_eq_true rfl) k_292 rfl (hF.2 _ _ _ rfl) <| o_dup (pc := 84) dX6_see_84 rfl <| o_getI (pc := 85) (ci := 5) (j := 10) (nn := 0) dX6_see_85 (hF.1 _ _ rfl) rfl (Nat.le_of_ble_eq_true rfl) k_145 rfl <| o_iconst (pc := 88) dX6_see_88 lc_1 <| o_iadd (pc := 89) dX6_see_89 <| o_putI (pc := 90) (ci := 5) (j := 10) (nn := 0) dX6_see_90 (hF.1 _ _ rfl) rfl (Nat.le_of_ble_eq_true rfl) k_145 rfl rfl rfl rfl rfl <| ?_
          refine o_lm fun m11 => ?_
          refine o_aload_n (pc := 93) 0 dX6_see_93 rfl rfl <| o_getRc (pc := 94) (a := 1) (ci := 6) (j := 0) (nn := 0) dX6_see_94 (hF.1 _ _ rfl) rfl (Nat.le_of_ble_eq_true rfl) k_292 rfl (hF.2 _ _ _ rfl) <| o_getI (pc := 97) (ci := 5) (j := 10) (nn := 0) dX6_see_97 (hF.1 _ _ rfl) rfl (Nat.le_of_ble_eq_true rfl) k_145 rfl <| ?_
          exact o_iret (pc := 100) dX6_see_100 rfl rfl
        · refine o_iconst (pc := 74) dX6_see_74 lc_1 <| o_goto (pc := 75) (tgt := 79) dX6_see_75 rfl <| ?_
          refine S_ck fun h12 => ?_
          refine o_iast (pc := 79) (nn := 6) dX6_see_79 (hF.1 _ _ rfl) (ck_in h12) <| ?_
          refine o_lm fun m13 => ?_
          refine o_aload_n (pc := 80) 0 dX6_see_80 rfl rfl <| o_getRc (pc := 81) (a := 1) (ci := 6) (j := 0) (nn := 0) dX6_see_81 (hF.1 _ _ rfl) rfl (Nat.le_of_ble_eq_true rfl) k_292 rfl (hF.2 _ _ _ rfl) <| o_dup (pc := 84) dX6_see_84 rfl <| o_getI (pc := 85) (ci := 5) (j := 10) (nn := 0) dX6_see_85 (hF.1 _ _ rfl) rfl (Nat.le_of_ble_eq_true rfl) k_145 rfl <| o_iconst (pc := 88) dX6_see_88 lc_1 <| o_iadd (pc := 89) dX6_see_89 <| o_putI (pc := 90) (ci := 5) (j := 10) (nn := 0) dX6_see_90 (hF.1 _ _ rfl) rfl (Nat.le_of_ble_eq_true rfl) k_145 rfl rfl rfl rfl rfl <| ?_
          refine o_lm fun m14 => ?_
          refine o_aload_n (pc := 93) 0 dX6_see_93 rfl rfl <| o_getRc (pc := 94) (a := 1) (ci := 6) (j := 0) (nn := 0) dX6_see_94 (hF.1 _ _ rfl) rfl (Nat.le_of_ble_eq_true rfl) k_292 rfl (hF.2 _ _ _ rfl) <| o_getI (pc := 97) (ci := 5) (j := 10) (nn := 0) dX6_see_97 (hF.1 _ _ rfl) rfl (Nat.le_of_ble_eq_true rfl) k_145 rfl <| ?_
          exact o_iret (pc := 100) dX6_see_100 rfl rfl
      · refine o_bipush (pc := 37) dX6_see_37 lb_m4 <| ?_
        exact o_iret (pc := 39) dX6_see_39 rfl rfl
def fW_isSeenBy_l8 (sh : Sh) (R : RR) (u1 : Int32) (u2 : Int32) (k0_0 : MI → Int32 → Int32 → Int32 → Option (Int32 × MI)) : Nat → MI → Int32 → Int32 → Int32 → Option (Int32 × MI)
  | 0, _, _, _, _ => none
  | n0 + 1, m, v3, v4, v5 =>
    if m.1 1 10 ≤ v5 then
      k0_0 m v3 v4 v5
    else
      if m.1 1 0 ≤ v5 then
        some (0, m)
      else
        if v3 = 0 then
          some (0, m)
        else
          if ck v5 6 = true then
            if ck v5 6 = true then
              (fW_chance sh R m (m.1 12 v5.toNatClampNeg) v5 v3 v4).bind fun r6 =>
              if r6.1 ≤ m.1 13 v5.toNatClampNeg then
                if ck v5 6 = true then
                  if r6.2.1 14 v5.toNatClampNeg = 1 then
                    some (0, r6.2)
                  else
                    lt (v4 + (-1)) fun x10 =>
                    lt (v5 + 1) fun x11 =>
                    fW_isSeenBy_l8 sh R u1 u2 k0_0 n0 r6.2 v3 x10 x11
                else none
              else
                if ck v5 6 = true then
                  if r6.2.1 14 v5.toNatClampNeg = 1 then
                    lt (v3 + (-1)) fun x14 =>
                    lt (v5 + 1) fun x15 =>
                    fW_isSeenBy_l8 sh R u1 u2 k0_0 n0 r6.2 x14 v4 x15
                  else
                    some (0, r6.2)
                else none
            else none
          else none
theorem sW_isSeenBy_l8 {sh : Sh} {R : RR} (hF : Fx sh R) (u1 : Int32) (u2 : Int32) (k0_0 : MI → Int32 → Int32 → Int32 → Option (Int32 × MI)) (hk0_0 : ∀ (m : MI) (v3 : Int32) (v4 : Int32) (v5 : Int32) , S (eI sh R) false 4 0 0 YX5_isSeenBy sh R m 108 [(0, .ref 1), (1, .int u1), (2, .int u2), (3, .int v3), (4, .int v4), (5, .int v5)] [] (k0_0 m v3 v4 v5)) : ∀ (n : Nat) (m : MI) (v3 : Int32) (v4 : Int32) (v5 : Int32) , S (eI sh R) false 4 0 0 YX5_isSeenBy sh R m 8 [(0, .ref 1), (1, .int u1), (2, .int u2), (3, .int v3), (4, .int v4), (5, .int v5)] [] (fW_isSeenBy_l8 sh R u1 u2 k0_0 n m v3 v4 v5) := by
  intro n
  induction n with
  | zero => intros; exact S_none
  | succ n0 ih0 =>
    intro m v3 v4 v5
    rw [fW_isSeenBy_l8]
    refine o_iload (pc := 8) 5 dX5_isSeenBy_8 rfl <| o_aload_n (pc := 10) 0 dX5_isSeenBy_10 rfl rfl <| o_getI (pc := 11) (ci := 5) (j := 10) (nn := 0) dX5_isSeenBy_11 (hF.1 _ _ rfl) rfl (Nat.le_of_ble_eq_true rfl) k_144 rfl <| ?_
    refine o_icmp_ge (pc := 14) (tgt := 108) dX5_isSeenBy_14 rfl (fun h1 => ?_) (fun h1 => ?_)
    · exact hk0_0 m v3 v4 v5
    · refine o_iload (pc := 17) 5 dX5_isSeenBy_17 rfl <| o_aload_n (pc := 19) 0 dX5_isSeenBy_19 rfl rfl <| o_getI (pc := 20) (ci := 5) (j := 0) (nn := 0) dX5_isSeenBy_20 (hF.1 _ _ rfl) rfl (Nat.le_of_ble_eq_true rfl) k_123 rfl <| ?_
      refine o_icmp_ge (pc := 23) (tgt := 30) dX5_isSeenBy_23 rfl (fun h2 => ?_) (fun h2 => ?_)
      · refine o_iconst (pc := 30) dX5_isSeenBy_30 lc_0 <| ?_
        exact o_zret (pc := 31) dX5_isSeenBy_31 rfl rfl rfl
      · refine o_iload_n (pc := 26) 3 dX5_isSeenBy_26 rfl rfl <| ?_
        refine o_if_ne (pc := 27) (tgt := 32) dX5_isSeenBy_27 rfl (fun h3 => ?_) (fun h3 => ?_)
        · refine o_iconst (pc := 30) dX5_isSeenBy_30 lc_0 <| ?_
          exact o_zret (pc := 31) dX5_isSeenBy_31 rfl rfl rfl
        · refine o_aload_n (pc := 32) 0 dX5_isSeenBy_32 rfl rfl <| o_getRc (pc := 33) (a := 13) (ci := 5) (j := 11) (nn := 0) dX5_isSeenBy_33 (hF.1 _ _ rfl) rfl (Nat.le_of_ble_eq_true rfl) k_146 rfl (hF.2 _ _ _ rfl) <| o_iload (pc := 36) 5 dX5_isSeenBy_36 rfl <| ?_
          refine S_ck fun h4 => ?_
          refine o_iald (pc := 38) (nn := 6) dX5_isSeenBy_38 (hF.1 _ _ rfl) (ck_in h4) <| o_aload_n (pc := 39) 0 dX5_isSeenBy_39 rfl rfl <| o_aload_n (pc := 40) 0 dX5_isSeenBy_40 rfl rfl <| o_getRc (pc := 41) (a := 12) (ci := 5) (j := 5) (nn := 0) dX5_isSeenBy_41 (hF.1 _ _ rfl) rfl (Nat.le_of_ble_eq_true rfl) k_134 rfl (hF.2 _ _ _ rfl) <| o_iload (pc := 44) 5 dX5_isSeenBy_44 rfl <| ?_
          refine S_ck fun h5 => ?_
          refine o_iald (pc := 46) (nn := 6) dX5_isSeenBy_46 (hF.1 _ _ rfl) (ck_in h5) <| o_iload (pc := 47) 5 dX5_isSeenBy_47 rfl <| o_iload_n (pc := 49) 3 dX5_isSeenBy_49 rfl rfl <| o_iload (pc := 50) 4 dX5_isSeenBy_50 rfl <| ?_
          refine o_callVI (Y2 := YX5_chance) (pc := 52) (av := [.int (m.1 12 v5.toNatClampNeg), .int v5, .int v3, .int v4]) (rest := [.int (m.1 13 v5.toNatClampNeg)]) dX5_isSeenBy_52 k_612 cm_X5_chance (sW_chance hF m (m.1 12 v5.toNatClampNeg) v5 v3 v4) (hF.1 _ _ rfl) rfl rfl (Nat.le_of_ble_eq_true rfl) (Nat.le_of_ble_eq_true rfl) fun r6 => ?_
          refine o_icmp_ge (pc := 55) (tgt := 62) dX5_isSeenBy_55 rfl (fun h7 => ?_) (fun h7 => ?_)
          · refine o_iconst (pc := 62) dX5_isSeenBy_62 lc_0 <| o_istore (pc := 63) (ls' := [(6, .int 0), (0, .ref 1), (1, .int u1), (2, .int u2), (3, .int v3), (4, .int v4), (5, .int v5)]) dX5_isSeenBy_63 (Nat.le_of_ble_eq_true rfl) rfl <| o_iload (pc := 65) 0 dX5_isSeenBy_65 rfl <| o_aload_n (pc := 67) 1 dX5_isSeenBy_67 rfl rfl <| o_getRc (pc := 68) (a := 14) (ci := 5) (j := 12) (nn := 0) dX5_isSeenBy_68 (hF.1 _ _ rfl) rfl (Nat.le_of_ble_eq_true rfl) k_148 rfl (hF.2 _ _ _ rfl) <| o_iload (pc := 71) 6 dX5_isSeenBy_71 rfl <| ?_
            refine S_ck fun h8 => ?_
            refine o_iald (pc := 73) (nn := 6) dX5_isSeenBy_73 (hF.1 _ _ rfl) (ck_in h8) <| o_iconst (pc := 74) dX5_isSeenBy_74 lc_1 <| ?_
            refine o_icmp_ne (pc := 75) (tgt := 82) dX5_isSeenBy_75 rfl (fun h9 => ?_) (fun h9 => ?_)
            · refine o_iconst (pc := 78) dX5_isSeenBy_78 lc_1 <| o_goto (pc := 79) (tgt := 83) dX5_isSeenBy_79 rfl <| o_icmp_eq_f (pc := 83) (tgt := 88) dX5_isSeenBy_83 rfl (by decide) <| o_iconst (pc := 86) dX5_isSeenBy_86 lc_0 <| ?_
              exact o_zret (pc := 87) dX5_isSeenBy_87 rfl rfl rfl
            · refine o_iconst (pc := 82) dX5_isSeenBy_82 lc_0 <| o_icmp_eq_t (pc := 83) (tgt := 88) dX5_isSeenBy_83 rfl (by decide) <| o_iload (pc := 88) 0 dX5_isSeenBy_88 rfl <| o_if_eq_t (pc := 90) (tgt := 99) dX5_isSeenBy_90 rfl (by decide) <| o_iinc (pc := 99) 5 (v := v4 + (-1)) (ls' := [(4, .int (v4 + (-1))), (6, .int 0), (0, .ref 1), (1, .int u1), (2, .int u2), (3, .int v3), (5, .int v5)]) dX5_isSeenBy_99 rfl rfl (Nat.le_of_ble_eq_true rfl) rfl <| ?_
              refine o_ltL (ls := fun x10 => [(4, .int x10), (6, .int 0), (0, .ref 1), (1, .int u1), (2, .int u2), (3, .int v3), (5, .int v5)]) fun x10 => ?_
              refine o_iinc (pc := 102) 6 (v := v5 + 1) (ls' := [(5, .int (v5 + 1)), (4, .int x10), (6, .int 0), (0, .ref 1), (1, .int u1), (2, .int u2), (3, .int v3)]) dX5_isSeenBy_102 rfl rfl (Nat.le_of_ble_eq_true rfl) rfl <| ?_
              refine o_ltL (ls := fun x11 => [(5, .int x11), (4, .int x10), (6, .int 0), (0, .ref 1), (1, .int u1), (2, .int u2), (3, .int v3)]) fun x11 => ?_
              refine o_goto (pc := 105) (tgt := 8) dX5_isSeenBy_105 rfl <| ?_
              refine o_sub [3, 4, 5, 6, 1, 0] (ls' := [(0, .ref 1), (1, .int u1), (2, .int u2), (3, .int v3), (4, .int x10), (5, .int x11)]) rfl ?_
              exact ih0 r6.2 v3 x10 x11
          · refine o_iconst (pc := 58) dX5_isSeenBy_58 lc_1 <| o_goto (pc := 59) (tgt := 63) dX5_isSeenBy_59 rfl <| o_istore (pc := 63) (ls' := [(6, .int 1), (0, .ref 1), (1, .int u1), (2, .int u2), (3, .int v3), (4, .int v4), (5, .int v5)]) dX5_isSeenBy_63 (Nat.le_of_ble_eq_true rfl) rfl <| o_iload (pc := 65) 0 dX5_isSeenBy_65 rfl <| o_aload_n (pc := 67) 1 dX5_isSeenBy_67 rfl rfl <| o_getRc (pc := 68) (a := 14) (ci := 5) (j := 12) (nn := 0) dX5_isSeenBy_68 (hF.1 _ _ rfl) rfl (Nat.le_of_ble_eq_true rfl) k_148 rfl (hF.2 _ _ _ rfl) <| o_iload (pc := 71) 6 dX5_isSeenBy_71 rfl <| ?_
            refine S_ck fun h12 => ?_
            refine o_iald (pc := 73) (nn := 6) dX5_isSeenBy_73 (hF.1 _ _ rfl) (ck_in h12) <| o_iconst (pc := 74) dX5_isSeenBy_74 lc_1 <| ?_
            refine o_icmp_ne (pc := 75) (tgt := 82) dX5_isSeenBy_75 rfl (fun h13 => ?_) (fun h13 => ?_)
            · refine o_iconst (pc := 78) dX5_isSeenBy_78 lc_1 <| o_goto (pc := 79) (tgt := 83) dX5_isSeenBy_79 rfl <| o_icmp_eq_t (pc := 83) (tgt := 88) dX5_isSeenBy_83 rfl (by decide) <| o_iload (pc := 88) 0 dX5_isSeenBy_88 rfl <| o_if_eq_f (pc := 90) (tgt := 99) dX5_isSeenBy_90 rfl (by decide) <| o_iinc (pc := 93) 4 (v := v3 + (-1)) (ls' := [(3, .int (v3 + (-1))), (6, .int 1), (0, .ref 1), (1, .int u1), (2, .int u2), (4, .int v4), (5, .int v5)]) dX5_isSeenBy_93 rfl rfl (Nat.le_of_ble_eq_true rfl) rfl <| ?_
              refine o_ltL (ls := fun x14 => [(3, .int x14), (6, .int 1), (0, .ref 1), (1, .int u1), (2, .int u2), (4, .int v4), (5, .int v5)]) fun x14 => ?_
              refine o_goto (pc := 96) (tgt := 102) dX5_isSeenBy_96 rfl <| o_iinc (pc := 102) 6 (v := v5 + 1) (ls' := [(5, .int (v5 + 1)), (3, .int x14), (6, .int 1), (0, .ref 1), (1, .int u1), (2, .int u2), (4, .int v4)]) dX5_isSeenBy_102 rfl rfl (Nat.le_of_ble_eq_true rfl) rfl <| ?_
              refine o_ltL (ls := fun x15 => [(5, .int x15), (3, .int x14), (6, .int 1), (0, .ref 1), (1, .int u1), (2, .int u2), (4, .int v4)]) fun x15 => ?_
              refine o_goto (pc := 105) (tgt := 8) dX5_isSeenBy_105 rfl <| ?_
              refine o_sub [3, 4, 5, 1, 6, 0] (ls' := [(0, .ref 1), (1, .int u1), (2, .int u2), (3, .int x14), (4, .int v4), (5, .int x15)]) rfl ?_
              exact ih0 r6.2 x14 v4 x15
            · refine o_iconst (pc := 82) dX5_isSeenBy_82 lc_0 <| o_icmp_eq_f (pc := 83) (tgt := 88) dX5_isSeenBy_83 rfl (by decide) <| o_iconst (pc := 86) dX5_isSeenBy_86 lc_0 <| ?_
              exact o_zret (pc := 87) dX5_isSeenBy_87 rfl rfl rfl
def fW_isSeenBy (sh : Sh) (R : RR) (m : MI) (a : Int32) (b : Int32) : Option (Int32 × MI) :=
  fW_isSeenBy_l8 sh R a b
    (fun m4 z1 z2 z3 =>
      some (1, m4)
      )
    1000 m a b 0
theorem sW_isSeenBy {sh : Sh} {R : RR} (hF : Fx sh R) (m : MI) (a : Int32) (b : Int32) : KS (eI sh R) false 4 0 0 YX5_isSeenBy sh R m [.ref 1, .int a, .int b] (fW_isSeenBy sh R m a b) := by
  refine KS_of pn_X5 (fun _ => Nat.le_of_ble_eq_true rfl) ?_
  change S _ _ _ _ _ _ _ _ _ _ [(0, .ref 1), (1, .int a), (2, .int b)] [] _
  unfold fW_isSeenBy
  refine o_iload_n (pc := 0) 1 dX5_isSeenBy_0 rfl rfl <| o_istore_n (pc := 1) (ls' := [(3, .int a), (0, .ref 1), (1, .int a), (2, .int b)]) dX5_isSeenBy_1 rfl (Nat.le_of_ble_eq_true rfl) rfl <| o_iload_n (pc := 2) 3 dX5_isSeenBy_2 rfl rfl <| o_istore (pc := 3) (ls' := [(4, .int b), (3, .int a), (0, .ref 1), (1, .int a), (2, .int b)]) dX5_isSeenBy_3 (Nat.le_of_ble_eq_true rfl) rfl <| o_iconst (pc := 5) dX5_isSeenBy_5 lc_0 <| o_istore (pc := 6) (ls' := [(5, .int 0), (4, .int b), (3, .int a), (0, .ref 1), (1, .int a), (2, .int b)]) dX5_isSeenBy_6 (Nat.le_of_ble_eq_true rfl) rfl <| ?_
  refine o_sub [3, 4, 5, 2, 1, 0] (ls' := [(0, .ref 1), (1, .int a), (2, .int b), (3, .int a), (4, .int b), (5, .int 0)]) rfl ?_
  refine sW_isSeenBy_l8 hF a b _ ?_ 1000 m a b 0
  · intro m4 z1 z2 z3
    refine o_iconst (pc := 108) dX5_isSeenBy_108 lc_1 <| ?_
    exact o_zret (pc := 109) dX5_isSeenBy_109 rfl rfl rfl
def fC_fits_l20 (sh : Sh) (R : RR) (u1 : Int32) (k0_0 : MI → Int32 → Int32 → Option (Int32 × MI)) : Nat → MI → Int32 → Int32 → Option (Int32 × MI)
  | 0, _, _, _ => none
  | n0 + 1, m, v2, v3 =>
    if 3 < v3 then
      k0_0 m v2 v3
    else
      (fW_isSeenBy sh R m v3 (if 0 < u1 - v3 then u1 - v3 else 0)).bind fun r2 =>
      if r2.1 = 0 then
        lt (v3 + 1) fun x4 =>
        fC_fits_l20 sh R u1 k0_0 n0 r2.2 v2 x4
      else
        lt (v2 ||| (1 <<< (v3 &&& 31))) fun x5 =>
        lt (v3 + 1) fun x6 =>
        fC_fits_l20 sh R u1 k0_0 n0 r2.2 x5 x6
theorem sC_fits_l20 {sh : Sh} {R : RR} (hF : Fx sh R) (u1 : Int32) (k0_0 : MI → Int32 → Int32 → Option (Int32 × MI)) (hk0_0 : ∀ (m : MI) (v2 : Int32) (v3 : Int32) , S (eI sh R) false 5 0 0 YX6_fits sh R m 55 [(0, .ref 0), (1, .int u1), (2, .int v2), (3, .int v3)] [] (k0_0 m v2 v3)) : ∀ (n : Nat) (m : MI) (v2 : Int32) (v3 : Int32) , S (eI sh R) false 5 0 0 YX6_fits sh R m 20 [(0, .ref 0), (1, .int u1), (2, .int v2), (3, .int v3)] [] (fC_fits_l20 sh R u1 k0_0 n m v2 v3) := by
  intro n
  induction n with
  | zero => intros; exact S_none
  | succ n0 ih0 =>
    intro m v2 v3
    rw [fC_fits_l20]
    refine o_iload_n (pc := 20) 3 dX6_fits_20 rfl rfl <| o_iconst (pc := 21) dX6_fits_21 lc_3 <| ?_
    refine o_icmp_gt (pc := 22) (tgt := 55) dX6_fits_22 rfl (fun h1 => ?_) (fun h1 => ?_)
    · exact hk0_0 m v2 v3
    · refine o_aload_n (pc := 25) 0 dX6_fits_25 rfl rfl <| o_getRc (pc := 26) (a := 1) (ci := 6) (j := 0) (nn := 0) dX6_fits_26 (hF.1 _ _ rfl) rfl (Nat.le_of_ble_eq_true rfl) k_292 rfl (hF.2 _ _ _ rfl) <| o_iload_n (pc := 29) 3 dX6_fits_29 rfl rfl <| o_iconst (pc := 30) dX6_fits_30 lc_0 <| o_iload_n (pc := 31) 1 dX6_fits_31 rfl rfl <| o_iload_n (pc := 32) 3 dX6_fits_32 rfl rfl <| o_isub (pc := 33) dX6_fits_33 <| o_max (pc := 34) dX6_fits_34 k_729 k_347 k_81 k_348 (Nat.le_of_ble_eq_true rfl) (Nat.le_of_ble_eq_true rfl) <| ?_
      refine o_callVI (Y2 := YX5_isSeenBy) (pc := 37) (av := [.int v3, .int (if 0 < u1 - v3 then u1 - v3 else 0)]) (rest := []) dX6_fits_37 k_730 cm_X5_isSeenBy (sW_isSeenBy hF m v3 (if 0 < u1 - v3 then u1 - v3 else 0)) (hF.1 _ _ rfl) rfl rfl (Nat.le_of_ble_eq_true rfl) (Nat.le_of_ble_eq_true rfl) fun r2 => ?_
      refine o_if_eq (pc := 40) (tgt := 49) dX6_fits_40 rfl (fun h3 => ?_) (fun h3 => ?_)
      · refine o_iinc (pc := 49) 3 (v := v3 + 1) (ls' := [(3, .int (v3 + 1)), (0, .ref 0), (1, .int u1), (2, .int v2)]) dX6_fits_49 rfl rfl (Nat.le_of_ble_eq_true rfl) rfl <| ?_
        refine o_ltL (ls := fun x4 => [(3, .int x4), (0, .ref 0), (1, .int u1), (2, .int v2)]) fun x4 => ?_
        refine o_goto (pc := 52) (tgt := 20) dX6_fits_52 rfl <| ?_
        refine o_sub [1, 2, 3, 0] (ls' := [(0, .ref 0), (1, .int u1), (2, .int v2), (3, .int x4)]) rfl ?_
        exact ih0 r2.2 v2 x4
      · refine o_iload_n (pc := 43) 2 dX6_fits_43 rfl rfl <| o_iconst (pc := 44) dX6_fits_44 lc_1 <| o_iload_n (pc := 45) 3 dX6_fits_45 rfl rfl <| o_ishl (pc := 46) dX6_fits_46 <| o_ior (pc := 47) dX6_fits_47 <| ?_
        refine o_lt fun x5 => ?_
        refine o_istore_n (pc := 48) (ls' := [(2, .int x5), (0, .ref 0), (1, .int u1), (3, .int v3)]) dX6_fits_48 rfl (Nat.le_of_ble_eq_true rfl) rfl <| o_iinc (pc := 49) 3 (v := v3 + 1) (ls' := [(3, .int (v3 + 1)), (2, .int x5), (0, .ref 0), (1, .int u1)]) dX6_fits_49 rfl rfl (Nat.le_of_ble_eq_true rfl) rfl <| ?_
        refine o_ltL (ls := fun x6 => [(3, .int x6), (2, .int x5), (0, .ref 0), (1, .int u1)]) fun x6 => ?_
        refine o_goto (pc := 52) (tgt := 20) dX6_fits_52 rfl <| ?_
        refine o_sub [2, 3, 1, 0] (ls' := [(0, .ref 0), (1, .int u1), (2, .int x5), (3, .int x6)]) rfl ?_
        exact ih0 r2.2 x5 x6
def fC_fits (sh : Sh) (R : RR) (m : MI) : Option (Int32 × MI) :=
  (fW_wholeShorts sh R m).bind fun r1 =>
  (fW_wholeLongs sh R r1.2).bind fun r2 =>
  lt (r1.1 + r2.1) fun x3 =>
  fC_fits_l20 sh R x3
    (fun m6 z4 z5 =>
      some (z4, m6)
      )
    1000 r2.2 0 1
theorem sC_fits {sh : Sh} {R : RR} (hF : Fx sh R) (m : MI) : KS (eI sh R) false 5 0 0 YX6_fits sh R m [.ref 0] (fC_fits sh R m ) := by
  refine KS_of pn_X6 (fun _ => Nat.le_of_ble_eq_true rfl) ?_
  change S _ _ _ _ _ _ _ _ _ _ [(0, .ref 0)] [] _
  unfold fC_fits
  refine o_aload_n (pc := 0) 0 dX6_fits_0 rfl rfl <| o_getRc (pc := 1) (a := 1) (ci := 6) (j := 0) (nn := 0) dX6_fits_1 (hF.1 _ _ rfl) rfl (Nat.le_of_ble_eq_true rfl) k_292 rfl (hF.2 _ _ _ rfl) <| ?_
  refine o_callVI (Y2 := YX5_wholeShorts) (pc := 4) (av := []) (rest := []) dX6_fits_4 k_678 cm_X5_wholeShorts (sW_wholeShorts hF m ) (hF.1 _ _ rfl) rfl rfl (Nat.le_of_ble_eq_true rfl) (Nat.le_of_ble_eq_true rfl) fun r1 => ?_
  refine o_aload_n (pc := 7) 0 dX6_fits_7 rfl rfl <| o_getRc (pc := 8) (a := 1) (ci := 6) (j := 0) (nn := 0) dX6_fits_8 (hF.1 _ _ rfl) rfl (Nat.le_of_ble_eq_true rfl) k_292 rfl (hF.2 _ _ _ rfl) <| ?_
  refine o_callVI (Y2 := YX5_wholeLongs) (pc := 11) (av := []) (rest := [.int r1.1]) dX6_fits_11 k_679 cm_X5_wholeLongs (sW_wholeLongs hF r1.2 ) (hF.1 _ _ rfl) rfl rfl (Nat.le_of_ble_eq_true rfl) (Nat.le_of_ble_eq_true rfl) fun r2 => ?_
  refine o_iadd (pc := 14) dX6_fits_14 <| ?_
  refine o_lt fun x3 => ?_
  refine o_istore_n (pc := 15) (ls' := [(1, .int x3), (0, .ref 0)]) dX6_fits_15 rfl (Nat.le_of_ble_eq_true rfl) rfl <| o_iconst (pc := 16) dX6_fits_16 lc_0 <| o_istore_n (pc := 17) (ls' := [(2, .int 0), (1, .int x3), (0, .ref 0)]) dX6_fits_17 rfl (Nat.le_of_ble_eq_true rfl) rfl <| o_iconst (pc := 18) dX6_fits_18 lc_1 <| o_istore_n (pc := 19) (ls' := [(3, .int 1), (2, .int 0), (1, .int x3), (0, .ref 0)]) dX6_fits_19 rfl (Nat.le_of_ble_eq_true rfl) rfl <| ?_
  refine o_sub [3, 2, 1, 0] (ls' := [(0, .ref 0), (1, .int x3), (2, .int 0), (3, .int 1)]) rfl ?_
  refine sC_fits_l20 hF x3 _ ?_ 1000 r2.2 0 1
  · intro m6 z4 z5
    refine o_iload_n (pc := 55) 2 dX6_fits_55 rfl rfl <| ?_
    exact o_iret (pc := 56) dX6_fits_56 rfl rfl
def fC_odds (sh : Sh) (R : RR) (m : MI) (a : Int32) (b : Int32) : Option (Int64 × MI) :=
  (fW_has m a).bind fun r1 =>
  if r1.1 = 0 then
    some (-9223372036854775808, r1.2)
  else
    (fC_isPart r1.2 b).bind fun r3 =>
    if r3.1 = 0 then
      some (-9223372036854775808, r3.2)
    else
      (fL_begin sh R r3.2 0).bind fun r5 =>
      (fL_ofOne_12 sh R r5 a).bind fun r6 =>
      (fC_lowest r6.2 (r6.1.toInt64) 1000000 b).bind fun r7 =>
      some (r7.1, r7.2)
theorem sC_odds {sh : Sh} {R : RR} (hF : Fx sh R) (m : MI) (a : Int32) (b : Int32) : KS (eL sh R) false 7 0 0 YX6_odds sh R m [.ref 0, .int a, .int b] (fC_odds sh R m a b) := by
  refine KS_of pn_X6 (fun _ => Nat.le_of_ble_eq_true rfl) ?_
  change S _ _ _ _ _ _ _ _ _ _ [(0, .ref 0), (1, .int a), (2, .int b)] [] _
  unfold fC_odds
  refine o_aload_n (pc := 0) 0 dX6_odds_0 rfl rfl <| o_getRc (pc := 1) (a := 1) (ci := 6) (j := 0) (nn := 0) dX6_odds_1 (hF.1 _ _ rfl) rfl (Nat.le_of_ble_eq_true rfl) k_292 rfl (hF.2 _ _ _ rfl) <| o_iload_n (pc := 4) 1 dX6_odds_4 rfl rfl <| ?_
  refine o_callVI (Y2 := YX5_has) (pc := 5) (av := [.int a]) (rest := []) dX6_odds_5 k_353 cm_X5_has (sW_has hF m a) (hF.1 _ _ rfl) rfl rfl (Nat.le_of_ble_eq_true rfl) (Nat.le_of_ble_eq_true rfl) fun r1 => ?_
  refine o_if_eq (pc := 8) (tgt := 18) dX6_odds_8 rfl (fun h2 => ?_) (fun h2 => ?_)
  · refine o_ldc2 (pc := 18) dX6_odds_18 k_690 <| ?_
    exact o_lret (pc := 21) dX6_odds_21 rfl rfl
  · refine o_iload_n (pc := 11) 2 dX6_odds_11 rfl rfl <| ?_
    refine o_callSI (Y2 := YX6_isPart) (pc := 12) (av := [.int b]) (rest := []) dX6_odds_12 k_687 cs_X6_isPart (sC_isPart hF r1.2 b) rfl rfl (Nat.le_of_ble_eq_true rfl) (Nat.le_of_ble_eq_true rfl) fun r3 => ?_
    refine o_if_ne (pc := 15) (tgt := 22) dX6_odds_15 rfl (fun h4 => ?_) (fun h4 => ?_)
    · refine o_ldc2 (pc := 18) dX6_odds_18 k_690 <| ?_
      exact o_lret (pc := 21) dX6_odds_21 rfl rfl
    · refine o_aload_n (pc := 22) 0 dX6_odds_22 rfl rfl <| o_getRc (pc := 23) (a := 37) (ci := 6) (j := 3) (nn := 0) dX6_odds_23 (hF.1 _ _ rfl) rfl (Nat.le_of_ble_eq_true rfl) k_295 rfl (hF.2 _ _ _ rfl) <| o_iconst (pc := 26) dX6_odds_26 lc_0 <| ?_
      refine o_callVV (Y2 := YX3_begin) (pc := 27) (av := [.int 0]) (rest := []) dX6_odds_27 k_618 cm_X3_begin (sL_begin hF r3.2 0) (hF.1 _ _ rfl) rfl rfl (Nat.le_of_ble_eq_true rfl) (Nat.le_of_ble_eq_true rfl) fun r5 => ?_
      refine o_aload_n (pc := 30) 0 dX6_odds_30 rfl rfl <| o_getRc (pc := 31) (a := 37) (ci := 6) (j := 3) (nn := 0) dX6_odds_31 (hF.1 _ _ rfl) rfl (Nat.le_of_ble_eq_true rfl) k_295 rfl (hF.2 _ _ _ rfl) <| o_iload_n (pc := 34) 1 dX6_odds_34 rfl rfl <| o_aload_n (pc := 35) 0 dX6_odds_35 rfl rfl <| o_getRc (pc := 36) (a := 1) (ci := 6) (j := 0) (nn := 0) dX6_odds_36 (hF.1 _ _ rfl) rfl (Nat.le_of_ble_eq_true rfl) k_292 rfl (hF.2 _ _ _ rfl) <| o_getRc (pc := 39) (a := 12) (ci := 5) (j := 5) (nn := 0) dX6_odds_39 (hF.1 _ _ rfl) rfl (Nat.le_of_ble_eq_true rfl) k_135 rfl (hF.2 _ _ _ rfl) <| ?_
      refine o_callVI (Y2 := YX3_ofOne) (pc := 42) (av := [.int a, .ref 12]) (rest := []) dX6_odds_42 k_625 cm_X3_ofOne (sL_ofOne_12 hF r5 a) (hF.1 _ _ rfl) rfl rfl (Nat.le_of_ble_eq_true rfl) (Nat.le_of_ble_eq_true rfl) fun r6 => ?_
      refine o_i2l (pc := 45) dX6_odds_45 <| o_ldc2 (pc := 46) dX6_odds_46 k_738 <| o_iload_n (pc := 49) 2 dX6_odds_49 rfl rfl <| ?_
      refine o_callSL (Y2 := YX6_lowest) (pc := 50) (av := [.long (r6.1.toInt64), .long 1000000, .int b]) (rest := []) dX6_odds_50 k_697 cs_X6_lowest (sC_lowest hF r6.2 (r6.1.toInt64) 1000000 b) rfl rfl (Nat.le_of_ble_eq_true rfl) (Nat.le_of_ble_eq_true rfl) fun r7 => ?_
      exact o_lret (pc := 53) dX6_odds_53 rfl rfl
def fC_mean_l48 (u1 : Int32) (k0_0 : MI → Int64 → Int32 → Option (Int64 × MI)) : Nat → MI → Int64 → Int32 → Option (Int64 × MI)
  | 0, _, _, _ => none
  | n0 + 1, m, v2, v4 =>
    if m.1 1 0 ≤ v4 then
      k0_0 m v2 v4
    else
      if ck v4 6 = true then
        ltl (v2 + ((m.1 38 v4.toNatClampNeg).toInt64)) fun y3 =>
        lt (v4 + 1) fun x4 =>
        fC_mean_l48 u1 k0_0 n0 m y3 x4
      else none
theorem sC_mean_l48 {sh : Sh} {R : RR} (hF : Fx sh R) (u1 : Int32) (k0_0 : MI → Int64 → Int32 → Option (Int64 × MI)) (hk0_0 : ∀ (m : MI) (v2 : Int64) (v4 : Int32) , S (eL sh R) false 6 0 0 YX6_mean sh R m 80 [(0, .ref 0), (1, .int u1), (2, .long v2), (4, .int v4)] [] (k0_0 m v2 v4)) : ∀ (n : Nat) (m : MI) (v2 : Int64) (v4 : Int32) , S (eL sh R) false 6 0 0 YX6_mean sh R m 48 [(0, .ref 0), (1, .int u1), (2, .long v2), (4, .int v4)] [] (fC_mean_l48 u1 k0_0 n m v2 v4) := by
  intro n
  induction n with
  | zero => intros; exact S_none
  | succ n0 ih0 =>
    intro m v2 v4
    rw [fC_mean_l48]
    refine o_iload (pc := 48) 3 dX6_mean_48 rfl <| o_aload_n (pc := 50) 0 dX6_mean_50 rfl rfl <| o_getRc (pc := 51) (a := 1) (ci := 6) (j := 0) (nn := 0) dX6_mean_51 (hF.1 _ _ rfl) rfl (Nat.le_of_ble_eq_true rfl) k_292 rfl (hF.2 _ _ _ rfl) <| o_getI (pc := 54) (ci := 5) (j := 0) (nn := 0) dX6_mean_54 (hF.1 _ _ rfl) rfl (Nat.le_of_ble_eq_true rfl) k_124 rfl <| ?_
    refine o_icmp_ge (pc := 57) (tgt := 80) dX6_mean_57 rfl (fun h1 => ?_) (fun h1 => ?_)
    · exact hk0_0 m v2 v4
    · refine o_lload_n (pc := 60) 2 dX6_mean_60 rfl rfl <| o_aload_n (pc := 61) 0 dX6_mean_61 rfl rfl <| o_getRc (pc := 62) (a := 37) (ci := 6) (j := 3) (nn := 0) dX6_mean_62 (hF.1 _ _ rfl) rfl (Nat.le_of_ble_eq_true rfl) k_295 rfl (hF.2 _ _ _ rfl) <| o_getRc (pc := 65) (a := 38) (ci := 3) (j := 0) (nn := 0) dX6_mean_65 (hF.1 _ _ rfl) rfl (Nat.le_of_ble_eq_true rfl) k_199 rfl (hF.2 _ _ _ rfl) <| o_iload (pc := 68) 3 dX6_mean_68 rfl <| ?_
      refine S_ck fun h2 => ?_
      refine o_iald (pc := 70) (nn := 6) dX6_mean_70 (hF.1 _ _ rfl) (ck_in h2) <| o_i2l (pc := 71) dX6_mean_71 <| o_ladd (pc := 72) dX6_mean_72 <| ?_
      refine o_ltl fun y3 => ?_
      refine o_lstore_n (pc := 73) (ls' := [(2, .long y3), (0, .ref 0), (1, .int u1), (4, .int v4)]) dX6_mean_73 rfl (Nat.le_of_ble_eq_true rfl) rfl <| o_iinc (pc := 74) 3 (v := v4 + 1) (ls' := [(4, .int (v4 + 1)), (2, .long y3), (0, .ref 0), (1, .int u1)]) dX6_mean_74 rfl rfl (Nat.le_of_ble_eq_true rfl) rfl <| ?_
      refine o_ltL (ls := fun x4 => [(4, .int x4), (2, .long y3), (0, .ref 0), (1, .int u1)]) fun x4 => ?_
      refine o_goto (pc := 77) (tgt := 48) dX6_mean_77 rfl <| ?_
      refine o_sub [2, 3, 1, 0] (ls' := [(0, .ref 0), (1, .int u1), (2, .long y3), (4, .int x4)]) rfl ?_
      exact ih0 m y3 x4
def fC_mean (sh : Sh) (R : RR) (m : MI) (a : Int32) : Option (Int64 × MI) :=
  (fC_isPart m a).bind fun r1 =>
  if r1.1 = 0 then
    some (-9223372036854775808, r1.2)
  else
    if r1.2.1 1 0 = 0 then
      some (-9223372036854775808, r1.2)
    else
      (fL_begin sh R r1.2 0).bind fun r4 =>
      (fL_goThrough_12 sh R r4).bind fun r5 =>
      fC_mean_l48 a
        (fun m8 z6 z7 =>
          (fC_lowest m8 z6 1000000 a).bind fun r9 =>
          some (r9.1, r9.2)
          )
        1000 r5 0 0
theorem sC_mean {sh : Sh} {R : RR} (hF : Fx sh R) (m : MI) (a : Int32) : KS (eL sh R) false 6 0 0 YX6_mean sh R m [.ref 0, .int a] (fC_mean sh R m a) := by
  refine KS_of pn_X6 (fun _ => Nat.le_of_ble_eq_true rfl) ?_
  change S _ _ _ _ _ _ _ _ _ _ [(0, .ref 0), (1, .int a)] [] _
  unfold fC_mean
  refine o_iload_n (pc := 0) 1 dX6_mean_0 rfl rfl <| ?_
  refine o_callSI (Y2 := YX6_isPart) (pc := 1) (av := [.int a]) (rest := []) dX6_mean_1 k_687 cs_X6_isPart (sC_isPart hF m a) rfl rfl (Nat.le_of_ble_eq_true rfl) (Nat.le_of_ble_eq_true rfl) fun r1 => ?_
  refine o_if_eq (pc := 4) (tgt := 17) dX6_mean_4 rfl (fun h2 => ?_) (fun h2 => ?_)
  · refine o_ldc2 (pc := 17) dX6_mean_17 k_690 <| ?_
    exact o_lret (pc := 20) dX6_mean_20 rfl rfl
  · refine o_aload_n (pc := 7) 0 dX6_mean_7 rfl rfl <| o_getRc (pc := 8) (a := 1) (ci := 6) (j := 0) (nn := 0) dX6_mean_8 (hF.1 _ _ rfl) rfl (Nat.le_of_ble_eq_true rfl) k_292 rfl (hF.2 _ _ _ rfl) <| o_getI (pc := 11) (ci := 5) (j := 0) (nn := 0) dX6_mean_11 (hF.1 _ _ rfl) rfl (Nat.le_of_ble_eq_true rfl) k_124 rfl <| ?_
    refine o_if_ne (pc := 14) (tgt := 21) dX6_mean_14 rfl (fun h3 => ?_) (fun h3 => ?_)
    · refine o_ldc2 (pc := 17) dX6_mean_17 k_690 <| ?_
      exact o_lret (pc := 20) dX6_mean_20 rfl rfl
    · refine o_aload_n (pc := 21) 0 dX6_mean_21 rfl rfl <| o_getRc (pc := 22) (a := 37) (ci := 6) (j := 3) (nn := 0) dX6_mean_22 (hF.1 _ _ rfl) rfl (Nat.le_of_ble_eq_true rfl) k_295 rfl (hF.2 _ _ _ rfl) <| o_iconst (pc := 25) dX6_mean_25 lc_0 <| ?_
      refine o_callVV (Y2 := YX3_begin) (pc := 26) (av := [.int 0]) (rest := []) dX6_mean_26 k_618 cm_X3_begin (sL_begin hF r1.2 0) (hF.1 _ _ rfl) rfl rfl (Nat.le_of_ble_eq_true rfl) (Nat.le_of_ble_eq_true rfl) fun r4 => ?_
      refine o_aload_n (pc := 29) 0 dX6_mean_29 rfl rfl <| o_getRc (pc := 30) (a := 37) (ci := 6) (j := 3) (nn := 0) dX6_mean_30 (hF.1 _ _ rfl) rfl (Nat.le_of_ble_eq_true rfl) k_295 rfl (hF.2 _ _ _ rfl) <| o_aload_n (pc := 33) 0 dX6_mean_33 rfl rfl <| o_getRc (pc := 34) (a := 1) (ci := 6) (j := 0) (nn := 0) dX6_mean_34 (hF.1 _ _ rfl) rfl (Nat.le_of_ble_eq_true rfl) k_292 rfl (hF.2 _ _ _ rfl) <| o_getRc (pc := 37) (a := 12) (ci := 5) (j := 5) (nn := 0) dX6_mean_37 (hF.1 _ _ rfl) rfl (Nat.le_of_ble_eq_true rfl) k_135 rfl (hF.2 _ _ _ rfl) <| ?_
      refine o_callVV (Y2 := YX3_goThrough) (pc := 40) (av := [.ref 12]) (rest := []) dX6_mean_40 k_743 cm_X3_goThrough (sL_goThrough_12 hF r4 ) (hF.1 _ _ rfl) rfl rfl (Nat.le_of_ble_eq_true rfl) (Nat.le_of_ble_eq_true rfl) fun r5 => ?_
      refine o_lconst (pc := 43) (x := 0) dX6_mean_43 rfl <| o_lstore_n (pc := 44) (ls' := [(2, .long 0), (0, .ref 0), (1, .int a)]) dX6_mean_44 rfl (Nat.le_of_ble_eq_true rfl) rfl <| o_iconst (pc := 45) dX6_mean_45 lc_0 <| o_istore (pc := 46) (ls' := [(4, .int 0), (2, .long 0), (0, .ref 0), (1, .int a)]) dX6_mean_46 (Nat.le_of_ble_eq_true rfl) rfl <| ?_
      refine o_sub [2, 3, 1, 0] (ls' := [(0, .ref 0), (1, .int a), (2, .long 0), (4, .int 0)]) rfl ?_
      refine sC_mean_l48 hF a _ ?_ 1000 r5 0 0
      · intro m8 z6 z7
        refine o_lload_n (pc := 80) 2 dX6_mean_80 rfl rfl <| o_ldc2 (pc := 81) dX6_mean_81 k_738 <| o_iload_n (pc := 84) 1 dX6_mean_84 rfl rfl <| ?_
        refine o_callSL (Y2 := YX6_lowest) (pc := 85) (av := [.long z6, .long 1000000, .int a]) (rest := []) dX6_mean_85 k_697 cs_X6_lowest (sC_lowest hF m8 z6 1000000 a) rfl rfl (Nat.le_of_ble_eq_true rfl) (Nat.le_of_ble_eq_true rfl) fun r9 => ?_
        exact o_lret (pc := 88) dX6_mean_88 rfl rfl
def fC_book (m : MI) (a : Int32) : Option (Int32 × MI) :=
  if a = -1 then
    lm (mI m 1 (upd (m.1 1) 13 0)) fun m2 =>
    some (0, m2)
  else
    (fC_isDrawNumber m a).bind fun r3 =>
    if r3.1 = 0 then
      some (-2, r3.2)
    else
      if r3.2.1 1 13 < 8 then
        if ck (r3.2.1 1 13) 8 = true then
          lm (mI r3.2 15 (upd (r3.2.1 15) (r3.2.1 1 13).toNatClampNeg a)) fun m7 =>
          lm (mI m7 1 (upd (m7.1 1) 13 ((m7.1 1 13) + 1))) fun m8 =>
          some (m8.1 1 13, m8)
        else none
      else
        some (-4, r3.2)
theorem sC_book {sh : Sh} {R : RR} (hF : Fx sh R) (m : MI) (a : Int32) : KS (eI sh R) false 1 0 0 YX6_book sh R m [.ref 0, .int a] (fC_book m a) := by
  refine KS_of pn_X6 (fun _ => Nat.le_of_ble_eq_true rfl) ?_
  change S _ _ _ _ _ _ _ _ _ _ [(0, .ref 0), (1, .int a)] [] _
  unfold fC_book
  refine o_iload_n (pc := 0) 1 dX6_book_0 rfl rfl <| o_iconst (pc := 1) dX6_book_1 lc_m1 <| ?_
  refine o_icmp_ne (pc := 2) (tgt := 15) dX6_book_2 rfl (fun h1 => ?_) (fun h1 => ?_)
  · refine o_aload_n (pc := 5) 0 dX6_book_5 rfl rfl <| o_getRc (pc := 6) (a := 1) (ci := 6) (j := 0) (nn := 0) dX6_book_6 (hF.1 _ _ rfl) rfl (Nat.le_of_ble_eq_true rfl) k_292 rfl (hF.2 _ _ _ rfl) <| o_iconst (pc := 9) dX6_book_9 lc_0 <| o_putI (pc := 10) (ci := 5) (j := 13) (nn := 0) dX6_book_10 (hF.1 _ _ rfl) rfl (Nat.le_of_ble_eq_true rfl) k_151 rfl rfl rfl rfl rfl <| ?_
    refine o_lm fun m2 => ?_
    refine o_iconst (pc := 13) dX6_book_13 lc_0 <| ?_
    exact o_iret (pc := 14) dX6_book_14 rfl rfl
  · refine o_iload_n (pc := 15) 1 dX6_book_15 rfl rfl <| ?_
    refine o_callSI (Y2 := YX6_isDrawNumber) (pc := 16) (av := [.int a]) (rest := []) dX6_book_16 k_604 cs_X6_isDrawNumber (sC_isDrawNumber hF m a) rfl rfl (Nat.le_of_ble_eq_true rfl) (Nat.le_of_ble_eq_true rfl) fun r3 => ?_
    refine o_if_ne (pc := 19) (tgt := 25) dX6_book_19 rfl (fun h4 => ?_) (fun h4 => ?_)
    · refine o_bipush (pc := 22) dX6_book_22 lb_m2 <| ?_
      exact o_iret (pc := 24) dX6_book_24 rfl rfl
    · refine o_aload_n (pc := 25) 0 dX6_book_25 rfl rfl <| o_getRc (pc := 26) (a := 1) (ci := 6) (j := 0) (nn := 0) dX6_book_26 (hF.1 _ _ rfl) rfl (Nat.le_of_ble_eq_true rfl) k_292 rfl (hF.2 _ _ _ rfl) <| o_getI (pc := 29) (ci := 5) (j := 13) (nn := 0) dX6_book_29 (hF.1 _ _ rfl) rfl (Nat.le_of_ble_eq_true rfl) k_151 rfl <| o_bipush (pc := 32) dX6_book_32 lb_8 <| ?_
      refine o_icmp_lt (pc := 34) (tgt := 40) dX6_book_34 rfl (fun h5 => ?_) (fun h5 => ?_)
      · refine o_aload_n (pc := 40) 0 dX6_book_40 rfl rfl <| o_getRc (pc := 41) (a := 1) (ci := 6) (j := 0) (nn := 0) dX6_book_41 (hF.1 _ _ rfl) rfl (Nat.le_of_ble_eq_true rfl) k_292 rfl (hF.2 _ _ _ rfl) <| o_getRc (pc := 44) (a := 15) (ci := 5) (j := 14) (nn := 0) dX6_book_44 (hF.1 _ _ rfl) rfl (Nat.le_of_ble_eq_true rfl) k_153 rfl (hF.2 _ _ _ rfl) <| o_aload_n (pc := 47) 0 dX6_book_47 rfl rfl <| o_getRc (pc := 48) (a := 1) (ci := 6) (j := 0) (nn := 0) dX6_book_48 (hF.1 _ _ rfl) rfl (Nat.le_of_ble_eq_true rfl) k_292 rfl (hF.2 _ _ _ rfl) <| o_getI (pc := 51) (ci := 5) (j := 13) (nn := 0) dX6_book_51 (hF.1 _ _ rfl) rfl (Nat.le_of_ble_eq_true rfl) k_151 rfl <| o_iload_n (pc := 54) 1 dX6_book_54 rfl rfl <| ?_
        refine S_ck fun h6 => ?_
        refine o_iast (pc := 55) (nn := 8) dX6_book_55 (hF.1 _ _ rfl) (ck_in h6) <| ?_
        refine o_lm fun m7 => ?_
        refine o_aload_n (pc := 56) 0 dX6_book_56 rfl rfl <| o_getRc (pc := 57) (a := 1) (ci := 6) (j := 0) (nn := 0) dX6_book_57 (hF.1 _ _ rfl) rfl (Nat.le_of_ble_eq_true rfl) k_292 rfl (hF.2 _ _ _ rfl) <| o_dup (pc := 60) dX6_book_60 rfl <| o_getI (pc := 61) (ci := 5) (j := 13) (nn := 0) dX6_book_61 (hF.1 _ _ rfl) rfl (Nat.le_of_ble_eq_true rfl) k_151 rfl <| o_iconst (pc := 64) dX6_book_64 lc_1 <| o_iadd (pc := 65) dX6_book_65 <| o_putI (pc := 66) (ci := 5) (j := 13) (nn := 0) dX6_book_66 (hF.1 _ _ rfl) rfl (Nat.le_of_ble_eq_true rfl) k_151 rfl rfl rfl rfl rfl <| ?_
        refine o_lm fun m8 => ?_
        refine o_aload_n (pc := 69) 0 dX6_book_69 rfl rfl <| o_getRc (pc := 70) (a := 1) (ci := 6) (j := 0) (nn := 0) dX6_book_70 (hF.1 _ _ rfl) rfl (Nat.le_of_ble_eq_true rfl) k_292 rfl (hF.2 _ _ _ rfl) <| o_getI (pc := 73) (ci := 5) (j := 13) (nn := 0) dX6_book_73 (hF.1 _ _ rfl) rfl (Nat.le_of_ble_eq_true rfl) k_151 rfl <| ?_
        exact o_iret (pc := 76) dX6_book_76 rfl rfl
      · refine o_bipush (pc := 37) dX6_book_37 lb_m4 <| ?_
        exact o_iret (pc := 39) dX6_book_39 rfl rfl
